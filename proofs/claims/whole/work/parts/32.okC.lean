set_option maxHeartbeats 4000000 in
set_option maxRecDepth 100000 in
theorem ok_X10_in {Y : DX} {v0 : Int64} {v2 : Int64} {v4 : Int64}  {G : GM} {r : Int32} {G' : GM} (hf : f_X10_in v0 v2 v4 G = some (r, G')) : OkI Y 1 M_X10_in [.long v0, .long v2, .long v4] G r G' := by
  refine okZ_of (lv0 := [(0, .long v0), (2, .long v2), (4, .long v4)]) (by decide +kernel) rfl (Nat.le_of_ble_eq_true rfl) ?_
  intro X Q hX hR
  have hX : CXok X Y RX10 cX10_in 6 _ := hX
  revert hf
  show J X Y 6 Q 0 [(0, .long v0), (2, .long v2), (4, .long v4)] [] G (f_X10_in v0 v2 v4 G = some (r, G'))
  unfold f_X10_in
  refine J_lload_n 0 hX dX10_in_0 fz0 rfl ?_
  refine J_lload_n 1 hX dX10_in_1 fz2 rfl ?_
  refine J_lcmp hX dX10_in_2 ?_
  refine J_if_lt (tgt := 17) hX dX10_in_3 rfl ?_ ?_
  · refine J_iconst hX dX10_in_17 ci_0 ?_
    exact J_retZ hR (by decide) dX10_in_18
  · refine J_lload_n 0 hX dX10_in_6 fz0 rfl ?_
    refine J_lload 2 hX dX10_in_7 rfl ?_
    refine J_lcmp hX dX10_in_9 ?_
    refine J_if_gt (tgt := 17) hX dX10_in_10 rfl ?_ ?_
    · refine J_iconst hX dX10_in_17 ci_0 ?_
      exact J_retZ hR (by decide) dX10_in_18
    · refine J_iconst hX dX10_in_13 ci_1 ?_
      refine J_goto (tgt := 18) hX dX10_in_14 rfl ?_
      exact J_retZ hR (by decide) dX10_in_18
set_option maxHeartbeats 4000000 in
set_option maxRecDepth 100000 in
theorem ok_X10_isSlot {Y : DX} {v0 : Int32}  {G : GM} {r : Int32} {G' : GM} (hf : f_X10_isSlot v0 G = some (r, G')) : OkI Y 2 M_X10_isSlot [.int v0] G r G' := by
  refine okZ_of (lv0 := [(0, .int v0)]) (by decide +kernel) rfl (Nat.le_of_ble_eq_true rfl) ?_
  intro X Q hX hR
  have hX : CXok X Y RX10 cX10_isSlot 1 _ := hX
  revert hf
  show J X Y 1 Q 0 [(0, .int v0)] [] G (f_X10_isSlot v0 G = some (r, G'))
  unfold f_X10_isSlot
  refine J_iload_n 0 hX dX10_isSlot_0 fz0 rfl ?_
  refine J_i2l hX dX10_isSlot_1 ?_
  refine J_lconst hX dX10_isSlot_2 fy0 ?_
  refine J_ldc2 hX dX10_isSlot_3 ll_X10_98 ?_
  refine J_callSI (As := [.long (v0.toInt64), .long (0 : Int64), .long (3 : Int64)]) (st := []) hX ms_X10_100 rfl rfl (Nat.le_of_ble_eq_true rfl) (Nat.le_of_ble_eq_true rfl) (Nat.le_of_ble_eq_true rfl) dX10_isSlot_6 (fun r G1 h => ok_X10_in  h) fun r6 G6 => ?_
  exact J_retZg hR dX10_isSlot_9
set_option maxHeartbeats 4000000 in
set_option maxRecDepth 100000 in
theorem ok_X10_row {Y : DX} {v1 : Int32} {v2 : Int32} {v3 : Int32}  {G : GM} {r : Int32} {G' : GM} (hf : f_X10_row v1 v2 v3 G = some (r, G')) : OkI Y 3 M_X10_row [.ref (AD Y 186), .int v1, .int v2, .int v3] G r G' := by
  refine okI_of (lv0 := [(0, .ref (AD Y 186)), (1, .int v1), (2, .int v2), (3, .int v3)]) (by decide +kernel) rfl (Nat.le_of_ble_eq_true rfl) ?_
  intro X Q hX hR
  have hX : CXok X Y RX10 cX10_row 5 _ := hX
  revert hf
  show J X Y 5 Q 0 [(0, .ref (AD Y 186)), (1, .int v1), (2, .int v2), (3, .int v3)] [] G (f_X10_row v1 v2 v3 G = some (r, G'))
  have K57 : ∀  (n : Nat) (v4 : Int32) (G : GM), J X Y 5 Q 57 [(0, .ref (AD Y 186)), (1, .int v1), (3, .int v3), (4, .int v4)] [] G (wl1 n (lp_X10_row_57 v1 v2 v3) v4 G = some (r, G')) := by
    refine wl1_ind (R := fun v4 G φ => J X Y 5 Q 57 [(0, .ref (AD Y 186)), (1, .int v1), (3, .int v3), (4, .int v4)] [] G φ) (fun _ G φ h => J_no h) ?_
    intro kc57 hk57 v4 G
    unfold lp_X10_row_57
    refine J_iload 3 hX dX10_row_57 rfl ?_
    refine J_iload_n 2 hX dX10_row_59 fz3 rfl ?_
    refine J_icmp_ge (tgt := 82) hX dX10_row_60 rfl ?_ ?_
    · refine J_iconst hX dX10_row_82 ci_0 ?_
      exact J_retI hR dX10_row_83
    · refine J_aload_n 0 hX dX10_row_63 fz0 rfl ?_
      refine J_getR (b := 189) hX dX10_row_64 lf_X10_16 sk_186 rfl (by decide) rfl ?_
      refine J_bipush hX dX10_row_67 cb_60 ?_
      refine J_iload_n 1 hX dX10_row_69 fz1 rfl ?_
      refine J_imul hX dX10_row_70 ?_
      refine J_iload 3 hX dX10_row_71 rfl ?_
      refine J_iadd hX dX10_row_73 ?_
      refine J_lconst hX dX10_row_74 fy0 ?_
      refine J_last hX dX10_row_75 sk_189 ln_189 fun G75 => ?_
      refine J_iinc (lv' := [(4, .int (v4 + (1 : Int32))), (0, .ref (AD Y 186)), (1, .int v1), (3, .int v3)]) 3 hX dX10_row_76 rfl ci_1 (Nat.le_of_ble_eq_true rfl) rfl ?_
      refine J_goto (tgt := 57) hX dX10_row_79 rfl ?_
      refine J_sub (lv' := [(0, .ref (AD Y 186)), (1, .int v1), (3, .int v3), (4, .int (v4 + (1 : Int32)))]) [1, 2, 3, 0] rfl ?_
      exact hk57 (v4 + (1 : Int32)) G75
  unfold f_X10_row
  refine J_aload_n 0 hX dX10_row_0 fz0 rfl ?_
  refine J_iconst hX dX10_row_1 ci_0 ?_
  refine J_putI hX dX10_row_2 lf_X10_95 lpt_9_0 sk_186 rfl fun G2 => ?_
  refine J_iload_n 1 hX dX10_row_5 fz1 rfl ?_
  refine J_callSI (As := [.int v1]) (st := []) hX ms_X10_104 rfl rfl (Nat.le_of_ble_eq_true rfl) (Nat.le_of_ble_eq_true rfl) (Nat.le_of_ble_eq_true rfl) dX10_row_6 (fun r G1 h => ok_X10_isSlot  h) fun r6 G6 => ?_
  refine J_if_eq (tgt := 30) hX dX10_row_9 rfl ?_ ?_
  · refine J_bipush hX dX10_row_30 cbm_2 ?_
    exact J_retI hR dX10_row_32
  · refine J_iload_n 2 hX dX10_row_12 fz2 rfl ?_
    refine J_i2l hX dX10_row_13 ?_
    refine J_lconst hX dX10_row_14 fy0 ?_
    refine J_ldc2 hX dX10_row_15 ll_X10_98 ?_
    refine J_callSI (As := [.long (v2.toInt64), .long (0 : Int64), .long (3 : Int64)]) (st := []) hX ms_X10_100 rfl rfl (Nat.le_of_ble_eq_true rfl) (Nat.le_of_ble_eq_true rfl) (Nat.le_of_ble_eq_true rfl) dX10_row_18 (fun r G1 h => ok_X10_in  h) fun r18 G18 => ?_
    refine J_if_eq (tgt := 30) hX dX10_row_21 rfl ?_ ?_
    · refine J_bipush hX dX10_row_30 cbm_2 ?_
      exact J_retI hR dX10_row_32
    · refine J_iload_n 3 hX dX10_row_24 fz3 rfl ?_
      refine J_bipush hX dX10_row_25 cb_60 ?_
      refine J_icmp_le (tgt := 33) hX dX10_row_27 rfl ?_ ?_
      · refine J_iload_n 3 hX dX10_row_33 fz3 rfl ?_
        refine J_if_ge (tgt := 40) hX dX10_row_34 rfl ?_ ?_
        · refine J_aload_n 0 hX dX10_row_40 fz0 rfl ?_
          refine J_getR (b := 187) hX dX10_row_41 lf_X10_7 sk_186 rfl (by decide) rfl ?_
          refine J_iload_n 1 hX dX10_row_44 fz1 rfl ?_
          refine J_iload_n 2 hX dX10_row_45 fz2 rfl ?_
          refine J_iast hX dX10_row_46 sk_187 ln_187 fun G46 => ?_
          refine J_aload_n 0 hX dX10_row_47 fz0 rfl ?_
          refine J_getR (b := 188) hX dX10_row_48 lf_X10_13 sk_186 rfl (by decide) rfl ?_
          refine J_iload_n 1 hX dX10_row_51 fz1 rfl ?_
          refine J_iload_n 3 hX dX10_row_52 fz3 rfl ?_
          refine J_iast hX dX10_row_53 sk_188 ln_188 fun G53 => ?_
          refine J_iconst hX dX10_row_54 ci_0 ?_
          refine J_istore (lv' := [(4, .int (0 : Int32)), (0, .ref (AD Y 186)), (1, .int v1), (2, .int v2), (3, .int v3)]) hX dX10_row_55 (Nat.le_of_ble_eq_true rfl) rfl ?_
          refine J_sub (lv' := [(0, .ref (AD Y 186)), (1, .int v1), (3, .int v3), (4, .int (0 : Int32))]) [1, 2, 4, 0] rfl ?_
          exact K57  FU (0 : Int32) G53
        · refine J_bipush hX dX10_row_37 cbm_3 ?_
          exact J_retI hR dX10_row_39
      · refine J_bipush hX dX10_row_30 cbm_2 ?_
        exact J_retI hR dX10_row_32
set_option maxHeartbeats 4000000 in
set_option maxRecDepth 100000 in
theorem ok_X10_cut {Y : DX} {v0 : Int64} {v2 : Int32}  {G : GM} {r : Int64} {G' : GM} (hf : f_X10_cut v0 v2 G = some (r, G')) : OkJ Y 1 M_X10_cut [.long v0, .int v2] G r G' := by
  refine okJ_of (lv0 := [(0, .long v0), (2, .int v2)]) (by decide +kernel) rfl (Nat.le_of_ble_eq_true rfl) ?_
  intro X Q hX hR
  have hX : CXok X Y RX10 cX10_cut 3 _ := hX
  revert hf
  show J X Y 3 Q 0 [(0, .long v0), (2, .int v2)] [] G (f_X10_cut v0 v2 G = some (r, G'))
  unfold f_X10_cut
  refine J_iload_n 1 hX dX10_cut_0 fz2 rfl ?_
  refine J_if_ne (tgt := 11) hX dX10_cut_1 rfl ?_ ?_
  · refine J_iload_n 1 hX dX10_cut_11 fz2 rfl ?_
    refine J_iconst hX dX10_cut_12 ci_1 ?_
    refine J_icmp_ne (tgt := 23) hX dX10_cut_13 rfl ?_ ?_
    · refine J_iload_n 1 hX dX10_cut_23 fz2 rfl ?_
      refine J_iconst hX dX10_cut_24 ci_2 ?_
      refine J_icmp_ne (tgt := 34) hX dX10_cut_25 rfl ?_ ?_
      · refine J_lload_n 0 hX dX10_cut_34 fz0 rfl ?_
        exact J_retJ hR dX10_cut_35
      · refine J_lload_n 0 hX dX10_cut_28 fz0 rfl ?_
        refine J_l2i hX dX10_cut_29 ?_
        refine J_i2l hX dX10_cut_30 ?_
        refine J_goto (tgt := 35) hX dX10_cut_31 rfl ?_
        exact J_retJ hR dX10_cut_35
    · refine J_lload_n 0 hX dX10_cut_16 fz0 rfl ?_
      refine J_l2i hX dX10_cut_17 ?_
      refine J_i2s hX dX10_cut_18 ?_
      refine J_i2l hX dX10_cut_19 ?_
      refine J_goto (tgt := 35) hX dX10_cut_20 rfl ?_
      exact J_retJ hR dX10_cut_35
  · refine J_lload_n 0 hX dX10_cut_4 fz0 rfl ?_
    refine J_l2i hX dX10_cut_5 ?_
    refine J_i2b hX dX10_cut_6 ?_
    refine J_i2l hX dX10_cut_7 ?_
    refine J_goto (tgt := 35) hX dX10_cut_8 rfl ?_
    exact J_retJ hR dX10_cut_35
set_option maxHeartbeats 4000000 in
set_option maxRecDepth 100000 in
theorem ok_X10_write {Y : DX} {v1 : Int32} {v2 : Int32} {v3 : Int64}  {G : GM} {r : Int32} {G' : GM} (hf : f_X10_write v1 v2 v3 G = some (r, G')) : OkI Y 3 M_X10_write [.ref (AD Y 186), .int v1, .int v2, .long v3] G r G' := by
  refine okI_of (lv0 := [(0, .ref (AD Y 186)), (1, .int v1), (2, .int v2), (3, .long v3)]) (by decide +kernel) rfl (Nat.le_of_ble_eq_true rfl) ?_
  intro X Q hX hR
  have hX : CXok X Y RX10 cX10_write 5 _ := hX
  revert hf
  show J X Y 5 Q 0 [(0, .ref (AD Y 186)), (1, .int v1), (2, .int v2), (3, .long v3)] [] G (f_X10_write v1 v2 v3 G = some (r, G'))
  unfold f_X10_write
  refine J_aload_n 0 hX dX10_write_0 fz0 rfl ?_
  refine J_iconst hX dX10_write_1 ci_0 ?_
  refine J_putI hX dX10_write_2 lf_X10_95 lpt_9_0 sk_186 rfl fun G2 => ?_
  refine J_iload_n 1 hX dX10_write_5 fz1 rfl ?_
  refine J_callSI (As := [.int v1]) (st := []) hX ms_X10_104 rfl rfl (Nat.le_of_ble_eq_true rfl) (Nat.le_of_ble_eq_true rfl) (Nat.le_of_ble_eq_true rfl) dX10_write_6 (fun r G1 h => ok_X10_isSlot  h) fun r6 G6 => ?_
  refine J_if_ne (tgt := 15) hX dX10_write_9 rfl ?_ ?_
  · refine J_aload_n 0 hX dX10_write_15 fz0 rfl ?_
    refine J_getR (b := 187) hX dX10_write_16 lf_X10_7 sk_186 rfl (by decide) rfl ?_
    refine J_iload_n 1 hX dX10_write_19 fz1 rfl ?_
    refine J_iald hX dX10_write_20 sk_187 ln_187 ?_
    refine J_iconst hX dX10_write_21 cim_1 ?_
    refine J_icmp_ne (tgt := 28) hX dX10_write_22 rfl ?_ ?_
    · refine J_iload_n 2 hX dX10_write_28 fz2 rfl ?_
      refine J_i2l hX dX10_write_29 ?_
      refine J_lconst hX dX10_write_30 fy0 ?_
      refine J_aload_n 0 hX dX10_write_31 fz0 rfl ?_
      refine J_getR (b := 188) hX dX10_write_32 lf_X10_13 sk_186 rfl (by decide) rfl ?_
      refine J_iload_n 1 hX dX10_write_35 fz1 rfl ?_
      refine J_iald hX dX10_write_36 sk_188 ln_188 ?_
      refine J_iconst hX dX10_write_37 ci_1 ?_
      refine J_isub hX dX10_write_38 ?_
      refine J_i2l hX dX10_write_39 ?_
      refine J_callSI (As := [.long (v2.toInt64), .long (0 : Int64), .long (((gI G6 188 v1.toNatClampNeg) - (1 : Int32)).toInt64)]) (st := []) hX ms_X10_100 rfl rfl (Nat.le_of_ble_eq_true rfl) (Nat.le_of_ble_eq_true rfl) (Nat.le_of_ble_eq_true rfl) dX10_write_40 (fun r G1 h => ok_X10_in  h) fun r40 G40 => ?_
      refine J_if_ne (tgt := 49) hX dX10_write_43 rfl ?_ ?_
      · refine J_aload_n 0 hX dX10_write_49 fz0 rfl ?_
        refine J_getR (b := 189) hX dX10_write_50 lf_X10_16 sk_186 rfl (by decide) rfl ?_
        refine J_bipush hX dX10_write_53 cb_60 ?_
        refine J_iload_n 1 hX dX10_write_55 fz1 rfl ?_
        refine J_imul hX dX10_write_56 ?_
        refine J_iload_n 2 hX dX10_write_57 fz2 rfl ?_
        refine J_iadd hX dX10_write_58 ?_
        refine J_lload_n 3 hX dX10_write_59 fz3 rfl ?_
        refine J_aload_n 0 hX dX10_write_60 fz0 rfl ?_
        refine J_getR (b := 187) hX dX10_write_61 lf_X10_7 sk_186 rfl (by decide) rfl ?_
        refine J_iload_n 1 hX dX10_write_64 fz1 rfl ?_
        refine J_iald hX dX10_write_65 sk_187 ln_187 ?_
        refine J_callSJ (As := [.long v3, .int (gI G40 187 v1.toNatClampNeg)]) (st := [.int (((60 : Int32) * v1) + v2), .ref (AD Y 189)]) hX ms_X10_108 rfl rfl (Nat.le_of_ble_eq_true rfl) (Nat.le_of_ble_eq_true rfl) (Nat.le_of_ble_eq_true rfl) dX10_write_66 (fun r G1 h => ok_X10_cut  h) fun r66 G66 => ?_
        refine J_last hX dX10_write_69 sk_189 ln_189 fun G69 => ?_
        refine J_iconst hX dX10_write_70 ci_0 ?_
        exact J_retI hR dX10_write_71
      · refine J_bipush hX dX10_write_46 cbm_7 ?_
        exact J_retI hR dX10_write_48
    · refine J_bipush hX dX10_write_25 cbm_6 ?_
      exact J_retI hR dX10_write_27
  · refine J_bipush hX dX10_write_12 cbm_2 ?_
    exact J_retI hR dX10_write_14
set_option maxHeartbeats 4000000 in
set_option maxRecDepth 100000 in
theorem ok_X10_paste {Y : DX} {v1 : Int32} {v2 : Int32} {v3 : Int32} {v4 : Int32} {v5 : Int32}  {G : GM} {r : Int32} {G' : GM} (hf : f_X10_paste v1 v2 v3 v4 v5 G = some (r, G')) : OkI Y 3 M_X10_paste [.ref (AD Y 186), .int v1, .int v2, .int v3, .int v4, .int v5] G r G' := by
  refine okI_of (lv0 := [(0, .ref (AD Y 186)), (1, .int v1), (2, .int v2), (3, .int v3), (4, .int v4), (5, .int v5)]) (by decide +kernel) rfl (Nat.le_of_ble_eq_true rfl) ?_
  intro X Q hX hR
  have hX : CXok X Y RX10 cX10_paste 7 _ := hX
  revert hf
  show J X Y 7 Q 0 [(0, .ref (AD Y 186)), (1, .int v1), (2, .int v2), (3, .int v3), (4, .int v4), (5, .int v5)] [] G (f_X10_paste v1 v2 v3 v4 v5 G = some (r, G'))
  have K155 : ∀  (n : Nat) (v6 : Int32) (G : GM), J X Y 7 Q 155 [(0, .ref (AD Y 186)), (3, .int v3), (4, .int v4), (5, .int v5), (6, .int v6)] [] G (wl1 n (lp_X10_paste_155 v1 v2 v3 v4 v5) v6 G = some (r, G')) := by
    refine wl1_ind (R := fun v6 G φ => J X Y 7 Q 155 [(0, .ref (AD Y 186)), (3, .int v3), (4, .int v4), (5, .int v5), (6, .int v6)] [] G φ) (fun _ G φ h => J_no h) ?_
    intro kc155 hk155 v6 G
    unfold lp_X10_paste_155
    refine J_iload 4 hX dX10_paste_155 rfl ?_
    refine J_iload 3 hX dX10_paste_157 rfl ?_
    refine J_icmp_ge (tgt := 190) hX dX10_paste_159 rfl ?_ ?_
    · refine J_iconst hX dX10_paste_190 ci_0 ?_
      exact J_retI hR dX10_paste_191
    · refine J_aload_n 0 hX dX10_paste_162 fz0 rfl ?_
      refine J_getR (b := 189) hX dX10_paste_163 lf_X10_16 sk_186 rfl (by decide) rfl ?_
      refine J_bipush hX dX10_paste_166 cb_60 ?_
      refine J_iload_n 1 hX dX10_paste_168 fz3 rfl ?_
      refine J_imul hX dX10_paste_169 ?_
      refine J_iload 2 hX dX10_paste_170 rfl ?_
      refine J_iadd hX dX10_paste_172 ?_
      refine J_iload 4 hX dX10_paste_173 rfl ?_
      refine J_iadd hX dX10_paste_175 ?_
      refine J_aload_n 0 hX dX10_paste_176 fz0 rfl ?_
      refine J_getR (b := 190) hX dX10_paste_177 lf_X10_20 sk_186 rfl (by decide) rfl ?_
      refine J_iload 4 hX dX10_paste_180 rfl ?_
      refine J_lald hX dX10_paste_182 sk_190 ln_190 ?_
      refine J_last hX dX10_paste_183 sk_189 ln_189 fun G183 => ?_
      refine J_iinc (lv' := [(6, .int (v6 + (1 : Int32))), (0, .ref (AD Y 186)), (3, .int v3), (4, .int v4), (5, .int v5)]) 4 hX dX10_paste_184 rfl ci_1 (Nat.le_of_ble_eq_true rfl) rfl ?_
      refine J_goto (tgt := 155) hX dX10_paste_187 rfl ?_
      refine J_sub (lv' := [(0, .ref (AD Y 186)), (3, .int v3), (4, .int v4), (5, .int v5), (6, .int (v6 + (1 : Int32)))]) [1, 2, 3, 4, 0] rfl ?_
      exact hk155 (v6 + (1 : Int32)) G183
  have K118 : ∀  (n : Nat) (v6 : Int32) (G : GM), J X Y 7 Q 118 [(0, .ref (AD Y 186)), (1, .int v1), (2, .int v2), (3, .int v3), (4, .int v4), (5, .int v5), (6, .int v6)] [] G (wl1 n (lp_X10_paste_118 v1 v2 v3 v4 v5) v6 G = some (r, G')) := by
    refine wl1_ind (R := fun v6 G φ => J X Y 7 Q 118 [(0, .ref (AD Y 186)), (1, .int v1), (2, .int v2), (3, .int v3), (4, .int v4), (5, .int v5), (6, .int v6)] [] G φ) (fun _ G φ h => J_no h) ?_
    intro kc118 hk118 v6 G
    unfold lp_X10_paste_118
    refine J_iload 6 hX dX10_paste_118 rfl ?_
    refine J_iload 5 hX dX10_paste_120 rfl ?_
    refine J_icmp_ge (tgt := 152) hX dX10_paste_122 rfl ?_ ?_
    · refine J_iconst hX dX10_paste_152 ci_0 ?_
      refine J_istore (lv' := [(6, .int (0 : Int32)), (0, .ref (AD Y 186)), (1, .int v1), (2, .int v2), (3, .int v3), (4, .int v4), (5, .int v5)]) hX dX10_paste_153 (Nat.le_of_ble_eq_true rfl) rfl ?_
      refine J_sub (lv' := [(0, .ref (AD Y 186)), (3, .int v3), (4, .int v4), (5, .int v5), (6, .int (0 : Int32))]) [1, 4, 5, 6, 0] rfl ?_
      exact K155  FU (0 : Int32) G
    · refine J_aload_n 0 hX dX10_paste_125 fz0 rfl ?_
      refine J_getR (b := 190) hX dX10_paste_126 lf_X10_20 sk_186 rfl (by decide) rfl ?_
      refine J_iload 6 hX dX10_paste_129 rfl ?_
      refine J_aload_n 0 hX dX10_paste_131 fz0 rfl ?_
      refine J_getR (b := 189) hX dX10_paste_132 lf_X10_16 sk_186 rfl (by decide) rfl ?_
      refine J_bipush hX dX10_paste_135 cb_60 ?_
      refine J_iload_n 1 hX dX10_paste_137 fz1 rfl ?_
      refine J_imul hX dX10_paste_138 ?_
      refine J_iload_n 2 hX dX10_paste_139 fz2 rfl ?_
      refine J_iadd hX dX10_paste_140 ?_
      refine J_iload 6 hX dX10_paste_141 rfl ?_
      refine J_iadd hX dX10_paste_143 ?_
      refine J_lald hX dX10_paste_144 sk_189 ln_189 ?_
      refine J_last hX dX10_paste_145 sk_190 ln_190 fun G145 => ?_
      refine J_iinc (lv' := [(6, .int (v6 + (1 : Int32))), (0, .ref (AD Y 186)), (1, .int v1), (2, .int v2), (3, .int v3), (4, .int v4), (5, .int v5)]) 6 hX dX10_paste_146 rfl ci_1 (Nat.le_of_ble_eq_true rfl) rfl ?_
      refine J_goto (tgt := 118) hX dX10_paste_149 rfl ?_
      refine J_sub (lv' := [(0, .ref (AD Y 186)), (1, .int v1), (2, .int v2), (3, .int v3), (4, .int v4), (5, .int v5), (6, .int (v6 + (1 : Int32)))]) [1, 2, 3, 4, 5, 6, 0] rfl ?_
      exact hk118 (v6 + (1 : Int32)) G145
  unfold f_X10_paste
  refine J_aload_n 0 hX dX10_paste_0 fz0 rfl ?_
  refine J_iconst hX dX10_paste_1 ci_0 ?_
  refine J_putI hX dX10_paste_2 lf_X10_95 lpt_9_0 sk_186 rfl fun G2 => ?_
  refine J_iload_n 1 hX dX10_paste_5 fz1 rfl ?_
  refine J_callSI (As := [.int v1]) (st := []) hX ms_X10_104 rfl rfl (Nat.le_of_ble_eq_true rfl) (Nat.le_of_ble_eq_true rfl) (Nat.le_of_ble_eq_true rfl) dX10_paste_6 (fun r G1 h => ok_X10_isSlot  h) fun r6 G6 => ?_
  refine J_if_eq (tgt := 19) hX dX10_paste_9 rfl ?_ ?_
  · refine J_bipush hX dX10_paste_19 cbm_2 ?_
    exact J_retI hR dX10_paste_21
  · refine J_iload_n 3 hX dX10_paste_12 fz3 rfl ?_
    refine J_callSI (As := [.int v3]) (st := []) hX ms_X10_104 rfl rfl (Nat.le_of_ble_eq_true rfl) (Nat.le_of_ble_eq_true rfl) (Nat.le_of_ble_eq_true rfl) dX10_paste_13 (fun r G1 h => ok_X10_isSlot  h) fun r13 G13 => ?_
    refine J_if_ne (tgt := 22) hX dX10_paste_16 rfl ?_ ?_
    · refine J_aload_n 0 hX dX10_paste_22 fz0 rfl ?_
      refine J_getR (b := 187) hX dX10_paste_23 lf_X10_7 sk_186 rfl (by decide) rfl ?_
      refine J_iload_n 1 hX dX10_paste_26 fz1 rfl ?_
      refine J_iald hX dX10_paste_27 sk_187 ln_187 ?_
      refine J_iconst hX dX10_paste_28 cim_1 ?_
      refine J_icmp_eq (tgt := 42) hX dX10_paste_29 rfl ?_ ?_
      · refine J_bipush hX dX10_paste_42 cbm_6 ?_
        exact J_retI hR dX10_paste_44
      · refine J_aload_n 0 hX dX10_paste_32 fz0 rfl ?_
        refine J_getR (b := 187) hX dX10_paste_33 lf_X10_7 sk_186 rfl (by decide) rfl ?_
        refine J_iload_n 3 hX dX10_paste_36 fz3 rfl ?_
        refine J_iald hX dX10_paste_37 sk_187 ln_187 ?_
        refine J_iconst hX dX10_paste_38 cim_1 ?_
        refine J_icmp_ne (tgt := 45) hX dX10_paste_39 rfl ?_ ?_
        · refine J_aload_n 0 hX dX10_paste_45 fz0 rfl ?_
          refine J_getR (b := 187) hX dX10_paste_46 lf_X10_7 sk_186 rfl (by decide) rfl ?_
          refine J_iload_n 1 hX dX10_paste_49 fz1 rfl ?_
          refine J_iald hX dX10_paste_50 sk_187 ln_187 ?_
          refine J_aload_n 0 hX dX10_paste_51 fz0 rfl ?_
          refine J_getR (b := 187) hX dX10_paste_52 lf_X10_7 sk_186 rfl (by decide) rfl ?_
          refine J_iload_n 3 hX dX10_paste_55 fz3 rfl ?_
          refine J_iald hX dX10_paste_56 sk_187 ln_187 ?_
          refine J_icmp_eq (tgt := 63) hX dX10_paste_57 rfl ?_ ?_
          · refine J_iload_n 2 hX dX10_paste_63 fz2 rfl ?_
            refine J_if_lt (tgt := 112) hX dX10_paste_64 rfl ?_ ?_
            · refine J_bipush hX dX10_paste_112 cbm_7 ?_
              exact J_retI hR dX10_paste_114
            · refine J_iload 4 hX dX10_paste_67 rfl ?_
              refine J_if_lt (tgt := 112) hX dX10_paste_69 rfl ?_ ?_
              · refine J_bipush hX dX10_paste_112 cbm_7 ?_
                exact J_retI hR dX10_paste_114
              · refine J_iload 5 hX dX10_paste_72 rfl ?_
                refine J_if_lt (tgt := 112) hX dX10_paste_74 rfl ?_ ?_
                · refine J_bipush hX dX10_paste_112 cbm_7 ?_
                  exact J_retI hR dX10_paste_114
                · refine J_iload_n 2 hX dX10_paste_77 fz2 rfl ?_
                  refine J_i2l hX dX10_paste_78 ?_
                  refine J_iload 5 hX dX10_paste_79 rfl ?_
                  refine J_i2l hX dX10_paste_81 ?_
                  refine J_ladd hX dX10_paste_82 ?_
                  refine J_aload_n 0 hX dX10_paste_83 fz0 rfl ?_
                  refine J_getR (b := 188) hX dX10_paste_84 lf_X10_13 sk_186 rfl (by decide) rfl ?_
                  refine J_iload_n 1 hX dX10_paste_87 fz1 rfl ?_
                  refine J_iald hX dX10_paste_88 sk_188 ln_188 ?_
                  refine J_i2l hX dX10_paste_89 ?_
                  refine J_lcmp hX dX10_paste_90 ?_
                  refine J_if_gt (tgt := 112) hX dX10_paste_91 rfl ?_ ?_
                  · refine J_bipush hX dX10_paste_112 cbm_7 ?_
                    exact J_retI hR dX10_paste_114
                  · refine J_iload 4 hX dX10_paste_94 rfl ?_
                    refine J_i2l hX dX10_paste_96 ?_
                    refine J_iload 5 hX dX10_paste_97 rfl ?_
                    refine J_i2l hX dX10_paste_99 ?_
                    refine J_ladd hX dX10_paste_100 ?_
                    refine J_aload_n 0 hX dX10_paste_101 fz0 rfl ?_
                    refine J_getR (b := 188) hX dX10_paste_102 lf_X10_13 sk_186 rfl (by decide) rfl ?_
                    refine J_iload_n 3 hX dX10_paste_105 fz3 rfl ?_
                    refine J_iald hX dX10_paste_106 sk_188 ln_188 ?_
                    refine J_i2l hX dX10_paste_107 ?_
                    refine J_lcmp hX dX10_paste_108 ?_
                    refine J_if_le (tgt := 115) hX dX10_paste_109 rfl ?_ ?_
                    · refine J_iconst hX dX10_paste_115 ci_0 ?_
                      refine J_istore (lv' := [(6, .int (0 : Int32)), (0, .ref (AD Y 186)), (1, .int v1), (2, .int v2), (3, .int v3), (4, .int v4), (5, .int v5)]) hX dX10_paste_116 (Nat.le_of_ble_eq_true rfl) rfl ?_
                      refine J_sub (lv' := [(0, .ref (AD Y 186)), (1, .int v1), (2, .int v2), (3, .int v3), (4, .int v4), (5, .int v5), (6, .int (0 : Int32))]) [1, 2, 3, 4, 5, 6, 0] rfl ?_
                      exact K118  FU (0 : Int32) G13
                    · refine J_bipush hX dX10_paste_112 cbm_7 ?_
                      exact J_retI hR dX10_paste_114
          · refine J_bipush hX dX10_paste_60 cbm_8 ?_
            exact J_retI hR dX10_paste_62
        · refine J_bipush hX dX10_paste_42 cbm_6 ?_
          exact J_retI hR dX10_paste_44
    · refine J_bipush hX dX10_paste_19 cbm_2 ?_
      exact J_retI hR dX10_paste_21
set_option maxHeartbeats 4000000 in
set_option maxRecDepth 100000 in
theorem ok_X10_four {Y : DX} {v1 : Int32}  {G : GM} {G' : GM} (hf : f_X10_four v1 G = some G') : OkV Y 1 M_X10_four [.ref (AD Y 186), .int v1] G G' := by
  refine okV_of (lv0 := [(0, .ref (AD Y 186)), (1, .int v1)]) (by decide +kernel) rfl (Nat.le_of_ble_eq_true rfl) ?_
  intro X Q hX hR
  have hX : CXok X Y RX10 cX10_four 3 _ := hX
  revert hf
  show J X Y 3 Q 0 [(0, .ref (AD Y 186)), (1, .int v1)] [] G (f_X10_four v1 G = some G')
  have K3 : ∀  (n : Nat) (v2 : Int32) (G : GM), J X Y 3 Q 3 [(0, .ref (AD Y 186)), (1, .int v1), (2, .int v2)] [] G (wl1 n (lp_X10_four_3 v1) v2 G = some G') := by
    refine wl1_ind (R := fun v2 G φ => J X Y 3 Q 3 [(0, .ref (AD Y 186)), (1, .int v1), (2, .int v2)] [] G φ) (fun _ G φ h => J_no h) ?_
    intro kc3 hk3 v2 G
    unfold lp_X10_four_3
    refine J_iload_n 2 hX dX10_four_3 fz2 rfl ?_
    refine J_if_lt (tgt := 36) hX dX10_four_4 rfl ?_ ?_
    · exact J_retV hR dX10_four_36
    · refine J_aload_n 0 hX dX10_four_7 fz0 rfl ?_
      refine J_getR (b := 191) hX dX10_four_8 lf_X10_23 sk_186 rfl (by decide) rfl ?_
      refine J_aload_n 0 hX dX10_four_11 fz0 rfl ?_
      refine J_getI hX dX10_four_12 lf_X10_112 sk_186 rfl ?_
      refine J_iload_n 1 hX dX10_four_15 fz1 rfl ?_
      refine J_iload_n 2 hX dX10_four_16 fz2 rfl ?_
      refine J_ishr hX dX10_four_17 ?_
      refine J_i2b hX dX10_four_18 ?_
      refine J_bast hX dX10_four_19 sk_191 ln_191 fun G19 => ?_
      refine J_aload_n 0 hX dX10_four_20 fz0 rfl ?_
      refine J_dup hX dX10_four_21 rfl ?_
      refine J_getI hX dX10_four_22 lf_X10_112 sk_186 rfl ?_
      refine J_iconst hX dX10_four_25 ci_1 ?_
      refine J_iadd hX dX10_four_26 ?_
      refine J_putI hX dX10_four_27 lf_X10_112 lpt_9_6 sk_186 rfl fun G27 => ?_
      refine J_iinc (lv' := [(2, .int (v2 + (-8 : Int32))), (0, .ref (AD Y 186)), (1, .int v1)]) 2 hX dX10_four_30 rfl cim_8 (Nat.le_of_ble_eq_true rfl) rfl ?_
      refine J_goto (tgt := 3) hX dX10_four_33 rfl ?_
      refine J_sub (lv' := [(0, .ref (AD Y 186)), (1, .int v1), (2, .int (v2 + (-8 : Int32)))]) [1, 2, 0] rfl ?_
      exact hk3 (v2 + (-8 : Int32)) G27
  unfold f_X10_four
  refine J_bipush hX dX10_four_0 cb_24 ?_
  refine J_istore_n (lv' := [(2, .int (24 : Int32)), (0, .ref (AD Y 186)), (1, .int v1)]) hX dX10_four_2 fz2 (Nat.le_of_ble_eq_true rfl) rfl ?_
  refine J_sub (lv' := [(0, .ref (AD Y 186)), (1, .int v1), (2, .int (24 : Int32))]) [1, 2, 0] rfl ?_
  exact K3  FU (24 : Int32) G
set_option maxHeartbeats 4000000 in
set_option maxRecDepth 100000 in
theorem ok_X10_feed {Y : DX} {v1 : Int32} {v2 : Int32} {v3 : Int32} {v4 : Int32} {v5 : Int32}  {G : GM} {r : Int32} {G' : GM} (hf : f_X10_feed v1 v2 v3 v4 v5 G = some (r, G')) : OkI Y 2 M_X10_feed [.ref (AD Y 186), .int v1, .int v2, .int v3, .int v4, .int v5] G r G' := by
  refine okI_of (lv0 := [(0, .ref (AD Y 186)), (1, .int v1), (2, .int v2), (3, .int v3), (4, .int v4), (5, .int v5)]) (by decide +kernel) rfl (Nat.le_of_ble_eq_true rfl) ?_
  intro X Q hX hR
  have hX : CXok X Y RX10 cX10_feed 6 _ := hX
  revert hf
  show J X Y 6 Q 0 [(0, .ref (AD Y 186)), (1, .int v1), (2, .int v2), (3, .int v3), (4, .int v4), (5, .int v5)] [] G (f_X10_feed v1 v2 v3 v4 v5 G = some (r, G'))
  unfold f_X10_feed
  refine J_aload_n 0 hX dX10_feed_0 fz0 rfl ?_
  refine J_iconst hX dX10_feed_1 ci_0 ?_
  refine J_putI hX dX10_feed_2 lf_X10_95 lpt_9_0 sk_186 rfl fun G2 => ?_
  refine J_aload_n 0 hX dX10_feed_5 fz0 rfl ?_
  refine J_getI hX dX10_feed_6 lf_X10_112 sk_186 rfl ?_
  refine J_bipush hX dX10_feed_9 cb_20 ?_
  refine J_iadd hX dX10_feed_11 ?_
  refine J_sipush hX dX10_feed_12 cs_800 ?_
  refine J_icmp_le (tgt := 20) hX dX10_feed_15 rfl ?_ ?_
  · refine J_aload_n 0 hX dX10_feed_20 fz0 rfl ?_
    refine J_iload_n 1 hX dX10_feed_21 fz1 rfl ?_
    refine J_callVV (As := [.int v1]) (st := []) (b := 186) hX mv_X10_115 sk_186 rfl rfl rfl (Nat.le_of_ble_eq_true rfl) (Nat.le_of_ble_eq_true rfl) (Nat.le_of_ble_eq_true rfl) dX10_feed_22 (fun G1 h => ok_X10_four  h) fun G22 => ?_
    refine J_aload_n 0 hX dX10_feed_25 fz0 rfl ?_
    refine J_iload_n 2 hX dX10_feed_26 fz2 rfl ?_
    refine J_callVV (As := [.int v2]) (st := []) (b := 186) hX mv_X10_115 sk_186 rfl rfl rfl (Nat.le_of_ble_eq_true rfl) (Nat.le_of_ble_eq_true rfl) (Nat.le_of_ble_eq_true rfl) dX10_feed_27 (fun G1 h => ok_X10_four  h) fun G27 => ?_
    refine J_aload_n 0 hX dX10_feed_30 fz0 rfl ?_
    refine J_iload_n 3 hX dX10_feed_31 fz3 rfl ?_
    refine J_callVV (As := [.int v3]) (st := []) (b := 186) hX mv_X10_115 sk_186 rfl rfl rfl (Nat.le_of_ble_eq_true rfl) (Nat.le_of_ble_eq_true rfl) (Nat.le_of_ble_eq_true rfl) dX10_feed_32 (fun G1 h => ok_X10_four  h) fun G32 => ?_
    refine J_aload_n 0 hX dX10_feed_35 fz0 rfl ?_
    refine J_iload 4 hX dX10_feed_36 rfl ?_
    refine J_callVV (As := [.int v4]) (st := []) (b := 186) hX mv_X10_115 sk_186 rfl rfl rfl (Nat.le_of_ble_eq_true rfl) (Nat.le_of_ble_eq_true rfl) (Nat.le_of_ble_eq_true rfl) dX10_feed_38 (fun G1 h => ok_X10_four  h) fun G38 => ?_
    refine J_aload_n 0 hX dX10_feed_41 fz0 rfl ?_
    refine J_iload 5 hX dX10_feed_42 rfl ?_
    refine J_callVV (As := [.int v5]) (st := []) (b := 186) hX mv_X10_115 sk_186 rfl rfl rfl (Nat.le_of_ble_eq_true rfl) (Nat.le_of_ble_eq_true rfl) (Nat.le_of_ble_eq_true rfl) dX10_feed_44 (fun G1 h => ok_X10_four  h) fun G44 => ?_
    refine J_aload_n 0 hX dX10_feed_47 fz0 rfl ?_
    refine J_getI hX dX10_feed_48 lf_X10_112 sk_186 rfl ?_
    exact J_retI hR dX10_feed_51
  · refine J_iconst hX dX10_feed_18 cim_1 ?_
    exact J_retI hR dX10_feed_19
set_option maxHeartbeats 4000000 in
set_option maxRecDepth 100000 in
theorem ok_X10_end {Y : DX} {v1 : Int32}  {G : GM} {r : Int32} {G' : GM} (hf : f_X10_end v1 G = some (r, G')) : OkI Y 2 M_X10_end [.ref (AD Y 186), .int v1] G r G' := by
  refine okI_of (lv0 := [(0, .ref (AD Y 186)), (1, .int v1)]) (by decide +kernel) rfl (Nat.le_of_ble_eq_true rfl) ?_
  intro X Q hX hR
  have hX : CXok X Y RX10 cX10_end 2 _ := hX
  revert hf
  show J X Y 2 Q 0 [(0, .ref (AD Y 186)), (1, .int v1)] [] G (f_X10_end v1 G = some (r, G'))
  unfold f_X10_end
  refine J_aload_n 0 hX dX10_end_0 fz0 rfl ?_
  refine J_iconst hX dX10_end_1 ci_0 ?_
  refine J_putI hX dX10_end_2 lf_X10_95 lpt_9_0 sk_186 rfl fun G2 => ?_
  refine J_iload_n 1 hX dX10_end_5 fz1 rfl ?_
  refine J_i2l hX dX10_end_6 ?_
  refine J_lconst hX dX10_end_7 fy0 ?_
  refine J_aload_n 0 hX dX10_end_8 fz0 rfl ?_
  refine J_getI hX dX10_end_9 lf_X10_112 sk_186 rfl ?_
  refine J_i2l hX dX10_end_12 ?_
  refine J_callSI (As := [.long (v1.toInt64), .long (0 : Int64), .long ((gI G2 186 6).toInt64)]) (st := []) hX ms_X10_100 rfl rfl (Nat.le_of_ble_eq_true rfl) (Nat.le_of_ble_eq_true rfl) (Nat.le_of_ble_eq_true rfl) dX10_end_13 (fun r G1 h => ok_X10_in  h) fun r13 G13 => ?_
  refine J_if_ne (tgt := 21) hX dX10_end_16 rfl ?_ ?_
  · refine J_aload_n 0 hX dX10_end_21 fz0 rfl ?_
    refine J_iload_n 1 hX dX10_end_22 fz1 rfl ?_
    refine J_putI hX dX10_end_23 lf_X10_112 lpt_9_6 sk_186 rfl fun G23 => ?_
    refine J_iload_n 1 hX dX10_end_26 fz1 rfl ?_
    exact J_retI hR dX10_end_27
  · refine J_iconst hX dX10_end_19 cim_1 ?_
    exact J_retI hR dX10_end_20
set_option maxHeartbeats 4000000 in
set_option maxRecDepth 100000 in
theorem ok_X10_isByte {Y : DX} {v1 : Int32} {v2 : Int32} {v3 : Int32}  {G : GM} {r : Int32} {G' : GM} (hf : f_X10_isByte v1 v2 v3 G = some (r, G')) : OkI Y 1 M_X10_isByte [.ref (AD Y 186), .int v1, .int v2, .int v3] G r G' := by
  refine okZ_of (lv0 := [(0, .ref (AD Y 186)), (1, .int v1), (2, .int v2), (3, .int v3)]) (by decide +kernel) rfl (Nat.le_of_ble_eq_true rfl) ?_
  intro X Q hX hR
  have hX : CXok X Y RX10 cX10_isByte 4 _ := hX
  revert hf
  show J X Y 4 Q 0 [(0, .ref (AD Y 186)), (1, .int v1), (2, .int v2), (3, .int v3)] [] G (f_X10_isByte v1 v2 v3 G = some (r, G'))
  unfold f_X10_isByte
  refine J_iload_n 1 hX dX10_isByte_0 fz1 rfl ?_
  refine J_aload_n 0 hX dX10_isByte_1 fz0 rfl ?_
  refine J_getI hX dX10_isByte_2 lf_X10_112 sk_186 rfl ?_
  refine J_icmp_ge (tgt := 32) hX dX10_isByte_5 rfl ?_ ?_
  · refine J_iconst hX dX10_isByte_32 ci_0 ?_
    exact J_retZ hR (by decide) dX10_isByte_33
  · refine J_aload_n 0 hX dX10_isByte_8 fz0 rfl ?_
    refine J_getR (b := 191) hX dX10_isByte_9 lf_X10_23 sk_186 rfl (by decide) rfl ?_
    refine J_iload_n 1 hX dX10_isByte_12 fz1 rfl ?_
    refine J_bald hX dX10_isByte_13 sk_191 ln_191 ?_
    refine J_iload_n 2 hX dX10_isByte_14 fz2 rfl ?_
    refine J_icmp_lt (tgt := 32) hX dX10_isByte_15 rfl ?_ ?_
    · refine J_iconst hX dX10_isByte_32 ci_0 ?_
      exact J_retZ hR (by decide) dX10_isByte_33
    · refine J_aload_n 0 hX dX10_isByte_18 fz0 rfl ?_
      refine J_getR (b := 191) hX dX10_isByte_19 lf_X10_23 sk_186 rfl (by decide) rfl ?_
      refine J_iload_n 1 hX dX10_isByte_22 fz1 rfl ?_
      refine J_bald hX dX10_isByte_23 sk_191 ln_191 ?_
      refine J_iload_n 3 hX dX10_isByte_24 fz3 rfl ?_
      refine J_icmp_gt (tgt := 32) hX dX10_isByte_25 rfl ?_ ?_
      · refine J_iconst hX dX10_isByte_32 ci_0 ?_
        exact J_retZ hR (by decide) dX10_isByte_33
      · refine J_iconst hX dX10_isByte_28 ci_1 ?_
        refine J_goto (tgt := 33) hX dX10_isByte_29 rfl ?_
        exact J_retZ hR (by decide) dX10_isByte_33
set_option maxHeartbeats 4000000 in
set_option maxRecDepth 100000 in
theorem ok_X10_next {Y : DX}   {G : GM} {G' : GM} (hf : f_X10_next  G = some G') : OkV Y 2 M_X10_next [.ref (AD Y 186)] G G' := by
  refine okV_of (lv0 := [(0, .ref (AD Y 186))]) (by decide +kernel) rfl (Nat.le_of_ble_eq_true rfl) ?_
  intro X Q hX hR
  have hX : CXok X Y RX10 cX10_next 2 _ := hX
  revert hf
  show J X Y 2 Q 0 [(0, .ref (AD Y 186))] [] G (f_X10_next  G = some G')
  have K294 : ∀ (s0 : Int32) (G : GM), J X Y 2 Q 294 [(0, .ref (AD Y 186))] [.int s0, .ref (AD Y 186)] G (k_X10_next_294 s0 G = some G') := by
    intro s0 G
    unfold k_X10_next_294
    refine J_putI hX dX10_next_294 lf_X10_136 lpt_9_8 sk_186 rfl fun G294 => ?_
    refine J_aload_n 0 hX dX10_next_297 fz0 rfl ?_
    refine J_dup hX dX10_next_298 rfl ?_
    refine J_getI hX dX10_next_299 lf_X10_119 sk_186 rfl ?_
    refine J_iconst hX dX10_next_302 ci_1 ?_
    refine J_iadd hX dX10_next_303 ?_
    refine J_putI hX dX10_next_304 lf_X10_119 lpt_9_7 sk_186 rfl fun G304 => ?_
    exact J_retV hR dX10_next_307
  have K208 : ∀  (n : Nat)  (G : GM), J X Y 2 Q 208 [(0, .ref (AD Y 186))] [] G (wl0 n (lp_X10_next_208 )  G = some G') := by
    refine wl0_ind (R := fun  G φ => J X Y 2 Q 208 [(0, .ref (AD Y 186))] [] G φ) (fun  G φ h => J_no h) ?_
    intro kc208 hk208  G
    unfold lp_X10_next_208
    have K258 : ∀ (s0 : Int32) (G : GM), J X Y 2 Q 258 [(0, .ref (AD Y 186))] [.int s0, .ref (AD Y 186)] G (k_X10_next_258 s0 kc208 G = some G') := by
      intro s0 G
      unfold k_X10_next_258
      refine J_putI hX dX10_next_258 lf_X10_129 lpt_9_10 sk_186 rfl fun G258 => ?_
      refine J_aload_n 0 hX dX10_next_261 fz0 rfl ?_
      refine J_dup hX dX10_next_262 rfl ?_
      refine J_getI hX dX10_next_263 lf_X10_119 sk_186 rfl ?_
      refine J_iconst hX dX10_next_266 ci_1 ?_
      refine J_iadd hX dX10_next_267 ?_
      refine J_putI hX dX10_next_268 lf_X10_119 lpt_9_7 sk_186 rfl fun G268 => ?_
      refine J_goto (tgt := 208) hX dX10_next_271 rfl ?_
      exact hk208  G268
    refine J_aload_n 0 hX dX10_next_208 fz0 rfl ?_
    refine J_aload_n 0 hX dX10_next_209 fz0 rfl ?_
    refine J_getI hX dX10_next_210 lf_X10_119 sk_186 rfl ?_
    refine J_bipush hX dX10_next_213 cb_48 ?_
    refine J_bipush hX dX10_next_215 cb_57 ?_
    refine J_callVI (As := [.int (gI G 186 7), .int (48 : Int32), .int (57 : Int32)]) (st := []) (b := 186) hX mv_X10_122 sk_186 rfl rfl rfl (Nat.le_of_ble_eq_true rfl) (Nat.le_of_ble_eq_true rfl) (Nat.le_of_ble_eq_true rfl) dX10_next_217 (fun r G1 h => ok_X10_isByte  h) fun r217 G217 => ?_
    refine J_if_eq (tgt := 307) hX dX10_next_220 rfl ?_ ?_
    · exact J_retV hR dX10_next_307
    · refine J_aload_n 0 hX dX10_next_223 fz0 rfl ?_
      refine J_aload_n 0 hX dX10_next_224 fz0 rfl ?_
      refine J_getI hX dX10_next_225 lf_X10_129 sk_186 rfl ?_
      refine J_ldc hX dX10_next_228 lc_X10_145 ?_
      refine J_icmp_le (tgt := 238) hX dX10_next_230 rfl ?_ ?_
      · refine J_bipush hX dX10_next_238 cb_10 ?_
        refine J_aload_n 0 hX dX10_next_240 fz0 rfl ?_
        refine J_getI hX dX10_next_241 lf_X10_129 sk_186 rfl ?_
        refine J_imul hX dX10_next_244 ?_
        refine J_aload_n 0 hX dX10_next_245 fz0 rfl ?_
        refine J_getR (b := 191) hX dX10_next_246 lf_X10_23 sk_186 rfl (by decide) rfl ?_
        refine J_aload_n 0 hX dX10_next_249 fz0 rfl ?_
        refine J_getI hX dX10_next_250 lf_X10_119 sk_186 rfl ?_
        refine J_bald hX dX10_next_253 sk_191 ln_191 ?_
        refine J_iadd hX dX10_next_254 ?_
        refine J_bipush hX dX10_next_255 cb_48 ?_
        refine J_isub hX dX10_next_257 ?_
        exact K258 ((((10 : Int32) * (gI G217 186 10)) + (gI G217 191 (gI G217 186 7).toNatClampNeg)) - (48 : Int32)) G217
      · refine J_ldc hX dX10_next_233 lc_X10_146 ?_
        refine J_goto (tgt := 258) hX dX10_next_235 rfl ?_
        exact K258 (1000000 : Int32) G217
  have K102 : ∀  (n : Nat) (v1 : Int32) (G : GM), J X Y 2 Q 102 [(0, .ref (AD Y 186)), (1, .int v1)] [] G (wl1 n (lp_X10_next_102 ) v1 G = some G') := by
    refine wl1_ind (R := fun v1 G φ => J X Y 2 Q 102 [(0, .ref (AD Y 186)), (1, .int v1)] [] G φ) (fun _ G φ h => J_no h) ?_
    intro kc102 hk102 v1 G
    unfold lp_X10_next_102
    have K169 : ∀ (v1 : Int32) (G : GM), J X Y 2 Q 169 [(0, .ref (AD Y 186)), (1, .int v1)] [] G (k_X10_next_169 v1 kc102 G = some G') := by
      intro v1 G
      unfold k_X10_next_169
      refine J_aload_n 0 hX dX10_next_169 fz0 rfl ?_
      refine J_dup hX dX10_next_170 rfl ?_
      refine J_getI hX dX10_next_171 lf_X10_119 sk_186 rfl ?_
      refine J_iconst hX dX10_next_174 ci_1 ?_
      refine J_iadd hX dX10_next_175 ?_
      refine J_putI hX dX10_next_176 lf_X10_119 lpt_9_7 sk_186 rfl fun G176 => ?_
      refine J_iinc (lv' := [(1, .int (v1 + (1 : Int32))), (0, .ref (AD Y 186))]) 1 hX dX10_next_179 rfl ci_1 (Nat.le_of_ble_eq_true rfl) rfl ?_
      refine J_goto (tgt := 102) hX dX10_next_182 rfl ?_
      refine J_sub (lv' := [(0, .ref (AD Y 186)), (1, .int (v1 + (1 : Int32)))]) [1, 0] rfl ?_
      exact hk102 (v1 + (1 : Int32)) G176
    have K153 : ∀ (v1 : Int32) (s0 : Int64) (G : GM), J X Y 2 Q 153 [(0, .ref (AD Y 186)), (1, .int v1)] [.long s0, .ref (AD Y 186)] G (k_X10_next_153 v1 s0 kc102 G = some G') := by
      intro v1 s0 G
      unfold k_X10_next_153
      refine J_putJ hX dX10_next_153 lf_X10_132 lpt_9_11 sk_186 rfl fun G153 => ?_
      refine J_iload_n 1 hX dX10_next_156 fz1 rfl ?_
      refine J_bipush hX dX10_next_157 cb_11 ?_
      refine J_icmp_le (tgt := 169) hX dX10_next_159 rfl ?_ ?_
      · exact K169 v1 G153
      · refine J_aload_n 0 hX dX10_next_162 fz0 rfl ?_
        refine J_ldc2 hX dX10_next_163 ll_X10_139 ?_
        refine J_putJ hX dX10_next_166 lf_X10_132 lpt_9_11 sk_186 rfl fun G166 => ?_
        exact K169 v1 G166
    refine J_aload_n 0 hX dX10_next_102 fz0 rfl ?_
    refine J_aload_n 0 hX dX10_next_103 fz0 rfl ?_
    refine J_getI hX dX10_next_104 lf_X10_119 sk_186 rfl ?_
    refine J_bipush hX dX10_next_107 cb_97 ?_
    refine J_bipush hX dX10_next_109 cb_122 ?_
    refine J_callVI (As := [.int (gI G 186 7), .int (97 : Int32), .int (122 : Int32)]) (st := []) (b := 186) hX mv_X10_122 sk_186 rfl rfl rfl (Nat.le_of_ble_eq_true rfl) (Nat.le_of_ble_eq_true rfl) (Nat.le_of_ble_eq_true rfl) dX10_next_111 (fun r G1 h => ok_X10_isByte  h) fun r111 G111 => ?_
    refine J_if_eq (tgt := 185) hX dX10_next_114 rfl ?_ ?_
    · refine J_goto (tgt := 307) hX dX10_next_185 rfl ?_
      exact J_retV hR dX10_next_307
    · refine J_aload_n 0 hX dX10_next_117 fz0 rfl ?_
      refine J_iload_n 1 hX dX10_next_118 fz1 rfl ?_
      refine J_bipush hX dX10_next_119 cb_11 ?_
      refine J_icmp_le (tgt := 130) hX dX10_next_121 rfl ?_ ?_
      · refine J_ldc2 hX dX10_next_130 ll_X10_141 ?_
        refine J_aload_n 0 hX dX10_next_133 fz0 rfl ?_
        refine J_getJ hX dX10_next_134 lf_X10_132 sk_186 rfl ?_
        refine J_lmul hX dX10_next_137 ?_
        refine J_aload_n 0 hX dX10_next_138 fz0 rfl ?_
        refine J_getR (b := 191) hX dX10_next_139 lf_X10_23 sk_186 rfl (by decide) rfl ?_
        refine J_aload_n 0 hX dX10_next_142 fz0 rfl ?_
        refine J_getI hX dX10_next_143 lf_X10_119 sk_186 rfl ?_
        refine J_bald hX dX10_next_146 sk_191 ln_191 ?_
        refine J_i2l hX dX10_next_147 ?_
        refine J_ladd hX dX10_next_148 ?_
        refine J_ldc2 hX dX10_next_149 ll_X10_143 ?_
        refine J_lsub hX dX10_next_152 ?_
        exact K153 v1 ((((27 : Int64) * (gJ G111 186 11)) + ((gI G111 191 (gI G111 186 7).toNatClampNeg).toInt64)) - (96 : Int64)) G111
      · refine J_ldc2 hX dX10_next_124 ll_X10_139 ?_
        refine J_goto (tgt := 153) hX dX10_next_127 rfl ?_
        exact K153 v1 (-1 : Int64) G111
  have K0 : ∀  (n : Nat)  (G : GM), J X Y 2 Q 0 [(0, .ref (AD Y 186))] [] G (wl0 n (lp_X10_next_0 )  G = some G') := by
    refine wl0_ind (R := fun  G φ => J X Y 2 Q 0 [(0, .ref (AD Y 186))] [] G φ) (fun  G φ h => J_no h) ?_
    intro kc0 hk0  G
    unfold lp_X10_next_0
    have K30 : ∀ (G : GM), J X Y 2 Q 30 [(0, .ref (AD Y 186))] [] G (k_X10_next_30 kc0 G = some G') := by
      intro G
      unfold k_X10_next_30
      refine J_aload_n 0 hX dX10_next_30 fz0 rfl ?_
      refine J_dup hX dX10_next_31 rfl ?_
      refine J_getI hX dX10_next_32 lf_X10_119 sk_186 rfl ?_
      refine J_iconst hX dX10_next_35 ci_1 ?_
      refine J_iadd hX dX10_next_36 ?_
      refine J_putI hX dX10_next_37 lf_X10_119 lpt_9_7 sk_186 rfl fun G37 => ?_
      refine J_goto (tgt := 0) hX dX10_next_40 rfl ?_
      exact hk0  G37
    refine J_aload_n 0 hX dX10_next_0 fz0 rfl ?_
    refine J_aload_n 0 hX dX10_next_1 fz0 rfl ?_
    refine J_getI hX dX10_next_2 lf_X10_119 sk_186 rfl ?_
    refine J_bipush hX dX10_next_5 cb_32 ?_
    refine J_bipush hX dX10_next_7 cb_32 ?_
    refine J_callVI (As := [.int (gI G 186 7), .int (32 : Int32), .int (32 : Int32)]) (st := []) (b := 186) hX mv_X10_122 sk_186 rfl rfl rfl (Nat.le_of_ble_eq_true rfl) (Nat.le_of_ble_eq_true rfl) (Nat.le_of_ble_eq_true rfl) dX10_next_9 (fun r G1 h => ok_X10_isByte  h) fun r9 G9 => ?_
    refine J_if_ne (tgt := 30) hX dX10_next_12 rfl ?_ ?_
    · exact K30 G9
    · refine J_aload_n 0 hX dX10_next_15 fz0 rfl ?_
      refine J_aload_n 0 hX dX10_next_16 fz0 rfl ?_
      refine J_getI hX dX10_next_17 lf_X10_119 sk_186 rfl ?_
      refine J_bipush hX dX10_next_20 cb_10 ?_
      refine J_bipush hX dX10_next_22 cb_10 ?_
      refine J_callVI (As := [.int (gI G9 186 7), .int (10 : Int32), .int (10 : Int32)]) (st := []) (b := 186) hX mv_X10_122 sk_186 rfl rfl rfl (Nat.le_of_ble_eq_true rfl) (Nat.le_of_ble_eq_true rfl) (Nat.le_of_ble_eq_true rfl) dX10_next_24 (fun r G1 h => ok_X10_isByte  h) fun r24 G24 => ?_
      refine J_if_eq (tgt := 43) hX dX10_next_27 rfl ?_ ?_
      · refine J_aload_n 0 hX dX10_next_43 fz0 rfl ?_
        refine J_aload_n 0 hX dX10_next_44 fz0 rfl ?_
        refine J_getI hX dX10_next_45 lf_X10_119 sk_186 rfl ?_
        refine J_putI hX dX10_next_48 lf_X10_126 lpt_9_9 sk_186 rfl fun G48 => ?_
        refine J_aload_n 0 hX dX10_next_51 fz0 rfl ?_
        refine J_iconst hX dX10_next_52 ci_0 ?_
        refine J_putI hX dX10_next_53 lf_X10_129 lpt_9_10 sk_186 rfl fun G53 => ?_
        refine J_aload_n 0 hX dX10_next_56 fz0 rfl ?_
        refine J_lconst hX dX10_next_57 fy0 ?_
        refine J_putJ hX dX10_next_58 lf_X10_132 lpt_9_11 sk_186 rfl fun G58 => ?_
        refine J_aload_n 0 hX dX10_next_61 fz0 rfl ?_
        refine J_getI hX dX10_next_62 lf_X10_119 sk_186 rfl ?_
        refine J_aload_n 0 hX dX10_next_65 fz0 rfl ?_
        refine J_getI hX dX10_next_66 lf_X10_112 sk_186 rfl ?_
        refine J_icmp_ne (tgt := 80) hX dX10_next_69 rfl ?_ ?_
        · refine J_aload_n 0 hX dX10_next_80 fz0 rfl ?_
          refine J_aload_n 0 hX dX10_next_81 fz0 rfl ?_
          refine J_getI hX dX10_next_82 lf_X10_119 sk_186 rfl ?_
          refine J_bipush hX dX10_next_85 cb_97 ?_
          refine J_bipush hX dX10_next_87 cb_122 ?_
          refine J_callVI (As := [.int (gI G58 186 7), .int (97 : Int32), .int (122 : Int32)]) (st := []) (b := 186) hX mv_X10_122 sk_186 rfl rfl rfl (Nat.le_of_ble_eq_true rfl) (Nat.le_of_ble_eq_true rfl) (Nat.le_of_ble_eq_true rfl) dX10_next_89 (fun r G1 h => ok_X10_isByte  h) fun r89 G89 => ?_
          refine J_if_eq (tgt := 188) hX dX10_next_92 rfl ?_ ?_
          · refine J_aload_n 0 hX dX10_next_188 fz0 rfl ?_
            refine J_aload_n 0 hX dX10_next_189 fz0 rfl ?_
            refine J_getI hX dX10_next_190 lf_X10_119 sk_186 rfl ?_
            refine J_bipush hX dX10_next_193 cb_48 ?_
            refine J_bipush hX dX10_next_195 cb_57 ?_
            refine J_callVI (As := [.int (gI G89 186 7), .int (48 : Int32), .int (57 : Int32)]) (st := []) (b := 186) hX mv_X10_122 sk_186 rfl rfl rfl (Nat.le_of_ble_eq_true rfl) (Nat.le_of_ble_eq_true rfl) (Nat.le_of_ble_eq_true rfl) dX10_next_197 (fun r G1 h => ok_X10_isByte  h) fun r197 G197 => ?_
            refine J_if_eq (tgt := 274) hX dX10_next_200 rfl ?_ ?_
            · refine J_aload_n 0 hX dX10_next_274 fz0 rfl ?_
              refine J_aload_n 0 hX dX10_next_275 fz0 rfl ?_
              refine J_getR (b := 191) hX dX10_next_276 lf_X10_23 sk_186 rfl (by decide) rfl ?_
              refine J_aload_n 0 hX dX10_next_279 fz0 rfl ?_
              refine J_getI hX dX10_next_280 lf_X10_119 sk_186 rfl ?_
              refine J_bald hX dX10_next_283 sk_191 ln_191 ?_
              refine J_bipush hX dX10_next_284 cb_59 ?_
              refine J_icmp_ne (tgt := 293) hX dX10_next_286 rfl ?_ ?_
              · refine J_iconst hX dX10_next_293 ci_4 ?_
                exact K294 (4 : Int32) G197
              · refine J_iconst hX dX10_next_289 ci_3 ?_
                refine J_goto (tgt := 294) hX dX10_next_290 rfl ?_
                exact K294 (3 : Int32) G197
            · refine J_aload_n 0 hX dX10_next_203 fz0 rfl ?_
              refine J_iconst hX dX10_next_204 ci_2 ?_
              refine J_putI hX dX10_next_205 lf_X10_136 lpt_9_8 sk_186 rfl fun G205 => ?_
              exact K208  FU  G205
          · refine J_aload_n 0 hX dX10_next_95 fz0 rfl ?_
            refine J_iconst hX dX10_next_96 ci_1 ?_
            refine J_putI hX dX10_next_97 lf_X10_136 lpt_9_8 sk_186 rfl fun G97 => ?_
            refine J_iconst hX dX10_next_100 ci_0 ?_
            refine J_istore_n (lv' := [(1, .int (0 : Int32)), (0, .ref (AD Y 186))]) hX dX10_next_101 fz1 (Nat.le_of_ble_eq_true rfl) rfl ?_
            refine J_sub (lv' := [(0, .ref (AD Y 186)), (1, .int (0 : Int32))]) [1, 0] rfl ?_
            exact K102  FU (0 : Int32) G97
        · refine J_aload_n 0 hX dX10_next_72 fz0 rfl ?_
          refine J_iconst hX dX10_next_73 ci_0 ?_
          refine J_putI hX dX10_next_74 lf_X10_136 lpt_9_8 sk_186 rfl fun G74 => ?_
          refine J_goto (tgt := 307) hX dX10_next_77 rfl ?_
          exact J_retV hR dX10_next_307
      · exact K30 G24
  unfold f_X10_next
  exact K0  FU  G
set_option maxHeartbeats 4000000 in
set_option maxRecDepth 100000 in
theorem ok_X10_isGood {Y : DX}   {G : GM} {r : Int32} {G' : GM} (hf : f_X10_isGood  G = some (r, G')) : OkI Y 1 M_X10_isGood [.ref (AD Y 186)] G r G' := by
  refine okZ_of (lv0 := [(0, .ref (AD Y 186))]) (by decide +kernel) rfl (Nat.le_of_ble_eq_true rfl) ?_
  intro X Q hX hR
  have hX : CXok X Y RX10 cX10_isGood 1 _ := hX
  revert hf
  show J X Y 1 Q 0 [(0, .ref (AD Y 186))] [] G (f_X10_isGood  G = some (r, G'))
  unfold f_X10_isGood
  refine J_aload_n 0 hX dX10_isGood_0 fz0 rfl ?_
  refine J_getI hX dX10_isGood_1 lf_X10_147 sk_186 rfl ?_
  refine J_if_ne (tgt := 11) hX dX10_isGood_4 rfl ?_ ?_
  · refine J_iconst hX dX10_isGood_11 ci_0 ?_
    exact J_retZ hR (by decide) dX10_isGood_12
  · refine J_iconst hX dX10_isGood_7 ci_1 ?_
    refine J_goto (tgt := 12) hX dX10_isGood_8 rfl ?_
    exact J_retZ hR (by decide) dX10_isGood_12
set_option maxHeartbeats 4000000 in
set_option maxRecDepth 100000 in
theorem ok_X10_fails {Y : DX} {v1 : Int32}  {G : GM} {G' : GM} (hf : f_X10_fails v1 G = some G') : OkV Y 1 M_X10_fails [.ref (AD Y 186), .int v1] G G' := by
  refine okV_of (lv0 := [(0, .ref (AD Y 186)), (1, .int v1)]) (by decide +kernel) rfl (Nat.le_of_ble_eq_true rfl) ?_
  intro X Q hX hR
  have hX : CXok X Y RX10 cX10_fails 2 _ := hX
  revert hf
  show J X Y 2 Q 0 [(0, .ref (AD Y 186)), (1, .int v1)] [] G (f_X10_fails v1 G = some G')
  unfold f_X10_fails
  refine J_aload_n 0 hX dX10_fails_0 fz0 rfl ?_
  refine J_getI hX dX10_fails_1 lf_X10_147 sk_186 rfl ?_
  refine J_if_eq (tgt := 8) hX dX10_fails_4 rfl ?_ ?_
  · refine J_aload_n 0 hX dX10_fails_8 fz0 rfl ?_
    refine J_iload_n 1 hX dX10_fails_9 fz1 rfl ?_
    refine J_putI hX dX10_fails_10 lf_X10_147 lpt_9_12 sk_186 rfl fun G10 => ?_
    refine J_aload_n 0 hX dX10_fails_13 fz0 rfl ?_
    refine J_aload_n 0 hX dX10_fails_14 fz0 rfl ?_
    refine J_getI hX dX10_fails_15 lf_X10_126 sk_186 rfl ?_
    refine J_putI hX dX10_fails_18 lf_X10_150 lpt_9_13 sk_186 rfl fun G18 => ?_
    exact J_retV hR dX10_fails_21
  · exact J_retV hR dX10_fails_7
set_option maxHeartbeats 4000000 in
set_option maxRecDepth 100000 in
theorem ok_X10_is {Y : DX} {v1 : Int64}  {G : GM} {r : Int32} {G' : GM} (hf : f_X10_is v1 G = some (r, G')) : OkI Y 1 M_X10_is [.ref (AD Y 186), .long v1] G r G' := by
  refine okZ_of (lv0 := [(0, .ref (AD Y 186)), (1, .long v1)]) (by decide +kernel) rfl (Nat.le_of_ble_eq_true rfl) ?_
  intro X Q hX hR
  have hX : CXok X Y RX10 cX10_is 3 _ := hX
  revert hf
  show J X Y 3 Q 0 [(0, .ref (AD Y 186)), (1, .long v1)] [] G (f_X10_is v1 G = some (r, G'))
  unfold f_X10_is
  refine J_aload_n 0 hX dX10_is_0 fz0 rfl ?_
  refine J_getI hX dX10_is_1 lf_X10_147 sk_186 rfl ?_
  refine J_if_ne (tgt := 28) hX dX10_is_4 rfl ?_ ?_
  · refine J_iconst hX dX10_is_28 ci_0 ?_
    exact J_retZ hR (by decide) dX10_is_29
  · refine J_aload_n 0 hX dX10_is_7 fz0 rfl ?_
    refine J_getI hX dX10_is_8 lf_X10_136 sk_186 rfl ?_
    refine J_iconst hX dX10_is_11 ci_1 ?_
    refine J_icmp_ne (tgt := 28) hX dX10_is_12 rfl ?_ ?_
    · refine J_iconst hX dX10_is_28 ci_0 ?_
      exact J_retZ hR (by decide) dX10_is_29
    · refine J_aload_n 0 hX dX10_is_15 fz0 rfl ?_
      refine J_getJ hX dX10_is_16 lf_X10_132 sk_186 rfl ?_
      refine J_lload_n 1 hX dX10_is_19 fz1 rfl ?_
      refine J_lcmp hX dX10_is_20 ?_
      refine J_if_ne (tgt := 28) hX dX10_is_21 rfl ?_ ?_
      · refine J_iconst hX dX10_is_28 ci_0 ?_
        exact J_retZ hR (by decide) dX10_is_29
      · refine J_iconst hX dX10_is_24 ci_1 ?_
        refine J_goto (tgt := 29) hX dX10_is_25 rfl ?_
        exact J_retZ hR (by decide) dX10_is_29
set_option maxHeartbeats 4000000 in
set_option maxRecDepth 100000 in
theorem ok_X10_takes {Y : DX} {v1 : Int64}  {G : GM} {r : Int32} {G' : GM} (hf : f_X10_takes v1 G = some (r, G')) : OkI Y 3 M_X10_takes [.ref (AD Y 186), .long v1] G r G' := by
  refine okZ_of (lv0 := [(0, .ref (AD Y 186)), (1, .long v1)]) (by decide +kernel) rfl (Nat.le_of_ble_eq_true rfl) ?_
  intro X Q hX hR
  have hX : CXok X Y RX10 cX10_takes 3 _ := hX
  revert hf
  show J X Y 3 Q 0 [(0, .ref (AD Y 186)), (1, .long v1)] [] G (f_X10_takes v1 G = some (r, G'))
  unfold f_X10_takes
  refine J_aload_n 0 hX dX10_takes_0 fz0 rfl ?_
  refine J_lload_n 1 hX dX10_takes_1 fz1 rfl ?_
  refine J_callVI (As := [.long v1]) (st := []) (b := 186) hX mv_X10_153 sk_186 rfl rfl rfl (Nat.le_of_ble_eq_true rfl) (Nat.le_of_ble_eq_true rfl) (Nat.le_of_ble_eq_true rfl) dX10_takes_2 (fun r G1 h => ok_X10_is  h) fun r2 G2 => ?_
  refine J_if_ne (tgt := 10) hX dX10_takes_5 rfl ?_ ?_
  · refine J_aload_n 0 hX dX10_takes_10 fz0 rfl ?_
    refine J_callVV (As := []) (st := []) (b := 186) hX mv_X10_157 sk_186 rfl rfl rfl (Nat.le_of_ble_eq_true rfl) (Nat.le_of_ble_eq_true rfl) (Nat.le_of_ble_eq_true rfl) dX10_takes_11 (fun G1 h => ok_X10_next  h) fun G11 => ?_
    refine J_iconst hX dX10_takes_14 ci_1 ?_
    exact J_retZ hR (by decide) dX10_takes_15
  · refine J_iconst hX dX10_takes_8 ci_0 ?_
    exact J_retZ hR (by decide) dX10_takes_9
set_option maxHeartbeats 4000000 in
set_option maxRecDepth 100000 in
theorem ok_X10_asks {Y : DX} {v1 : Int64}  {G : GM} {G' : GM} (hf : f_X10_asks v1 G = some G') : OkV Y 4 M_X10_asks [.ref (AD Y 186), .long v1] G G' := by
  refine okV_of (lv0 := [(0, .ref (AD Y 186)), (1, .long v1)]) (by decide +kernel) rfl (Nat.le_of_ble_eq_true rfl) ?_
  intro X Q hX hR
  have hX : CXok X Y RX10 cX10_asks 3 _ := hX
  revert hf
  show J X Y 3 Q 0 [(0, .ref (AD Y 186)), (1, .long v1)] [] G (f_X10_asks v1 G = some G')
  unfold f_X10_asks
  refine J_aload_n 0 hX dX10_asks_0 fz0 rfl ?_
  refine J_lload_n 1 hX dX10_asks_1 fz1 rfl ?_
  refine J_callVI (As := [.long v1]) (st := []) (b := 186) hX mv_X10_160 sk_186 rfl rfl rfl (Nat.le_of_ble_eq_true rfl) (Nat.le_of_ble_eq_true rfl) (Nat.le_of_ble_eq_true rfl) dX10_asks_2 (fun r G1 h => ok_X10_takes  h) fun r2 G2 => ?_
  refine J_if_ne (tgt := 13) hX dX10_asks_5 rfl ?_ ?_
  · exact J_retV hR dX10_asks_13
  · refine J_aload_n 0 hX dX10_asks_8 fz0 rfl ?_
    refine J_iconst hX dX10_asks_9 ci_1 ?_
    refine J_callVV (As := [.int (1 : Int32)]) (st := []) (b := 186) hX mv_X10_163 sk_186 rfl rfl rfl (Nat.le_of_ble_eq_true rfl) (Nat.le_of_ble_eq_true rfl) (Nat.le_of_ble_eq_true rfl) dX10_asks_10 (fun G1 h => ok_X10_fails  h) fun G10 => ?_
    exact J_retV hR dX10_asks_13
set_option maxHeartbeats 4000000 in
set_option maxRecDepth 100000 in
theorem ok_X10_number {Y : DX} {v1 : Int32} {v2 : Int32}  {G : GM} {r : Int32} {G' : GM} (hf : f_X10_number v1 v2 G = some (r, G')) : OkI Y 3 M_X10_number [.ref (AD Y 186), .int v1, .int v2] G r G' := by
  refine okI_of (lv0 := [(0, .ref (AD Y 186)), (1, .int v1), (2, .int v2)]) (by decide +kernel) rfl (Nat.le_of_ble_eq_true rfl) ?_
  intro X Q hX hR
  have hX : CXok X Y RX10 cX10_number 4 _ := hX
  revert hf
  show J X Y 4 Q 0 [(0, .ref (AD Y 186)), (1, .int v1), (2, .int v2)] [] G (f_X10_number v1 v2 G = some (r, G'))
  unfold f_X10_number
  refine J_aload_n 0 hX dX10_number_0 fz0 rfl ?_
  refine J_getI hX dX10_number_1 lf_X10_147 sk_186 rfl ?_
  refine J_if_eq (tgt := 9) hX dX10_number_4 rfl ?_ ?_
  · refine J_aload_n 0 hX dX10_number_9 fz0 rfl ?_
    refine J_getI hX dX10_number_10 lf_X10_136 sk_186 rfl ?_
    refine J_iconst hX dX10_number_13 ci_2 ?_
    refine J_icmp_eq (tgt := 24) hX dX10_number_14 rfl ?_ ?_
    · refine J_aload_n 0 hX dX10_number_24 fz0 rfl ?_
      refine J_getI hX dX10_number_25 lf_X10_129 sk_186 rfl ?_
      refine J_i2l hX dX10_number_28 ?_
      refine J_iload_n 1 hX dX10_number_29 fz1 rfl ?_
      refine J_i2l hX dX10_number_30 ?_
      refine J_iload_n 2 hX dX10_number_31 fz2 rfl ?_
      refine J_i2l hX dX10_number_32 ?_
      refine J_callSI (As := [.long ((gI G 186 10).toInt64), .long (v1.toInt64), .long (v2.toInt64)]) (st := []) hX ms_X10_100 rfl rfl (Nat.le_of_ble_eq_true rfl) (Nat.le_of_ble_eq_true rfl) (Nat.le_of_ble_eq_true rfl) dX10_number_33 (fun r G1 h => ok_X10_in  h) fun r33 G33 => ?_
      refine J_if_ne (tgt := 46) hX dX10_number_36 rfl ?_ ?_
      · refine J_aload_n 0 hX dX10_number_46 fz0 rfl ?_
        refine J_getI hX dX10_number_47 lf_X10_129 sk_186 rfl ?_
        refine J_lt (mk := Value.int) fun x50 => ?_
        refine J_istore_n (lv' := [(3, .int x50), (0, .ref (AD Y 186)), (1, .int v1), (2, .int v2)]) hX dX10_number_50 fz3 (Nat.le_of_ble_eq_true rfl) rfl ?_
        refine J_aload_n 1 hX dX10_number_51 fz0 rfl ?_
        refine J_callVV (As := []) (st := []) (b := 186) hX mv_X10_157 sk_186 rfl rfl rfl (Nat.le_of_ble_eq_true rfl) (Nat.le_of_ble_eq_true rfl) (Nat.le_of_ble_eq_true rfl) dX10_number_52 (fun G1 h => ok_X10_next  h) fun G52 => ?_
        refine J_iload_n 0 hX dX10_number_55 fz3 rfl ?_
        exact J_retI hR dX10_number_56
      · refine J_aload_n 0 hX dX10_number_39 fz0 rfl ?_
        refine J_iconst hX dX10_number_40 ci_2 ?_
        refine J_callVV (As := [.int (2 : Int32)]) (st := []) (b := 186) hX mv_X10_163 sk_186 rfl rfl rfl (Nat.le_of_ble_eq_true rfl) (Nat.le_of_ble_eq_true rfl) (Nat.le_of_ble_eq_true rfl) dX10_number_41 (fun G1 h => ok_X10_fails  h) fun G41 => ?_
        refine J_iload_n 1 hX dX10_number_44 fz1 rfl ?_
        exact J_retI hR dX10_number_45
    · refine J_aload_n 0 hX dX10_number_17 fz0 rfl ?_
      refine J_iconst hX dX10_number_18 ci_1 ?_
      refine J_callVV (As := [.int (1 : Int32)]) (st := []) (b := 186) hX mv_X10_163 sk_186 rfl rfl rfl (Nat.le_of_ble_eq_true rfl) (Nat.le_of_ble_eq_true rfl) (Nat.le_of_ble_eq_true rfl) dX10_number_19 (fun G1 h => ok_X10_fails  h) fun G19 => ?_
      refine J_iload_n 1 hX dX10_number_22 fz1 rfl ?_
      exact J_retI hR dX10_number_23
  · refine J_iload_n 1 hX dX10_number_7 fz1 rfl ?_
    exact J_retI hR dX10_number_8
set_option maxHeartbeats 4000000 in
set_option maxRecDepth 100000 in
theorem ok_X10_number_ {Y : DX} {v1 : Int64} {v3 : Int32} {v4 : Int32}  {G : GM} {r : Int32} {G' : GM} (hf : f_X10_number_ v1 v3 v4 G = some (r, G')) : OkI Y 5 M_X10_number_ [.ref (AD Y 186), .long v1, .int v3, .int v4] G r G' := by
  refine okI_of (lv0 := [(0, .ref (AD Y 186)), (1, .long v1), (3, .int v3), (4, .int v4)]) (by decide +kernel) rfl (Nat.le_of_ble_eq_true rfl) ?_
  intro X Q hX hR
  have hX : CXok X Y RX10 cX10_number_ 5 _ := hX
  revert hf
  show J X Y 5 Q 0 [(0, .ref (AD Y 186)), (1, .long v1), (3, .int v3), (4, .int v4)] [] G (f_X10_number_ v1 v3 v4 G = some (r, G'))
  unfold f_X10_number_
  refine J_aload_n 0 hX dX10_number__0 fz0 rfl ?_
  refine J_lload_n 1 hX dX10_number__1 fz1 rfl ?_
  refine J_callVV (As := [.long v1]) (st := []) (b := 186) hX mv_X10_166 sk_186 rfl rfl rfl (Nat.le_of_ble_eq_true rfl) (Nat.le_of_ble_eq_true rfl) (Nat.le_of_ble_eq_true rfl) dX10_number__2 (fun G1 h => ok_X10_asks  h) fun G2 => ?_
  refine J_aload_n 0 hX dX10_number__5 fz0 rfl ?_
  refine J_iload_n 2 hX dX10_number__6 fz3 rfl ?_
  refine J_iload 3 hX dX10_number__7 rfl ?_
  refine J_callVI (As := [.int v3, .int v4]) (st := []) (b := 186) hX mv_X10_170 sk_186 rfl rfl rfl (Nat.le_of_ble_eq_true rfl) (Nat.le_of_ble_eq_true rfl) (Nat.le_of_ble_eq_true rfl) dX10_number__9 (fun r G1 h => ok_X10_number  h) fun r9 G9 => ?_
  exact J_retI hR dX10_number__12
set_option maxHeartbeats 4000000 in
set_option maxRecDepth 100000 in
theorem ok_X10_ends {Y : DX}   {G : GM} {G' : GM} (hf : f_X10_ends  G = some G') : OkV Y 3 M_X10_ends [.ref (AD Y 186)] G G' := by
  refine okV_of (lv0 := [(0, .ref (AD Y 186))]) (by decide +kernel) rfl (Nat.le_of_ble_eq_true rfl) ?_
  intro X Q hX hR
  have hX : CXok X Y RX10 cX10_ends 1 _ := hX
  revert hf
  show J X Y 1 Q 0 [(0, .ref (AD Y 186))] [] G (f_X10_ends  G = some G')
  have K13 : ∀ (G : GM), J X Y 1 Q 13 [(0, .ref (AD Y 186))] [] G (k_X10_ends_13  G = some G') := by
    intro G
    unfold k_X10_ends_13
    refine J_aload_n 0 hX dX10_ends_13 fz0 rfl ?_
    refine J_getI hX dX10_ends_14 lf_X10_147 sk_186 rfl ?_
    refine J_if_ne (tgt := 24) hX dX10_ends_17 rfl ?_ ?_
    · exact J_retV hR dX10_ends_24
    · refine J_aload_n 0 hX dX10_ends_20 fz0 rfl ?_
      refine J_callVV (As := []) (st := []) (b := 186) hX mv_X10_157 sk_186 rfl rfl rfl (Nat.le_of_ble_eq_true rfl) (Nat.le_of_ble_eq_true rfl) (Nat.le_of_ble_eq_true rfl) dX10_ends_21 (fun G1 h => ok_X10_next  h) fun G21 => ?_
      exact J_retV hR dX10_ends_24
  unfold f_X10_ends
  refine J_aload_n 0 hX dX10_ends_0 fz0 rfl ?_
  refine J_getI hX dX10_ends_1 lf_X10_136 sk_186 rfl ?_
  refine J_iconst hX dX10_ends_4 ci_3 ?_
  refine J_icmp_eq (tgt := 13) hX dX10_ends_5 rfl ?_ ?_
  · exact K13 G
  · refine J_aload_n 0 hX dX10_ends_8 fz0 rfl ?_
    refine J_iconst hX dX10_ends_9 ci_1 ?_
    refine J_callVV (As := [.int (1 : Int32)]) (st := []) (b := 186) hX mv_X10_163 sk_186 rfl rfl rfl (Nat.le_of_ble_eq_true rfl) (Nat.le_of_ble_eq_true rfl) (Nat.le_of_ble_eq_true rfl) dX10_ends_10 (fun G1 h => ok_X10_fails  h) fun G10 => ?_
    exact K13 G10
set_option maxHeartbeats 4000000 in
set_option maxRecDepth 100000 in
theorem ok_X10_begins {Y : DX}   {G : GM} {G' : GM} (hf : f_X10_begins  G = some G') : OkV Y 3 M_X10_begins [.ref (AD Y 186)] G G' := by
  refine okV_of (lv0 := [(0, .ref (AD Y 186))]) (by decide +kernel) rfl (Nat.le_of_ble_eq_true rfl) ?_
  intro X Q hX hR
  have hX : CXok X Y RX10 cX10_begins 1 _ := hX
  revert hf
  show J X Y 1 Q 0 [(0, .ref (AD Y 186))] [] G (f_X10_begins  G = some G')
  unfold f_X10_begins
  refine J_aload_n 0 hX dX10_begins_0 fz0 rfl ?_
  refine J_iconst hX dX10_begins_1 ci_0 ?_
  refine J_putI hX dX10_begins_2 lf_X10_147 lpt_9_12 sk_186 rfl fun G2 => ?_
  refine J_aload_n 0 hX dX10_begins_5 fz0 rfl ?_
  refine J_iconst hX dX10_begins_6 cim_1 ?_
  refine J_putI hX dX10_begins_7 lf_X10_150 lpt_9_13 sk_186 rfl fun G7 => ?_
  refine J_aload_n 0 hX dX10_begins_10 fz0 rfl ?_
  refine J_iconst hX dX10_begins_11 ci_0 ?_
  refine J_putI hX dX10_begins_12 lf_X10_119 lpt_9_7 sk_186 rfl fun G12 => ?_
  refine J_aload_n 0 hX dX10_begins_15 fz0 rfl ?_
  refine J_callVV (As := []) (st := []) (b := 186) hX mv_X10_157 sk_186 rfl rfl rfl (Nat.le_of_ble_eq_true rfl) (Nat.le_of_ble_eq_true rfl) (Nat.le_of_ble_eq_true rfl) dX10_begins_16 (fun G1 h => ok_X10_next  h) fun G16 => ?_
  exact J_retV hR dX10_begins_19
set_option maxHeartbeats 4000000 in
set_option maxRecDepth 100000 in
theorem ok_X10_isOver {Y : DX}   {G : GM} {G' : GM} (hf : f_X10_isOver  G = some G') : OkV Y 1 M_X10_isOver [.ref (AD Y 186)] G G' := by
  refine okV_of (lv0 := [(0, .ref (AD Y 186))]) (by decide +kernel) rfl (Nat.le_of_ble_eq_true rfl) ?_
  intro X Q hX hR
  have hX : CXok X Y RX10 cX10_isOver 1 _ := hX
  revert hf
  show J X Y 1 Q 0 [(0, .ref (AD Y 186))] [] G (f_X10_isOver  G = some G')
  have K29 : ∀ (s0 : Int32) (G : GM), J X Y 1 Q 29 [] [.int s0, .ref (AD Y 186)] G (k_X10_isOver_29 s0 G = some G') := by
    intro s0 G
    unfold k_X10_isOver_29
    refine J_putI hX dX10_isOver_29 lf_X10_27 lpt_9_15 sk_186 rfl fun G29 => ?_
    exact J_retV hR dX10_isOver_32
  unfold f_X10_isOver
  refine J_aload_n 0 hX dX10_isOver_0 fz0 rfl ?_
  refine J_iconst hX dX10_isOver_1 ci_0 ?_
  refine J_putI hX dX10_isOver_2 lf_X10_112 lpt_9_6 sk_186 rfl fun G2 => ?_
  refine J_aload_n 0 hX dX10_isOver_5 fz0 rfl ?_
  refine J_aload_n 0 hX dX10_isOver_6 fz0 rfl ?_
  refine J_getI hX dX10_isOver_7 lf_X10_147 sk_186 rfl ?_
  refine J_putI hX dX10_isOver_10 lf_X10_174 lpt_9_14 sk_186 rfl fun G10 => ?_
  refine J_aload_n 0 hX dX10_isOver_13 fz0 rfl ?_
  refine J_aload_n 0 hX dX10_isOver_14 fz0 rfl ?_
  refine J_getI hX dX10_isOver_15 lf_X10_147 sk_186 rfl ?_
  refine J_if_ne (tgt := 25) hX dX10_isOver_18 rfl ?_ ?_
  · refine J_aload_n 0 hX dX10_isOver_25 fz0 rfl ?_
    refine J_getI hX dX10_isOver_26 lf_X10_150 sk_186 rfl ?_
    refine J_sub (lv' := []) [] rfl ?_
    exact K29 (gI G10 186 13) G10
  · refine J_iconst hX dX10_isOver_21 cim_1 ?_
    refine J_goto (tgt := 29) hX dX10_isOver_22 rfl ?_
    refine J_sub (lv' := []) [] rfl ?_
    exact K29 (-1 : Int32) G10
set_option maxHeartbeats 4000000 in
set_option maxRecDepth 100000 in
theorem ok_X10_fault {Y : DX} {v1 : Int32}  {G : GM} {r : Int32} {G' : GM} (hf : f_X10_fault v1 G = some (r, G')) : OkI Y 1 M_X10_fault [.ref (AD Y 186), .int v1] G r G' := by
  refine okI_of (lv0 := [(0, .ref (AD Y 186)), (1, .int v1)]) (by decide +kernel) rfl (Nat.le_of_ble_eq_true rfl) ?_
  intro X Q hX hR
  have hX : CXok X Y RX10 cX10_fault 2 _ := hX
  revert hf
  show J X Y 2 Q 0 [(0, .ref (AD Y 186)), (1, .int v1)] [] G (f_X10_fault v1 G = some (r, G'))
  unfold f_X10_fault
  refine J_aload_n 0 hX dX10_fault_0 fz0 rfl ?_
  refine J_iconst hX dX10_fault_1 ci_0 ?_
  refine J_putI hX dX10_fault_2 lf_X10_95 lpt_9_0 sk_186 rfl fun G2 => ?_
  refine J_iload_n 1 hX dX10_fault_5 fz1 rfl ?_
  refine J_if_ne (tgt := 16) hX dX10_fault_6 rfl ?_ ?_
  · refine J_iload_n 1 hX dX10_fault_16 fz1 rfl ?_
    refine J_iconst hX dX10_fault_17 ci_1 ?_
    refine J_icmp_ne (tgt := 28) hX dX10_fault_18 rfl ?_ ?_
    · refine J_iconst hX dX10_fault_28 cim_1 ?_
      exact J_retI hR dX10_fault_29
    · refine J_aload_n 0 hX dX10_fault_21 fz0 rfl ?_
      refine J_getI hX dX10_fault_22 lf_X10_27 sk_186 rfl ?_
      refine J_goto (tgt := 29) hX dX10_fault_25 rfl ?_
      exact J_retI hR dX10_fault_29
  · refine J_aload_n 0 hX dX10_fault_9 fz0 rfl ?_
    refine J_getI hX dX10_fault_10 lf_X10_174 sk_186 rfl ?_
    refine J_goto (tgt := 29) hX dX10_fault_13 rfl ?_
    exact J_retI hR dX10_fault_29
set_option maxHeartbeats 4000000 in
set_option maxRecDepth 100000 in
theorem ok_X10_of {Y : DX} {v1 : Int32} {v2 : Int32}  {G : GM} {r : Int32} {G' : GM} (hf : f_X10_of v1 v2 G = some (r, G')) : OkI Y 1 M_X10_of [.ref (AD Y 186), .int v1, .int v2] G r G' := by
  refine okI_of (lv0 := [(0, .ref (AD Y 186)), (1, .int v1), (2, .int v2)]) (by decide +kernel) rfl (Nat.le_of_ble_eq_true rfl) ?_
  intro X Q hX hR
  have hX : CXok X Y RX10 cX10_of 3 _ := hX
  revert hf
  show J X Y 3 Q 0 [(0, .ref (AD Y 186)), (1, .int v1), (2, .int v2)] [] G (f_X10_of v1 v2 G = some (r, G'))
  unfold f_X10_of
  refine J_aload_n 0 hX dX10_of_0 fz0 rfl ?_
  refine J_getR (b := 193) hX dX10_of_1 lf_X10_34 sk_186 rfl (by decide) rfl ?_
  refine J_bipush hX dX10_of_4 cb_8 ?_
  refine J_iload_n 1 hX dX10_of_6 fz1 rfl ?_
  refine J_imul hX dX10_of_7 ?_
  refine J_iload_n 2 hX dX10_of_8 fz2 rfl ?_
  refine J_iadd hX dX10_of_9 ?_
  refine J_iald hX dX10_of_10 sk_193 ln_193 ?_
  exact J_retI hR dX10_of_11
set_option maxHeartbeats 4000000 in
set_option maxRecDepth 100000 in
theorem ok_X10_numbersOf {Y : DX} {v1 : Int32}  {G : GM} {r : Int32} {G' : GM} (hf : f_X10_numbersOf v1 G = some (r, G')) : OkI Y 2 M_X10_numbersOf [.ref (AD Y 186), .int v1] G r G' := by
  refine okI_of (lv0 := [(0, .ref (AD Y 186)), (1, .int v1)]) (by decide +kernel) rfl (Nat.le_of_ble_eq_true rfl) ?_
  intro X Q hX hR
  have hX : CXok X Y RX10 cX10_numbersOf 2 _ := hX
  revert hf
  show J X Y 2 Q 0 [(0, .ref (AD Y 186)), (1, .int v1)] [] G (f_X10_numbersOf v1 G = some (r, G'))
  unfold f_X10_numbersOf
  refine J_aload_n 0 hX dX10_numbersOf_0 fz0 rfl ?_
  refine J_iload_n 1 hX dX10_numbersOf_1 fz1 rfl ?_
  refine J_iconst hX dX10_numbersOf_2 ci_0 ?_
  refine J_callVI (As := [.int v1, .int (0 : Int32)]) (st := []) (b := 186) hX mv_X10_177 sk_186 rfl rfl rfl (Nat.le_of_ble_eq_true rfl) (Nat.le_of_ble_eq_true rfl) (Nat.le_of_ble_eq_true rfl) dX10_numbersOf_3 (fun r G1 h => ok_X10_of  h) fun r3 G3 => ?_
  refine J_aload_n 0 hX dX10_numbersOf_6 fz0 rfl ?_
  refine J_iload_n 1 hX dX10_numbersOf_7 fz1 rfl ?_
  refine J_iconst hX dX10_numbersOf_8 ci_1 ?_
  refine J_callVI (As := [.int v1, .int (1 : Int32)]) (st := [.int r3]) (b := 186) hX mv_X10_177 sk_186 rfl rfl rfl (Nat.le_of_ble_eq_true rfl) (Nat.le_of_ble_eq_true rfl) (Nat.le_of_ble_eq_true rfl) dX10_numbersOf_9 (fun r G1 h => ok_X10_of  h) fun r9 G9 => ?_
  refine J_imul hX dX10_numbersOf_12 ?_
  refine J_aload_n 0 hX dX10_numbersOf_13 fz0 rfl ?_
  refine J_iload_n 1 hX dX10_numbersOf_14 fz1 rfl ?_
  refine J_iconst hX dX10_numbersOf_15 ci_2 ?_
  refine J_callVI (As := [.int v1, .int (2 : Int32)]) (st := [.int (r3 * r9)]) (b := 186) hX mv_X10_177 sk_186 rfl rfl rfl (Nat.le_of_ble_eq_true rfl) (Nat.le_of_ble_eq_true rfl) (Nat.le_of_ble_eq_true rfl) dX10_numbersOf_16 (fun r G1 h => ok_X10_of  h) fun r16 G16 => ?_
  refine J_imul hX dX10_numbersOf_19 ?_
  exact J_retI hR dX10_numbersOf_20
set_option maxHeartbeats 4000000 in
set_option maxRecDepth 100000 in
theorem ok_X10_plans {Y : DX} : ∀ (n : Nat) {v1 : Int32} {v2 : Int32} {v3 : Int32} {v4 : Int32}  {G : GM} {G' : GM} (hf : f_X10_plans n v1 v2 v3 v4 G = some G'), OkV Y (2 + n) M_X10_plans [.ref (AD Y 186), .int v1, .int v2, .int v3, .int v4] G G' := by
  intro n
  induction n with
  | zero =>
    intros
    rename_i hf
    cases hf
  | succ n ih =>
    intro v1 v2 v3 v4  G G' hf
    have hf : fb_X10_plans (f_X10_plans n) v1 v2 v3 v4 G = some G' := hf
    generalize f_X10_plans n = rec at ih hf
    refine okV_of (lv0 := [(0, .ref (AD Y 186)), (1, .int v1), (2, .int v2), (3, .int v3), (4, .int v4)]) (by decide +kernel) rfl (Nat.le_of_ble_eq_true rfl) ?_
    intro X Q hX hR
    have hX : CXok X Y RX10 cX10_plans 6 _ := hX
    revert hf
    show J X Y 6 Q 0 [(0, .ref (AD Y 186)), (1, .int v1), (2, .int v2), (3, .int v3), (4, .int v4)] [] G (fb_X10_plans rec v1 v2 v3 v4 G = some G')
    have K135 : ∀  (n : Nat) (v5 : Int32) (G : GM), J X Y 6 Q 135 [(0, .ref (AD Y 186)), (1, .int v1), (2, .int v2), (3, .int v3), (4, .int v4), (5, .int v5)] [] G (wl1 n (lp_X10_plans_135 rec v1 v2 v3 v4) v5 G = some G') := by
      refine wl1_ind (R := fun v5 G φ => J X Y 6 Q 135 [(0, .ref (AD Y 186)), (1, .int v1), (2, .int v2), (3, .int v3), (4, .int v4), (5, .int v5)] [] G φ) (fun _ G φ h => J_no h) ?_
      intro kc135 hk135 v5 G
      unfold lp_X10_plans_135
      refine J_iload 5 hX dX10_plans_135 rfl ?_
      refine J_aload_n 0 hX dX10_plans_137 fz0 rfl ?_
      refine J_iload_n 1 hX dX10_plans_138 fz1 rfl ?_
      refine J_iconst hX dX10_plans_139 ci_1 ?_
      refine J_callVI (As := [.int v1, .int (1 : Int32)]) (st := [.int v5]) (b := 186) hX mv_X10_177 sk_186 rfl rfl rfl (Nat.le_of_ble_eq_true rfl) (by omega) (Nat.le_of_ble_eq_true rfl) dX10_plans_140 (fun r G1 h => ok_X10_of  h) fun r140 G140 => ?_
      refine J_icmp_gt (tgt := 232) hX dX10_plans_143 rfl ?_ ?_
      · exact J_retV hR dX10_plans_232
      · refine J_iload 5 hX dX10_plans_146 rfl ?_
        refine J_aload_n 0 hX dX10_plans_148 fz0 rfl ?_
        refine J_getR (b := 201) hX dX10_plans_149 lf_X10_59 sk_186 rfl (by decide) rfl ?_
        refine J_iload_n 3 hX dX10_plans_152 fz3 rfl ?_
        refine J_iald hX dX10_plans_153 sk_201 ln_201 ?_
        refine J_icmp_gt (tgt := 232) hX dX10_plans_154 rfl ?_ ?_
        · exact J_retV hR dX10_plans_232
        · refine J_iload 4 hX dX10_plans_157 rfl ?_
          refine J_iload 5 hX dX10_plans_159 rfl ?_
          refine J_iadd hX dX10_plans_161 ?_
          refine J_aload_n 0 hX dX10_plans_162 fz0 rfl ?_
          refine J_iload_n 1 hX dX10_plans_163 fz1 rfl ?_
          refine J_iconst hX dX10_plans_164 ci_1 ?_
          refine J_callVI (As := [.int v1, .int (1 : Int32)]) (st := [.int (v4 + v5)]) (b := 186) hX mv_X10_177 sk_186 rfl rfl rfl (Nat.le_of_ble_eq_true rfl) (by omega) (Nat.le_of_ble_eq_true rfl) dX10_plans_165 (fun r G1 h => ok_X10_of  h) fun r165 G165 => ?_
          refine J_aload_n 0 hX dX10_plans_168 fz0 rfl ?_
          refine J_iload_n 1 hX dX10_plans_169 fz1 rfl ?_
          refine J_iconst hX dX10_plans_170 ci_2 ?_
          refine J_callVI (As := [.int v1, .int (2 : Int32)]) (st := [.int r165, .int (v4 + v5)]) (b := 186) hX mv_X10_177 sk_186 rfl rfl rfl (Nat.le_of_ble_eq_true rfl) (by omega) (Nat.le_of_ble_eq_true rfl) dX10_plans_171 (fun r G1 h => ok_X10_of  h) fun r171 G171 => ?_
          refine J_imul hX dX10_plans_174 ?_
          refine J_icmp_gt (tgt := 232) hX dX10_plans_175 rfl ?_ ?_
          · exact J_retV hR dX10_plans_232
          · refine J_aload_n 0 hX dX10_plans_178 fz0 rfl ?_
            refine J_getR (b := 199) hX dX10_plans_179 lf_X10_53 sk_186 rfl (by decide) rfl ?_
            refine J_iconst hX dX10_plans_182 ci_5 ?_
            refine J_iload_n 2 hX dX10_plans_183 fz2 rfl ?_
            refine J_imul hX dX10_plans_184 ?_
            refine J_iload_n 3 hX dX10_plans_185 fz3 rfl ?_
            refine J_iadd hX dX10_plans_186 ?_
            refine J_iload 5 hX dX10_plans_187 rfl ?_
            refine J_iast hX dX10_plans_189 sk_199 ln_199 fun G189 => ?_
            refine J_aload_n 0 hX dX10_plans_190 fz0 rfl ?_
            refine J_getR (b := 201) hX dX10_plans_191 lf_X10_59 sk_186 rfl (by decide) rfl ?_
            refine J_iload_n 3 hX dX10_plans_194 fz3 rfl ?_
            refine J_dup2 hX dX10_plans_195 rfl rfl ?_
            refine J_iald hX dX10_plans_196 sk_201 ln_201 ?_
            refine J_iload 5 hX dX10_plans_197 rfl ?_
            refine J_isub hX dX10_plans_199 ?_
            refine J_iast hX dX10_plans_200 sk_201 ln_201 fun G200 => ?_
            refine J_aload_n 0 hX dX10_plans_201 fz0 rfl ?_
            refine J_iload_n 1 hX dX10_plans_202 fz1 rfl ?_
            refine J_iload_n 2 hX dX10_plans_203 fz2 rfl ?_
            refine J_iload_n 3 hX dX10_plans_204 fz3 rfl ?_
            refine J_iconst hX dX10_plans_205 ci_1 ?_
            refine J_iadd hX dX10_plans_206 ?_
            refine J_iload 4 hX dX10_plans_207 rfl ?_
            refine J_iload 5 hX dX10_plans_209 rfl ?_
            refine J_iadd hX dX10_plans_211 ?_
            refine J_callVV (As := [.int v1, .int v2, .int (v3 + (1 : Int32)), .int (v4 + v5)]) (st := []) (b := 186) hX mv_X10_266 sk_186 rfl rfl rfl (Nat.le_of_ble_eq_true rfl) (by omega) (Nat.le_of_ble_eq_true rfl) dX10_plans_212 (fun G1 h => ih  h) fun G212 => ?_
            refine J_aload_n 0 hX dX10_plans_215 fz0 rfl ?_
            refine J_getR (b := 201) hX dX10_plans_216 lf_X10_59 sk_186 rfl (by decide) rfl ?_
            refine J_iload_n 3 hX dX10_plans_219 fz3 rfl ?_
            refine J_dup2 hX dX10_plans_220 rfl rfl ?_
            refine J_iald hX dX10_plans_221 sk_201 ln_201 ?_
            refine J_iload 5 hX dX10_plans_222 rfl ?_
            refine J_iadd hX dX10_plans_224 ?_
            refine J_iast hX dX10_plans_225 sk_201 ln_201 fun G225 => ?_
            refine J_iinc (lv' := [(5, .int (v5 + (1 : Int32))), (0, .ref (AD Y 186)), (1, .int v1), (2, .int v2), (3, .int v3), (4, .int v4)]) 5 hX dX10_plans_226 rfl ci_1 (Nat.le_of_ble_eq_true rfl) rfl ?_
            refine J_goto (tgt := 135) hX dX10_plans_229 rfl ?_
            refine J_sub (lv' := [(0, .ref (AD Y 186)), (1, .int v1), (2, .int v2), (3, .int v3), (4, .int v4), (5, .int (v5 + (1 : Int32)))]) [1, 2, 3, 4, 5, 0] rfl ?_
            exact hk135 (v5 + (1 : Int32)) G225
    have K82 : ∀ (G : GM), J X Y 6 Q 82 [(0, .ref (AD Y 186))] [] G (k_X10_plans_82 rec v1 v2 v3 v4 G = some G') := by
      intro G
      unfold k_X10_plans_82
      refine J_aload_n 0 hX dX10_plans_82 fz0 rfl ?_
      refine J_dup hX dX10_plans_83 rfl ?_
      refine J_getI hX dX10_plans_84 lf_X10_210 sk_186 rfl ?_
      refine J_iconst hX dX10_plans_87 ci_1 ?_
      refine J_iadd hX dX10_plans_88 ?_
      refine J_putI hX dX10_plans_89 lf_X10_210 lpt_9_26 sk_186 rfl fun G89 => ?_
      exact J_retV hR dX10_plans_92
    have K55 : ∀  (n : Nat) (v5 : Int32) (G : GM), J X Y 6 Q 55 [(0, .ref (AD Y 186)), (5, .int v5)] [] G (wl1 n (lp_X10_plans_55 rec v1 v2 v3 v4) v5 G = some G') := by
      refine wl1_ind (R := fun v5 G φ => J X Y 6 Q 55 [(0, .ref (AD Y 186)), (5, .int v5)] [] G φ) (fun _ G φ h => J_no h) ?_
      intro kc55 hk55 v5 G
      unfold lp_X10_plans_55
      refine J_iload 1 hX dX10_plans_55 rfl ?_
      refine J_bipush hX dX10_plans_57 cb_15 ?_
      refine J_icmp_ge (tgt := 82) hX dX10_plans_59 rfl ?_ ?_
      · refine J_sub (lv' := [(0, .ref (AD Y 186))]) [0] rfl ?_
        exact K82 G
      · refine J_aload_n 0 hX dX10_plans_62 fz0 rfl ?_
        refine J_getR (b := 200) hX dX10_plans_63 lf_X10_56 sk_186 rfl (by decide) rfl ?_
        refine J_iload 1 hX dX10_plans_66 rfl ?_
        refine J_aload_n 0 hX dX10_plans_68 fz0 rfl ?_
        refine J_getR (b := 199) hX dX10_plans_69 lf_X10_53 sk_186 rfl (by decide) rfl ?_
        refine J_iload 1 hX dX10_plans_72 rfl ?_
        refine J_iald hX dX10_plans_74 sk_199 ln_199 ?_
        refine J_iast hX dX10_plans_75 sk_200 ln_200 fun G75 => ?_
        refine J_iinc (lv' := [(5, .int (v5 + (1 : Int32))), (0, .ref (AD Y 186))]) 1 hX dX10_plans_76 rfl ci_1 (Nat.le_of_ble_eq_true rfl) rfl ?_
        refine J_goto (tgt := 55) hX dX10_plans_79 rfl ?_
        refine J_sub (lv' := [(0, .ref (AD Y 186)), (5, .int (v5 + (1 : Int32)))]) [1, 0] rfl ?_
        exact hk55 (v5 + (1 : Int32)) G75
    have K13 : ∀  (n : Nat) (v5 : Int32) (G : GM), J X Y 6 Q 13 [(0, .ref (AD Y 186)), (1, .int v1), (5, .int v5)] [] G (wl1 n (lp_X10_plans_13 rec v1 v2 v3 v4) v5 G = some G') := by
      refine wl1_ind (R := fun v5 G φ => J X Y 6 Q 13 [(0, .ref (AD Y 186)), (1, .int v1), (5, .int v5)] [] G φ) (fun _ G φ h => J_no h) ?_
      intro kc13 hk13 v5 G
      unfold lp_X10_plans_13
      refine J_iload 2 hX dX10_plans_13 rfl ?_
      refine J_aload_n 0 hX dX10_plans_15 fz0 rfl ?_
      refine J_iload_n 1 hX dX10_plans_16 fz1 rfl ?_
      refine J_iconst hX dX10_plans_17 ci_3 ?_
      refine J_callVI (As := [.int v1, .int (3 : Int32)]) (st := [.int v5]) (b := 186) hX mv_X10_177 sk_186 rfl rfl rfl (Nat.le_of_ble_eq_true rfl) (by omega) (Nat.le_of_ble_eq_true rfl) dX10_plans_18 (fun r G1 h => ok_X10_of  h) fun r18 G18 => ?_
      refine J_icmp_ge (tgt := 41) hX dX10_plans_21 rfl ?_ ?_
      · refine J_aload_n 0 hX dX10_plans_41 fz0 rfl ?_
        refine J_getI hX dX10_plans_42 lf_X10_210 sk_186 rfl ?_
        refine J_aload_n 0 hX dX10_plans_45 fz0 rfl ?_
        refine J_getI hX dX10_plans_46 lf_X10_263 sk_186 rfl ?_
        refine J_icmp_ne (tgt := 82) hX dX10_plans_49 rfl ?_ ?_
        · refine J_sub (lv' := [(0, .ref (AD Y 186))]) [0] rfl ?_
          exact K82 G18
        · refine J_iconst hX dX10_plans_52 ci_0 ?_
          refine J_istore (lv' := [(5, .int (0 : Int32)), (0, .ref (AD Y 186)), (1, .int v1)]) hX dX10_plans_53 (Nat.le_of_ble_eq_true rfl) rfl ?_
          refine J_sub (lv' := [(0, .ref (AD Y 186)), (5, .int (0 : Int32))]) [1, 0] rfl ?_
          exact K55  FU (0 : Int32) G18
      · refine J_aload_n 0 hX dX10_plans_24 fz0 rfl ?_
        refine J_getR (b := 201) hX dX10_plans_25 lf_X10_59 sk_186 rfl (by decide) rfl ?_
        refine J_iload 2 hX dX10_plans_28 rfl ?_
        refine J_iald hX dX10_plans_30 sk_201 ln_201 ?_
        refine J_if_eq (tgt := 35) hX dX10_plans_31 rfl ?_ ?_
        · refine J_iinc (lv' := [(5, .int (v5 + (1 : Int32))), (0, .ref (AD Y 186)), (1, .int v1)]) 2 hX dX10_plans_35 rfl ci_1 (Nat.le_of_ble_eq_true rfl) rfl ?_
          refine J_goto (tgt := 13) hX dX10_plans_38 rfl ?_
          refine J_sub (lv' := [(0, .ref (AD Y 186)), (1, .int v1), (5, .int (v5 + (1 : Int32)))]) [1, 2, 0] rfl ?_
          exact hk13 (v5 + (1 : Int32)) G18
        · exact J_retV hR dX10_plans_34
    unfold fb_X10_plans
    refine J_iload_n 2 hX dX10_plans_0 fz2 rfl ?_
    refine J_aload_n 0 hX dX10_plans_1 fz0 rfl ?_
    refine J_iload_n 1 hX dX10_plans_2 fz1 rfl ?_
    refine J_iconst hX dX10_plans_3 ci_0 ?_
    refine J_callVI (As := [.int v1, .int (0 : Int32)]) (st := [.int v2]) (b := 186) hX mv_X10_177 sk_186 rfl rfl rfl (Nat.le_of_ble_eq_true rfl) (by omega) (Nat.le_of_ble_eq_true rfl) dX10_plans_4 (fun r G1 h => ok_X10_of  h) fun r4 G4 => ?_
    refine J_icmp_ne (tgt := 93) hX dX10_plans_7 rfl ?_ ?_
    · refine J_iload_n 3 hX dX10_plans_93 fz3 rfl ?_
      refine J_aload_n 0 hX dX10_plans_94 fz0 rfl ?_
      refine J_iload_n 1 hX dX10_plans_95 fz1 rfl ?_
      refine J_iconst hX dX10_plans_96 ci_3 ?_
      refine J_callVI (As := [.int v1, .int (3 : Int32)]) (st := [.int v3]) (b := 186) hX mv_X10_177 sk_186 rfl rfl rfl (Nat.le_of_ble_eq_true rfl) (by omega) (Nat.le_of_ble_eq_true rfl) dX10_plans_97 (fun r G1 h => ok_X10_of  h) fun r97 G97 => ?_
      refine J_icmp_ne (tgt := 132) hX dX10_plans_100 rfl ?_ ?_
      · refine J_iconst hX dX10_plans_132 ci_1 ?_
        refine J_istore (lv' := [(5, .int (1 : Int32)), (0, .ref (AD Y 186)), (1, .int v1), (2, .int v2), (3, .int v3), (4, .int v4)]) hX dX10_plans_133 (Nat.le_of_ble_eq_true rfl) rfl ?_
        refine J_sub (lv' := [(0, .ref (AD Y 186)), (1, .int v1), (2, .int v2), (3, .int v3), (4, .int v4), (5, .int (1 : Int32))]) [1, 2, 3, 4, 5, 0] rfl ?_
        exact K135  FU (1 : Int32) G97
      · refine J_iload 4 hX dX10_plans_103 rfl ?_
        refine J_aload_n 0 hX dX10_plans_105 fz0 rfl ?_
        refine J_iload_n 1 hX dX10_plans_106 fz1 rfl ?_
        refine J_iconst hX dX10_plans_107 ci_1 ?_
        refine J_callVI (As := [.int v1, .int (1 : Int32)]) (st := [.int v4]) (b := 186) hX mv_X10_177 sk_186 rfl rfl rfl (Nat.le_of_ble_eq_true rfl) (by omega) (Nat.le_of_ble_eq_true rfl) dX10_plans_108 (fun r G1 h => ok_X10_of  h) fun r108 G108 => ?_
        refine J_aload_n 0 hX dX10_plans_111 fz0 rfl ?_
        refine J_iload_n 1 hX dX10_plans_112 fz1 rfl ?_
        refine J_iconst hX dX10_plans_113 ci_2 ?_
        refine J_callVI (As := [.int v1, .int (2 : Int32)]) (st := [.int r108, .int v4]) (b := 186) hX mv_X10_177 sk_186 rfl rfl rfl (Nat.le_of_ble_eq_true rfl) (by omega) (Nat.le_of_ble_eq_true rfl) dX10_plans_114 (fun r G1 h => ok_X10_of  h) fun r114 G114 => ?_
        refine J_imul hX dX10_plans_117 ?_
        refine J_icmp_ne (tgt := 131) hX dX10_plans_118 rfl ?_ ?_
        · exact J_retV hR dX10_plans_131
        · refine J_aload_n 0 hX dX10_plans_121 fz0 rfl ?_
          refine J_iload_n 1 hX dX10_plans_122 fz1 rfl ?_
          refine J_iload_n 2 hX dX10_plans_123 fz2 rfl ?_
          refine J_iconst hX dX10_plans_124 ci_1 ?_
          refine J_iadd hX dX10_plans_125 ?_
          refine J_iconst hX dX10_plans_126 ci_0 ?_
          refine J_iconst hX dX10_plans_127 ci_0 ?_
          refine J_callVV (As := [.int v1, .int (v2 + (1 : Int32)), .int (0 : Int32), .int (0 : Int32)]) (st := []) (b := 186) hX mv_X10_266 sk_186 rfl rfl rfl (Nat.le_of_ble_eq_true rfl) (by omega) (Nat.le_of_ble_eq_true rfl) dX10_plans_128 (fun G1 h => ih  h) fun G128 => ?_
          exact J_retV hR dX10_plans_131
    · refine J_iconst hX dX10_plans_10 ci_0 ?_
      refine J_istore (lv' := [(5, .int (0 : Int32)), (0, .ref (AD Y 186)), (1, .int v1), (2, .int v2), (3, .int v3), (4, .int v4)]) hX dX10_plans_11 (Nat.le_of_ble_eq_true rfl) rfl ?_
      refine J_sub (lv' := [(0, .ref (AD Y 186)), (1, .int v1), (5, .int (0 : Int32))]) [1, 2, 0] rfl ?_
      exact K13  FU (0 : Int32) G4
set_option maxHeartbeats 4000000 in
set_option maxRecDepth 100000 in
theorem ok_X10_planOf {Y : DX} {v1 : Int32} {v2 : Int32}  {G : GM} {G' : GM} (hf : f_X10_planOf v1 v2 G = some G') : OkV Y 28 M_X10_planOf [.ref (AD Y 186), .int v1, .int v2] G G' := by
  refine okV_of (lv0 := [(0, .ref (AD Y 186)), (1, .int v1), (2, .int v2)]) (by decide +kernel) rfl (Nat.le_of_ble_eq_true rfl) ?_
  intro X Q hX hR
  have hX : CXok X Y RX10 cX10_planOf 4 _ := hX
  revert hf
  show J X Y 4 Q 0 [(0, .ref (AD Y 186)), (1, .int v1), (2, .int v2)] [] G (f_X10_planOf v1 v2 G = some G')
  have K12 : ∀  (n : Nat) (v3 : Int32) (G : GM), J X Y 4 Q 12 [(0, .ref (AD Y 186)), (1, .int v1), (3, .int v3)] [] G (wl1 n (lp_X10_planOf_12 v1 v2) v3 G = some G') := by
    refine wl1_ind (R := fun v3 G φ => J X Y 4 Q 12 [(0, .ref (AD Y 186)), (1, .int v1), (3, .int v3)] [] G φ) (fun _ G φ h => J_no h) ?_
    intro kc12 hk12 v3 G
    unfold lp_X10_planOf_12
    refine J_iload_n 2 hX dX10_planOf_12 fz3 rfl ?_
    refine J_iconst hX dX10_planOf_13 ci_5 ?_
    refine J_icmp_ge (tgt := 39) hX dX10_planOf_14 rfl ?_ ?_
    · refine J_aload_n 0 hX dX10_planOf_39 fz0 rfl ?_
      refine J_iload_n 1 hX dX10_planOf_40 fz1 rfl ?_
      refine J_iconst hX dX10_planOf_41 ci_0 ?_
      refine J_iconst hX dX10_planOf_42 ci_0 ?_
      refine J_iconst hX dX10_planOf_43 ci_0 ?_
      refine J_callVV (As := [.int v1, .int (0 : Int32), .int (0 : Int32), .int (0 : Int32)]) (st := []) (b := 186) hX mv_X10_266 sk_186 rfl rfl rfl (Nat.le_of_ble_eq_true rfl) (Nat.le_of_ble_eq_true rfl) (Nat.le_of_ble_eq_true rfl) dX10_planOf_44 (fun G1 h => ok_X10_plans 25  h) fun G44 => ?_
      exact J_retV hR dX10_planOf_47
    · refine J_aload_n 0 hX dX10_planOf_17 fz0 rfl ?_
      refine J_getR (b := 201) hX dX10_planOf_18 lf_X10_59 sk_186 rfl (by decide) rfl ?_
      refine J_iload_n 2 hX dX10_planOf_21 fz3 rfl ?_
      refine J_aload_n 0 hX dX10_planOf_22 fz0 rfl ?_
      refine J_getR (b := 194) hX dX10_planOf_23 lf_X10_37 sk_186 rfl (by decide) rfl ?_
      refine J_iconst hX dX10_planOf_26 ci_5 ?_
      refine J_iload_n 1 hX dX10_planOf_27 fz1 rfl ?_
      refine J_imul hX dX10_planOf_28 ?_
      refine J_iload_n 2 hX dX10_planOf_29 fz3 rfl ?_
      refine J_iadd hX dX10_planOf_30 ?_
      refine J_iald hX dX10_planOf_31 sk_194 ln_194 ?_
      refine J_iast hX dX10_planOf_32 sk_201 ln_201 fun G32 => ?_
      refine J_iinc (lv' := [(3, .int (v3 + (1 : Int32))), (0, .ref (AD Y 186)), (1, .int v1)]) 2 hX dX10_planOf_33 rfl ci_1 (Nat.le_of_ble_eq_true rfl) rfl ?_
      refine J_goto (tgt := 12) hX dX10_planOf_36 rfl ?_
      refine J_sub (lv' := [(0, .ref (AD Y 186)), (1, .int v1), (3, .int (v3 + (1 : Int32)))]) [1, 2, 0] rfl ?_
      exact hk12 (v3 + (1 : Int32)) G32
  unfold f_X10_planOf
  refine J_aload_n 0 hX dX10_planOf_0 fz0 rfl ?_
  refine J_iconst hX dX10_planOf_1 ci_0 ?_
  refine J_putI hX dX10_planOf_2 lf_X10_210 lpt_9_26 sk_186 rfl fun G2 => ?_
  refine J_aload_n 0 hX dX10_planOf_5 fz0 rfl ?_
  refine J_iload_n 2 hX dX10_planOf_6 fz2 rfl ?_
  refine J_putI hX dX10_planOf_7 lf_X10_263 lpt_9_27 sk_186 rfl fun G7 => ?_
  refine J_iconst hX dX10_planOf_10 ci_0 ?_
  refine J_istore_n (lv' := [(3, .int (0 : Int32)), (0, .ref (AD Y 186)), (1, .int v1), (2, .int v2)]) hX dX10_planOf_11 fz3 (Nat.le_of_ble_eq_true rfl) rfl ?_
  refine J_sub (lv' := [(0, .ref (AD Y 186)), (1, .int v1), (3, .int (0 : Int32))]) [1, 2, 0] rfl ?_
  exact K12  FU (0 : Int32) G7
set_option maxHeartbeats 4000000 in
set_option maxRecDepth 100000 in
theorem ok_X10_isAsSaid {Y : DX}   {G : GM} {r : Int32} {G' : GM} (hf : f_X10_isAsSaid  G = some (r, G')) : OkI Y 29 M_X10_isAsSaid [.ref (AD Y 186)] G r G' := by
  refine okZ_of (lv0 := [(0, .ref (AD Y 186))]) (by decide +kernel) rfl (Nat.le_of_ble_eq_true rfl) ?_
  intro X Q hX hR
  have hX : CXok X Y RX10 cX10_isAsSaid 3 _ := hX
  revert hf
  show J X Y 3 Q 0 [(0, .ref (AD Y 186))] [] G (f_X10_isAsSaid  G = some (r, G'))
  have K4 : ∀  (n : Nat) (v1 : Int32) (v2 : Int32) (G : GM), J X Y 3 Q 4 [(0, .ref (AD Y 186)), (1, .int v1), (2, .int v2)] [] G (wl2 n (lp_X10_isAsSaid_4 ) v1 v2 G = some (r, G')) := by
    refine wl2_ind (R := fun v1 v2 G φ => J X Y 3 Q 4 [(0, .ref (AD Y 186)), (1, .int v1), (2, .int v2)] [] G φ) (fun _ _ G φ h => J_no h) ?_
    intro kc4 hk4 v1 v2 G
    unfold lp_X10_isAsSaid_4
    refine J_iload_n 2 hX dX10_isAsSaid_4 fz2 rfl ?_
    refine J_aload_n 0 hX dX10_isAsSaid_5 fz0 rfl ?_
    refine J_iconst hX dX10_isAsSaid_6 ci_4 ?_
    refine J_iconst hX dX10_isAsSaid_7 ci_3 ?_
    refine J_callVI (As := [.int (4 : Int32), .int (3 : Int32)]) (st := [.int v2]) (b := 186) hX mv_X10_177 sk_186 rfl rfl rfl (Nat.le_of_ble_eq_true rfl) (Nat.le_of_ble_eq_true rfl) (Nat.le_of_ble_eq_true rfl) dX10_isAsSaid_8 (fun r G1 h => ok_X10_of  h) fun r8 G8 => ?_
    refine J_icmp_ge (tgt := 32) hX dX10_isAsSaid_11 rfl ?_ ?_
    · refine J_aload_n 0 hX dX10_isAsSaid_32 fz0 rfl ?_
      refine J_iconst hX dX10_isAsSaid_33 ci_4 ?_
      refine J_iconst hX dX10_isAsSaid_34 ci_3 ?_
      refine J_callVI (As := [.int (4 : Int32), .int (3 : Int32)]) (st := []) (b := 186) hX mv_X10_177 sk_186 rfl rfl rfl (Nat.le_of_ble_eq_true rfl) (Nat.le_of_ble_eq_true rfl) (Nat.le_of_ble_eq_true rfl) dX10_isAsSaid_35 (fun r G1 h => ok_X10_of  h) fun r35 G35 => ?_
      refine J_iconst hX dX10_isAsSaid_38 ci_2 ?_
      refine J_icmp_lt (tgt := 66) hX dX10_isAsSaid_39 rfl ?_ ?_
      · refine J_iconst hX dX10_isAsSaid_66 ci_0 ?_
        exact J_retZ hR (by decide) dX10_isAsSaid_67
      · refine J_aload_n 0 hX dX10_isAsSaid_42 fz0 rfl ?_
        refine J_iconst hX dX10_isAsSaid_43 ci_4 ?_
        refine J_iconst hX dX10_isAsSaid_44 ci_3 ?_
        refine J_callVI (As := [.int (4 : Int32), .int (3 : Int32)]) (st := []) (b := 186) hX mv_X10_177 sk_186 rfl rfl rfl (Nat.le_of_ble_eq_true rfl) (Nat.le_of_ble_eq_true rfl) (Nat.le_of_ble_eq_true rfl) dX10_isAsSaid_45 (fun r G1 h => ok_X10_of  h) fun r45 G45 => ?_
        refine J_aload_n 0 hX dX10_isAsSaid_48 fz0 rfl ?_
        refine J_iconst hX dX10_isAsSaid_49 ci_4 ?_
        refine J_iconst hX dX10_isAsSaid_50 ci_2 ?_
        refine J_callVI (As := [.int (4 : Int32), .int (2 : Int32)]) (st := [.int r45]) (b := 186) hX mv_X10_177 sk_186 rfl rfl rfl (Nat.le_of_ble_eq_true rfl) (Nat.le_of_ble_eq_true rfl) (Nat.le_of_ble_eq_true rfl) dX10_isAsSaid_51 (fun r G1 h => ok_X10_of  h) fun r51 G51 => ?_
        refine J_icmp_lt (tgt := 66) hX dX10_isAsSaid_54 rfl ?_ ?_
        · refine J_iconst hX dX10_isAsSaid_66 ci_0 ?_
          exact J_retZ hR (by decide) dX10_isAsSaid_67
        · refine J_iload_n 1 hX dX10_isAsSaid_57 fz1 rfl ?_
          refine J_aload_n 0 hX dX10_isAsSaid_58 fz0 rfl ?_
          refine J_iconst hX dX10_isAsSaid_59 ci_4 ?_
          refine J_callVI (As := [.int (4 : Int32)]) (st := [.int v1]) (b := 186) hX mv_X10_202 sk_186 rfl rfl rfl (Nat.le_of_ble_eq_true rfl) (Nat.le_of_ble_eq_true rfl) (Nat.le_of_ble_eq_true rfl) dX10_isAsSaid_60 (fun r G1 h => ok_X10_numbersOf  h) fun r60 G60 => ?_
          refine J_icmp_eq (tgt := 68) hX dX10_isAsSaid_63 rfl ?_ ?_
          · refine J_aload_n 0 hX dX10_isAsSaid_68 fz0 rfl ?_
            refine J_iconst hX dX10_isAsSaid_69 ci_4 ?_
            refine J_iconst hX dX10_isAsSaid_70 cim_1 ?_
            refine J_callVV (As := [.int (4 : Int32), .int (-1 : Int32)]) (st := []) (b := 186) hX mv_X10_206 sk_186 rfl rfl rfl (Nat.le_of_ble_eq_true rfl) (Nat.le_of_ble_eq_true rfl) (Nat.le_of_ble_eq_true rfl) dX10_isAsSaid_71 (fun G1 h => ok_X10_planOf  h) fun G71 => ?_
            refine J_aload_n 0 hX dX10_isAsSaid_74 fz0 rfl ?_
            refine J_getI hX dX10_isAsSaid_75 lf_X10_210 sk_186 rfl ?_
            refine J_if_le (tgt := 85) hX dX10_isAsSaid_78 rfl ?_ ?_
            · refine J_iconst hX dX10_isAsSaid_85 ci_0 ?_
              exact J_retZ hR (by decide) dX10_isAsSaid_86
            · refine J_iconst hX dX10_isAsSaid_81 ci_1 ?_
              refine J_goto (tgt := 86) hX dX10_isAsSaid_82 rfl ?_
              exact J_retZ hR (by decide) dX10_isAsSaid_86
          · refine J_iconst hX dX10_isAsSaid_66 ci_0 ?_
            exact J_retZ hR (by decide) dX10_isAsSaid_67
    · refine J_iload_n 1 hX dX10_isAsSaid_14 fz1 rfl ?_
      refine J_aload_n 0 hX dX10_isAsSaid_15 fz0 rfl ?_
      refine J_getR (b := 194) hX dX10_isAsSaid_16 lf_X10_37 sk_186 rfl (by decide) rfl ?_
      refine J_bipush hX dX10_isAsSaid_19 cb_20 ?_
      refine J_iload_n 2 hX dX10_isAsSaid_21 fz2 rfl ?_
      refine J_iadd hX dX10_isAsSaid_22 ?_
      refine J_iald hX dX10_isAsSaid_23 sk_194 ln_194 ?_
      refine J_iadd hX dX10_isAsSaid_24 ?_
      refine J_lt (mk := Value.int) fun x25 => ?_
      refine J_istore_n (lv' := [(1, .int x25), (0, .ref (AD Y 186)), (2, .int v2)]) hX dX10_isAsSaid_25 fz1 (Nat.le_of_ble_eq_true rfl) rfl ?_
      refine J_iinc (lv' := [(2, .int (v2 + (1 : Int32))), (1, .int x25), (0, .ref (AD Y 186))]) 2 hX dX10_isAsSaid_26 rfl ci_1 (Nat.le_of_ble_eq_true rfl) rfl ?_
      refine J_goto (tgt := 4) hX dX10_isAsSaid_29 rfl ?_
      refine J_sub (lv' := [(0, .ref (AD Y 186)), (1, .int x25), (2, .int (v2 + (1 : Int32)))]) [2, 1, 0] rfl ?_
      exact hk4 x25 (v2 + (1 : Int32)) G8
  unfold f_X10_isAsSaid
  refine J_iconst hX dX10_isAsSaid_0 ci_0 ?_
  refine J_istore_n (lv' := [(1, .int (0 : Int32)), (0, .ref (AD Y 186))]) hX dX10_isAsSaid_1 fz1 (Nat.le_of_ble_eq_true rfl) rfl ?_
  refine J_iconst hX dX10_isAsSaid_2 ci_0 ?_
  refine J_istore_n (lv' := [(2, .int (0 : Int32)), (1, .int (0 : Int32)), (0, .ref (AD Y 186))]) hX dX10_isAsSaid_3 fz2 (Nat.le_of_ble_eq_true rfl) rfl ?_
  refine J_sub (lv' := [(0, .ref (AD Y 186)), (1, .int (0 : Int32)), (2, .int (0 : Int32))]) [2, 1, 0] rfl ?_
  exact K4  FU (0 : Int32) (0 : Int32) G
set_option maxHeartbeats 4000000 in
set_option maxRecDepth 100000 in
theorem ok_X10_first {Y : DX}   {G : GM} {G' : GM} (hf : f_X10_first  G = some G') : OkV Y 30 M_X10_first [.ref (AD Y 186)] G G' := by
  refine okV_of (lv0 := [(0, .ref (AD Y 186))]) (by decide +kernel) rfl (Nat.le_of_ble_eq_true rfl) ?_
  intro X Q hX hR
  have hX : CXok X Y RX10 cX10_first 3 _ := hX
  revert hf
  show J X Y 3 Q 0 [(0, .ref (AD Y 186))] [] G (f_X10_first  G = some G')
  have K164 : ∀ (G : GM), J X Y 3 Q 164 [(0, .ref (AD Y 186))] [] G (k_X10_first_164  G = some G') := by
    intro G
    unfold k_X10_first_164
    refine J_aload_n 0 hX dX10_first_164 fz0 rfl ?_
    refine J_callVI (As := []) (st := []) (b := 186) hX mv_X10_193 sk_186 rfl rfl rfl (Nat.le_of_ble_eq_true rfl) (Nat.le_of_ble_eq_true rfl) (Nat.le_of_ble_eq_true rfl) dX10_first_165 (fun r G1 h => ok_X10_isGood  h) fun r165 G165 => ?_
    refine J_if_eq (tgt := 191) hX dX10_first_168 rfl ?_ ?_
    · exact J_retV hR dX10_first_191
    · refine J_aload_n 0 hX dX10_first_171 fz0 rfl ?_
      refine J_getI hX dX10_first_172 lf_X10_136 sk_186 rfl ?_
      refine J_iconst hX dX10_first_175 ci_3 ?_
      refine J_icmp_ne (tgt := 191) hX dX10_first_176 rfl ?_ ?_
      · exact J_retV hR dX10_first_191
      · refine J_aload_n 0 hX dX10_first_179 fz0 rfl ?_
        refine J_callVI (As := []) (st := []) (b := 186) hX mv_X10_199 sk_186 rfl rfl rfl (Nat.le_of_ble_eq_true rfl) (Nat.le_of_ble_eq_true rfl) (Nat.le_of_ble_eq_true rfl) dX10_first_180 (fun r G1 h => ok_X10_isAsSaid  h) fun r180 G180 => ?_
        refine J_if_ne (tgt := 191) hX dX10_first_183 rfl ?_ ?_
        · exact J_retV hR dX10_first_191
        · refine J_aload_n 0 hX dX10_first_186 fz0 rfl ?_
          refine J_iconst hX dX10_first_187 ci_2 ?_
          refine J_callVV (As := [.int (2 : Int32)]) (st := []) (b := 186) hX mv_X10_163 sk_186 rfl rfl rfl (Nat.le_of_ble_eq_true rfl) (Nat.le_of_ble_eq_true rfl) (Nat.le_of_ble_eq_true rfl) dX10_first_188 (fun G1 h => ok_X10_fails  h) fun G188 => ?_
          exact J_retV hR dX10_first_191
  have K64 : ∀  (n : Nat) (v1 : Int32) (G : GM), J X Y 3 Q 64 [(0, .ref (AD Y 186)), (1, .int v1)] [] G (wl1 n (lp_X10_first_64 ) v1 G = some G') := by
    refine wl1_ind (R := fun v1 G φ => J X Y 3 Q 64 [(0, .ref (AD Y 186)), (1, .int v1)] [] G φ) (fun _ G φ h => J_no h) ?_
    intro kc64 hk64 v1 G
    unfold lp_X10_first_64
    have K160 : ∀ (s0 : Int32) (G : GM), J X Y 3 Q 160 [(0, .ref (AD Y 186))] [.int s0] G (k_X10_first_160 s0 kc64 G = some G') := by
      intro s0 G
      unfold k_X10_first_160
      refine J_istore_n (lv' := [(1, .int s0), (0, .ref (AD Y 186))]) hX dX10_first_160 fz1 (Nat.le_of_ble_eq_true rfl) rfl ?_
      refine J_goto (tgt := 64) hX dX10_first_161 rfl ?_
      refine J_sub (lv' := [(0, .ref (AD Y 186)), (1, .int s0)]) [1, 0] rfl ?_
      exact hk64 s0 G
    have K105 : ∀ (G : GM), J X Y 3 Q 105 [(0, .ref (AD Y 186))] [] G (k_X10_first_105 kc64 G = some G') := by
      intro G
      unfold k_X10_first_105
      refine J_aload_n 0 hX dX10_first_105 fz0 rfl ?_
      refine J_iconst hX dX10_first_106 ci_1 ?_
      refine J_bipush hX dX10_first_107 cb_15 ?_
      refine J_callVI (As := [.int (1 : Int32), .int (15 : Int32)]) (st := []) (b := 186) hX mv_X10_170 sk_186 rfl rfl rfl (Nat.le_of_ble_eq_true rfl) (Nat.le_of_ble_eq_true rfl) (Nat.le_of_ble_eq_true rfl) dX10_first_109 (fun r G1 h => ok_X10_number  h) fun r109 G109 => ?_
      refine J_istore_n (lv' := [(2, .int r109), (0, .ref (AD Y 186))]) hX dX10_first_112 fz2 (Nat.le_of_ble_eq_true rfl) rfl ?_
      refine J_aload_n 1 hX dX10_first_113 fz0 rfl ?_
      refine J_getI hX dX10_first_114 lf_X10_147 sk_186 rfl ?_
      refine J_if_eq (tgt := 121) hX dX10_first_117 rfl ?_ ?_
      · refine J_aload_n 1 hX dX10_first_121 fz0 rfl ?_
        refine J_getR (b := 194) hX dX10_first_122 lf_X10_37 sk_186 rfl (by decide) rfl ?_
        refine J_bipush hX dX10_first_125 cb_20 ?_
        refine J_aload_n 1 hX dX10_first_127 fz0 rfl ?_
        refine J_iconst hX dX10_first_128 ci_4 ?_
        refine J_iconst hX dX10_first_129 ci_3 ?_
        refine J_callVI (As := [.int (4 : Int32), .int (3 : Int32)]) (st := [.int (20 : Int32), .ref (AD Y 194)]) (b := 186) hX mv_X10_177 sk_186 rfl rfl rfl (Nat.le_of_ble_eq_true rfl) (Nat.le_of_ble_eq_true rfl) (Nat.le_of_ble_eq_true rfl) dX10_first_130 (fun r G1 h => ok_X10_of  h) fun r130 G130 => ?_
        refine J_iadd hX dX10_first_133 ?_
        refine J_iload_n 0 hX dX10_first_134 fz2 rfl ?_
        refine J_iast hX dX10_first_135 sk_194 ln_194 fun G135 => ?_
        refine J_aload_n 1 hX dX10_first_136 fz0 rfl ?_
        refine J_getR (b := 193) hX dX10_first_137 lf_X10_34 sk_186 rfl (by decide) rfl ?_
        refine J_bipush hX dX10_first_140 cb_35 ?_
        refine J_dup2 hX dX10_first_142 rfl rfl ?_
        refine J_iald hX dX10_first_143 sk_193 ln_193 ?_
        refine J_iconst hX dX10_first_144 ci_1 ?_
        refine J_iadd hX dX10_first_145 ?_
        refine J_iast hX dX10_first_146 sk_193 ln_193 fun G146 => ?_
        refine J_aload_n 1 hX dX10_first_147 fz0 rfl ?_
        refine J_getI hX dX10_first_148 lf_X10_136 sk_186 rfl ?_
        refine J_iconst hX dX10_first_151 ci_2 ?_
        refine J_icmp_ne (tgt := 159) hX dX10_first_152 rfl ?_ ?_
        · refine J_iconst hX dX10_first_159 ci_0 ?_
          refine J_sub (lv' := [(0, .ref (AD Y 186))]) [1] rfl ?_
          exact K160 (0 : Int32) G146
        · refine J_iconst hX dX10_first_155 ci_1 ?_
          refine J_goto (tgt := 160) hX dX10_first_156 rfl ?_
          refine J_sub (lv' := [(0, .ref (AD Y 186))]) [1] rfl ?_
          exact K160 (1 : Int32) G146
      · exact J_retV hR dX10_first_120
    refine J_aload_n 0 hX dX10_first_64 fz0 rfl ?_
    refine J_callVI (As := []) (st := []) (b := 186) hX mv_X10_193 sk_186 rfl rfl rfl (Nat.le_of_ble_eq_true rfl) (Nat.le_of_ble_eq_true rfl) (Nat.le_of_ble_eq_true rfl) dX10_first_65 (fun r G1 h => ok_X10_isGood  h) fun r65 G65 => ?_
    refine J_if_eq (tgt := 164) hX dX10_first_68 rfl ?_ ?_
    · refine J_sub (lv' := [(0, .ref (AD Y 186))]) [0] rfl ?_
      exact K164 G65
    · refine J_iload_n 1 hX dX10_first_71 fz1 rfl ?_
      refine J_if_eq (tgt := 164) hX dX10_first_72 rfl ?_ ?_
      · refine J_sub (lv' := [(0, .ref (AD Y 186))]) [0] rfl ?_
        exact K164 G65
      · refine J_aload_n 0 hX dX10_first_75 fz0 rfl ?_
        refine J_iconst hX dX10_first_76 ci_4 ?_
        refine J_iconst hX dX10_first_77 ci_3 ?_
        refine J_callVI (As := [.int (4 : Int32), .int (3 : Int32)]) (st := []) (b := 186) hX mv_X10_177 sk_186 rfl rfl rfl (Nat.le_of_ble_eq_true rfl) (Nat.le_of_ble_eq_true rfl) (Nat.le_of_ble_eq_true rfl) dX10_first_78 (fun r G1 h => ok_X10_of  h) fun r78 G78 => ?_
        refine J_iconst hX dX10_first_81 ci_5 ?_
        refine J_icmp_ne (tgt := 105) hX dX10_first_82 rfl ?_ ?_
        · refine J_sub (lv' := [(0, .ref (AD Y 186))]) [0] rfl ?_
          exact K105 G78
        · refine J_aload_n 0 hX dX10_first_85 fz0 rfl ?_
          refine J_getI hX dX10_first_86 lf_X10_129 sk_186 rfl ?_
          refine J_i2l hX dX10_first_89 ?_
          refine J_lconst hX dX10_first_90 fy1 ?_
          refine J_ldc2 hX dX10_first_91 ll_X10_197 ?_
          refine J_callSI (As := [.long ((gI G78 186 10).toInt64), .long (1 : Int64), .long (15 : Int64)]) (st := []) hX ms_X10_100 rfl rfl (Nat.le_of_ble_eq_true rfl) (Nat.le_of_ble_eq_true rfl) (Nat.le_of_ble_eq_true rfl) dX10_first_94 (fun r G1 h => ok_X10_in  h) fun r94 G94 => ?_
          refine J_if_eq (tgt := 105) hX dX10_first_97 rfl ?_ ?_
          · refine J_sub (lv' := [(0, .ref (AD Y 186))]) [0] rfl ?_
            exact K105 G94
          · refine J_aload_n 0 hX dX10_first_100 fz0 rfl ?_
            refine J_iconst hX dX10_first_101 ci_3 ?_
            refine J_callVV (As := [.int (3 : Int32)]) (st := []) (b := 186) hX mv_X10_163 sk_186 rfl rfl rfl (Nat.le_of_ble_eq_true rfl) (Nat.le_of_ble_eq_true rfl) (Nat.le_of_ble_eq_true rfl) dX10_first_102 (fun G1 h => ok_X10_fails  h) fun G102 => ?_
            refine J_sub (lv' := [(0, .ref (AD Y 186))]) [0] rfl ?_
            exact K105 G102
  unfold f_X10_first
  refine J_aload_n 0 hX dX10_first_0 fz0 rfl ?_
  refine J_ldc2 hX dX10_first_1 ll_X10_180 ?_
  refine J_callVV (As := [.long (158529 : Int64)]) (st := []) (b := 186) hX mv_X10_166 sk_186 rfl rfl rfl (Nat.le_of_ble_eq_true rfl) (Nat.le_of_ble_eq_true rfl) (Nat.le_of_ble_eq_true rfl) dX10_first_4 (fun G1 h => ok_X10_asks  h) fun G4 => ?_
  refine J_aload_n 0 hX dX10_first_7 fz0 rfl ?_
  refine J_getR (b := 193) hX dX10_first_8 lf_X10_34 sk_186 rfl (by decide) rfl ?_
  refine J_bipush hX dX10_first_11 cb_32 ?_
  refine J_aload_n 0 hX dX10_first_13 fz0 rfl ?_
  refine J_ldc2 hX dX10_first_14 ll_X10_182 ?_
  refine J_iconst hX dX10_first_17 ci_1 ?_
  refine J_iconst hX dX10_first_18 ci_3 ?_
  refine J_callVI (As := [.long (1627255 : Int64), .int (1 : Int32), .int (3 : Int32)]) (st := [.int (32 : Int32), .ref (AD Y 193)]) (b := 186) hX mv_X10_184 sk_186 rfl rfl rfl (Nat.le_of_ble_eq_true rfl) (Nat.le_of_ble_eq_true rfl) (Nat.le_of_ble_eq_true rfl) dX10_first_19 (fun r G1 h => ok_X10_number_  h) fun r19 G19 => ?_
  refine J_iast hX dX10_first_22 sk_193 ln_193 fun G22 => ?_
  refine J_aload_n 0 hX dX10_first_23 fz0 rfl ?_
  refine J_getR (b := 193) hX dX10_first_24 lf_X10_34 sk_186 rfl (by decide) rfl ?_
  refine J_bipush hX dX10_first_27 cb_33 ?_
  refine J_aload_n 0 hX dX10_first_29 fz0 rfl ?_
  refine J_ldc2 hX dX10_first_30 ll_X10_187 ?_
  refine J_iconst hX dX10_first_33 ci_1 ?_
  refine J_iconst hX dX10_first_34 ci_3 ?_
  refine J_callVI (As := [.long (365869 : Int64), .int (1 : Int32), .int (3 : Int32)]) (st := [.int (33 : Int32), .ref (AD Y 193)]) (b := 186) hX mv_X10_184 sk_186 rfl rfl rfl (Nat.le_of_ble_eq_true rfl) (Nat.le_of_ble_eq_true rfl) (Nat.le_of_ble_eq_true rfl) dX10_first_35 (fun r G1 h => ok_X10_number_  h) fun r35 G35 => ?_
  refine J_iast hX dX10_first_38 sk_193 ln_193 fun G38 => ?_
  refine J_aload_n 0 hX dX10_first_39 fz0 rfl ?_
  refine J_getR (b := 193) hX dX10_first_40 lf_X10_34 sk_186 rfl (by decide) rfl ?_
  refine J_bipush hX dX10_first_43 cb_34 ?_
  refine J_aload_n 0 hX dX10_first_45 fz0 rfl ?_
  refine J_ldc2 hX dX10_first_46 ll_X10_189 ?_
  refine J_iconst hX dX10_first_49 ci_1 ?_
  refine J_iconst hX dX10_first_50 ci_5 ?_
  refine J_callVI (As := [.long (99233 : Int64), .int (1 : Int32), .int (5 : Int32)]) (st := [.int (34 : Int32), .ref (AD Y 193)]) (b := 186) hX mv_X10_184 sk_186 rfl rfl rfl (Nat.le_of_ble_eq_true rfl) (Nat.le_of_ble_eq_true rfl) (Nat.le_of_ble_eq_true rfl) dX10_first_51 (fun r G1 h => ok_X10_number_  h) fun r51 G51 => ?_
  refine J_iast hX dX10_first_54 sk_193 ln_193 fun G54 => ?_
  refine J_aload_n 0 hX dX10_first_55 fz0 rfl ?_
  refine J_ldc2 hX dX10_first_56 ll_X10_191 ?_
  refine J_callVV (As := [.long (1384295581 : Int64)]) (st := []) (b := 186) hX mv_X10_166 sk_186 rfl rfl rfl (Nat.le_of_ble_eq_true rfl) (Nat.le_of_ble_eq_true rfl) (Nat.le_of_ble_eq_true rfl) dX10_first_59 (fun G1 h => ok_X10_asks  h) fun G59 => ?_
  refine J_iconst hX dX10_first_62 ci_1 ?_
  refine J_istore_n (lv' := [(1, .int (1 : Int32)), (0, .ref (AD Y 186))]) hX dX10_first_63 fz1 (Nat.le_of_ble_eq_true rfl) rfl ?_
  refine J_sub (lv' := [(0, .ref (AD Y 186)), (1, .int (1 : Int32))]) [1, 0] rfl ?_
  exact K64  FU (1 : Int32) G59
set_option maxHeartbeats 4000000 in
set_option maxRecDepth 100000 in
theorem ok_X10_drawn {Y : DX} {v1 : Int32}  {G : GM} {r : Int32} {G' : GM} (hf : f_X10_drawn v1 G = some (r, G')) : OkI Y 1 M_X10_drawn [.ref (AD Y 186), .int v1] G r G' := by
  refine okI_of (lv0 := [(0, .ref (AD Y 186)), (1, .int v1)]) (by decide +kernel) rfl (Nat.le_of_ble_eq_true rfl) ?_
  intro X Q hX hR
  have hX : CXok X Y RX10 cX10_drawn 4 _ := hX
  revert hf
  show J X Y 4 Q 0 [(0, .ref (AD Y 186)), (1, .int v1)] [] G (f_X10_drawn v1 G = some (r, G'))
  unfold f_X10_drawn
  refine J_aload_n 0 hX dX10_drawn_0 fz0 rfl ?_
  refine J_ldc2 hX dX10_drawn_1 ll_X10_282 ?_
  refine J_aload_n 0 hX dX10_drawn_4 fz0 rfl ?_
  refine J_getJ hX dX10_drawn_5 lf_X10_284 sk_186 rfl ?_
  refine J_lmul hX dX10_drawn_8 ?_
  refine J_ldc2 hX dX10_drawn_9 ll_X10_287 ?_
  refine J_ladd hX dX10_drawn_12 ?_
  refine J_ldc2 hX dX10_drawn_13 ll_X10_289 ?_
  refine J_lremc hX dX10_drawn_16 (by decide) ?_
  refine J_putJ hX dX10_drawn_17 lf_X10_284 lpt_9_33 sk_186 rfl fun G17 => ?_
  refine J_aload_n 0 hX dX10_drawn_20 fz0 rfl ?_
  refine J_getJ hX dX10_drawn_21 lf_X10_284 sk_186 rfl ?_
  refine J_ldc2 hX dX10_drawn_24 ll_X10_291 ?_
  refine J_ldivc hX dX10_drawn_27 (by decide) ?_
  refine J_lt (mk := Value.long) fun x28 => ?_
  refine J_lstore_n (lv' := [(2, .long x28), (0, .ref (AD Y 186)), (1, .int v1)]) hX dX10_drawn_28 fz2 (Nat.le_of_ble_eq_true rfl) rfl ?_
  refine J_aload_n 1 hX dX10_drawn_29 fz0 rfl ?_
  refine J_ldc2 hX dX10_drawn_30 ll_X10_282 ?_
  refine J_aload_n 1 hX dX10_drawn_33 fz0 rfl ?_
  refine J_getJ hX dX10_drawn_34 lf_X10_284 sk_186 rfl ?_
  refine J_lmul hX dX10_drawn_37 ?_
  refine J_ldc2 hX dX10_drawn_38 ll_X10_287 ?_
  refine J_ladd hX dX10_drawn_41 ?_
  refine J_ldc2 hX dX10_drawn_42 ll_X10_289 ?_
  refine J_lremc hX dX10_drawn_45 (by decide) ?_
  refine J_putJ hX dX10_drawn_46 lf_X10_284 lpt_9_33 sk_186 rfl fun G46 => ?_
  refine J_ldc2 hX dX10_drawn_49 ll_X10_293 ?_
  refine J_lload_n 0 hX dX10_drawn_52 fz2 rfl ?_
  refine J_lmul hX dX10_drawn_53 ?_
  refine J_aload_n 1 hX dX10_drawn_54 fz0 rfl ?_
  refine J_getJ hX dX10_drawn_55 lf_X10_284 sk_186 rfl ?_
  refine J_ldc2 hX dX10_drawn_58 ll_X10_291 ?_
  refine J_ldivc hX dX10_drawn_61 (by decide) ?_
  refine J_ladd hX dX10_drawn_62 ?_
  refine J_iload_n 2 hX dX10_drawn_63 fz1 rfl ?_
  refine J_i2l hX dX10_drawn_64 ?_
  refine J_lrem hX dX10_drawn_65 ?_
  refine J_l2i hX dX10_drawn_66 ?_
  exact J_retI hR dX10_drawn_67
set_option maxHeartbeats 4000000 in
set_option maxRecDepth 100000 in
theorem ok_X10_firstOf {Y : DX} {v1 : Int32} {v2 : Int32}  {G : GM} {r : Int32} {G' : GM} (hf : f_X10_firstOf v1 v2 G = some (r, G')) : OkI Y 1 M_X10_firstOf [.ref (AD Y 186), .int v1, .int v2] G r G' := by
  refine okI_of (lv0 := [(0, .ref (AD Y 186)), (1, .int v1), (2, .int v2)]) (by decide +kernel) rfl (Nat.le_of_ble_eq_true rfl) ?_
  intro X Q hX hR
  have hX : CXok X Y RX10 cX10_firstOf 5 _ := hX
  revert hf
  show J X Y 5 Q 0 [(0, .ref (AD Y 186)), (1, .int v1), (2, .int v2)] [] G (f_X10_firstOf v1 v2 G = some (r, G'))
  have K5 : ∀  (n : Nat) (v3 : Int32) (v4 : Int32) (G : GM), J X Y 5 Q 5 [(0, .ref (AD Y 186)), (1, .int v1), (2, .int v2), (3, .int v3), (4, .int v4)] [] G (wl2 n (lp_X10_firstOf_5 v1 v2) v3 v4 G = some (r, G')) := by
    refine wl2_ind (R := fun v3 v4 G φ => J X Y 5 Q 5 [(0, .ref (AD Y 186)), (1, .int v1), (2, .int v2), (3, .int v3), (4, .int v4)] [] G φ) (fun _ _ G φ h => J_no h) ?_
    intro kc5 hk5 v3 v4 G
    unfold lp_X10_firstOf_5
    refine J_iload 4 hX dX10_firstOf_5 rfl ?_
    refine J_iload_n 2 hX dX10_firstOf_7 fz2 rfl ?_
    refine J_icmp_ge (tgt := 31) hX dX10_firstOf_8 rfl ?_ ?_
    · refine J_iload_n 3 hX dX10_firstOf_31 fz3 rfl ?_
      exact J_retI hR dX10_firstOf_32
    · refine J_iload_n 3 hX dX10_firstOf_11 fz3 rfl ?_
      refine J_aload_n 0 hX dX10_firstOf_12 fz0 rfl ?_
      refine J_getR (b := 194) hX dX10_firstOf_13 lf_X10_37 sk_186 rfl (by decide) rfl ?_
      refine J_iconst hX dX10_firstOf_16 ci_5 ?_
      refine J_iload_n 1 hX dX10_firstOf_17 fz1 rfl ?_
      refine J_imul hX dX10_firstOf_18 ?_
      refine J_iload 4 hX dX10_firstOf_19 rfl ?_
      refine J_iadd hX dX10_firstOf_21 ?_
      refine J_iald hX dX10_firstOf_22 sk_194 ln_194 ?_
      refine J_iadd hX dX10_firstOf_23 ?_
      refine J_lt (mk := Value.int) fun x24 => ?_
      refine J_istore_n (lv' := [(3, .int x24), (0, .ref (AD Y 186)), (1, .int v1), (2, .int v2), (4, .int v4)]) hX dX10_firstOf_24 fz3 (Nat.le_of_ble_eq_true rfl) rfl ?_
      refine J_iinc (lv' := [(4, .int (v4 + (1 : Int32))), (3, .int x24), (0, .ref (AD Y 186)), (1, .int v1), (2, .int v2)]) 4 hX dX10_firstOf_25 rfl ci_1 (Nat.le_of_ble_eq_true rfl) rfl ?_
      refine J_goto (tgt := 5) hX dX10_firstOf_28 rfl ?_
      refine J_sub (lv' := [(0, .ref (AD Y 186)), (1, .int v1), (2, .int v2), (3, .int x24), (4, .int (v4 + (1 : Int32)))]) [2, 3, 4, 1, 0] rfl ?_
      exact hk5 x24 (v4 + (1 : Int32)) G
  unfold f_X10_firstOf
  refine J_iconst hX dX10_firstOf_0 ci_1 ?_
  refine J_istore_n (lv' := [(3, .int (1 : Int32)), (0, .ref (AD Y 186)), (1, .int v1), (2, .int v2)]) hX dX10_firstOf_1 fz3 (Nat.le_of_ble_eq_true rfl) rfl ?_
  refine J_iconst hX dX10_firstOf_2 ci_0 ?_
  refine J_istore (lv' := [(4, .int (0 : Int32)), (3, .int (1 : Int32)), (0, .ref (AD Y 186)), (1, .int v1), (2, .int v2)]) hX dX10_firstOf_3 (Nat.le_of_ble_eq_true rfl) rfl ?_
  refine J_sub (lv' := [(0, .ref (AD Y 186)), (1, .int v1), (2, .int v2), (3, .int (1 : Int32)), (4, .int (0 : Int32))]) [2, 3, 4, 1, 0] rfl ?_
  exact K5  FU (1 : Int32) (0 : Int32) G
set_option maxHeartbeats 4000000 in
set_option maxRecDepth 100000 in
theorem ok_X10_sizeOf {Y : DX} {v0 : Int32}  {G : GM} {r : Int32} {G' : GM} (hf : f_X10_sizeOf v0 G = some (r, G')) : OkI Y 1 M_X10_sizeOf [.int v0] G r G' := by
  refine okI_of (lv0 := [(0, .int v0)]) (by decide +kernel) rfl (Nat.le_of_ble_eq_true rfl) ?_
  intro X Q hX hR
  have hX : CXok X Y RX10 cX10_sizeOf 3 _ := hX
  revert hf
  show J X Y 3 Q 0 [(0, .int v0)] [] G (f_X10_sizeOf v0 G = some (r, G'))
  have K4 : ∀  (n : Nat) (v1 : Int32) (v2 : Int32) (G : GM), J X Y 3 Q 4 [(1, .int v1), (2, .int v2)] [] G (wl2 n (lp_X10_sizeOf_4 v0) v1 v2 G = some (r, G')) := by
    refine wl2_ind (R := fun v1 v2 G φ => J X Y 3 Q 4 [(1, .int v1), (2, .int v2)] [] G φ) (fun _ _ G φ h => J_no h) ?_
    intro kc4 hk4 v1 v2 G
    unfold lp_X10_sizeOf_4
    refine J_iload_n 1 hX dX10_sizeOf_4 fz2 rfl ?_
    refine J_if_eq (tgt := 20) hX dX10_sizeOf_5 rfl ?_ ?_
    · refine J_iload_n 0 hX dX10_sizeOf_20 fz1 rfl ?_
      exact J_retI hR dX10_sizeOf_21
    · refine J_iinc (lv' := [(1, .int (v1 + (1 : Int32))), (2, .int v2)]) 0 hX dX10_sizeOf_8 rfl ci_1 (Nat.le_of_ble_eq_true rfl) rfl ?_
      refine J_iload_n 1 hX dX10_sizeOf_11 fz2 rfl ?_
      refine J_iload_n 1 hX dX10_sizeOf_12 fz2 rfl ?_
      refine J_iconst hX dX10_sizeOf_13 ci_1 ?_
      refine J_isub hX dX10_sizeOf_14 ?_
      refine J_iand hX dX10_sizeOf_15 ?_
      refine J_lt (mk := Value.int) fun x16 => ?_
      refine J_istore_n (lv' := [(2, .int x16), (1, .int (v1 + (1 : Int32)))]) hX dX10_sizeOf_16 fz2 (Nat.le_of_ble_eq_true rfl) rfl ?_
      refine J_goto (tgt := 4) hX dX10_sizeOf_17 rfl ?_
      refine J_sub (lv' := [(1, .int (v1 + (1 : Int32))), (2, .int x16)]) [1, 0] rfl ?_
      exact hk4 (v1 + (1 : Int32)) x16 G
  unfold f_X10_sizeOf
  refine J_iconst hX dX10_sizeOf_0 ci_0 ?_
  refine J_istore_n (lv' := [(1, .int (0 : Int32)), (0, .int v0)]) hX dX10_sizeOf_1 fz1 (Nat.le_of_ble_eq_true rfl) rfl ?_
  refine J_iload_n 1 hX dX10_sizeOf_2 fz0 rfl ?_
  refine J_istore_n (lv' := [(2, .int v0), (1, .int (0 : Int32)), (0, .int v0)]) hX dX10_sizeOf_3 fz2 (Nat.le_of_ble_eq_true rfl) rfl ?_
  refine J_sub (lv' := [(1, .int (0 : Int32)), (2, .int v0)]) [1, 0] rfl ?_
  exact K4  FU (0 : Int32) v0 G
set_option maxHeartbeats 4000000 in
set_option maxRecDepth 100000 in
theorem ok_X10_layouts {Y : DX} : ∀ (n : Nat) {v1 : Int32} {v2 : Int32}  {G : GM} {G' : GM} (hf : f_X10_layouts n v1 v2 G = some G'), OkV Y (2 + n) M_X10_layouts [.ref (AD Y 186), .int v1, .int v2] G G' := by
  intro n
  induction n with
  | zero =>
    intros
    rename_i hf
    cases hf
  | succ n ih =>
    intro v1 v2  G G' hf
    have hf : fb_X10_layouts (f_X10_layouts n) v1 v2 G = some G' := hf
    generalize f_X10_layouts n = rec at ih hf
    refine okV_of (lv0 := [(0, .ref (AD Y 186)), (1, .int v1), (2, .int v2)]) (by decide +kernel) rfl (Nat.le_of_ble_eq_true rfl) ?_
    intro X Q hX hR
    have hX : CXok X Y RX10 cX10_layouts 5 _ := hX
    revert hf
    show J X Y 5 Q 0 [(0, .ref (AD Y 186)), (1, .int v1), (2, .int v2)] [] G (fb_X10_layouts rec v1 v2 G = some G')
    have K87 : ∀  (n : Nat) (v3 : Int32) (G : GM), J X Y 5 Q 87 [(0, .ref (AD Y 186)), (1, .int v1), (2, .int v2), (3, .int v3)] [] G (wl1 n (lp_X10_layouts_87 rec v1 v2) v3 G = some G') := by
      refine wl1_ind (R := fun v3 G φ => J X Y 5 Q 87 [(0, .ref (AD Y 186)), (1, .int v1), (2, .int v2), (3, .int v3)] [] G φ) (fun _ G φ h => J_no h) ?_
      intro kc87 hk87 v3 G
      unfold lp_X10_layouts_87
      have K169 : ∀ (v3 : Int32) (n : Nat) (v4 : Int32) (G : GM), J X Y 5 Q 169 [(0, .ref (AD Y 186)), (1, .int v1), (2, .int v2), (3, .int v3), (4, .int v4)] [] G (wl1 n (lp_X10_layouts_169 rec v1 v2 v3 kc87) v4 G = some G') := by
        intro v3
        refine wl1_ind (R := fun v4 G φ => J X Y 5 Q 169 [(0, .ref (AD Y 186)), (1, .int v1), (2, .int v2), (3, .int v3), (4, .int v4)] [] G φ) (fun _ G φ h => J_no h) ?_
        intro kc169 hk169 v4 G
        unfold lp_X10_layouts_169
        refine J_iload 4 hX dX10_layouts_169 rfl ?_
        refine J_aload_n 0 hX dX10_layouts_171 fz0 rfl ?_
        refine J_iload_n 1 hX dX10_layouts_172 fz1 rfl ?_
        refine J_iconst hX dX10_layouts_173 ci_3 ?_
        refine J_callVI (As := [.int v1, .int (3 : Int32)]) (st := [.int v4]) (b := 186) hX mv_X10_177 sk_186 rfl rfl rfl (Nat.le_of_ble_eq_true rfl) (by omega) (Nat.le_of_ble_eq_true rfl) dX10_layouts_174 (fun r G1 h => ok_X10_of  h) fun r174 G174 => ?_
        refine J_icmp_ge (tgt := 202) hX dX10_layouts_177 rfl ?_ ?_
        · refine J_iinc (lv' := [(3, .int (v3 + (1 : Int32))), (0, .ref (AD Y 186)), (1, .int v1), (2, .int v2), (4, .int v4)]) 3 hX dX10_layouts_202 rfl ci_1 (Nat.le_of_ble_eq_true rfl) rfl ?_
          refine J_goto (tgt := 87) hX dX10_layouts_205 rfl ?_
          refine J_sub (lv' := [(0, .ref (AD Y 186)), (1, .int v1), (2, .int v2), (3, .int (v3 + (1 : Int32)))]) [1, 2, 3, 0] rfl ?_
          exact hk87 (v3 + (1 : Int32)) G174
        · refine J_aload_n 0 hX dX10_layouts_180 fz0 rfl ?_
          refine J_getR (b := 202) hX dX10_layouts_181 lf_X10_62 sk_186 rfl (by decide) rfl ?_
          refine J_iload 4 hX dX10_layouts_184 rfl ?_
          refine J_dup2 hX dX10_layouts_186 rfl rfl ?_
          refine J_iald hX dX10_layouts_187 sk_202 ln_202 ?_
          refine J_iload_n 3 hX dX10_layouts_188 fz3 rfl ?_
          refine J_iload 4 hX dX10_layouts_189 rfl ?_
          refine J_ishr hX dX10_layouts_191 ?_
          refine J_iconst hX dX10_layouts_192 ci_1 ?_
          refine J_iand hX dX10_layouts_193 ?_
          refine J_iadd hX dX10_layouts_194 ?_
          refine J_iast hX dX10_layouts_195 sk_202 ln_202 fun G195 => ?_
          refine J_iinc (lv' := [(4, .int (v4 + (1 : Int32))), (0, .ref (AD Y 186)), (1, .int v1), (2, .int v2), (3, .int v3)]) 4 hX dX10_layouts_196 rfl ci_1 (Nat.le_of_ble_eq_true rfl) rfl ?_
          refine J_goto (tgt := 169) hX dX10_layouts_199 rfl ?_
          refine J_sub (lv' := [(0, .ref (AD Y 186)), (1, .int v1), (2, .int v2), (3, .int v3), (4, .int (v4 + (1 : Int32)))]) [1, 2, 3, 4, 0] rfl ?_
          exact hk169 (v4 + (1 : Int32)) G195
      have K125 : ∀ (v3 : Int32) (n : Nat) (v4 : Int32) (G : GM), J X Y 5 Q 125 [(0, .ref (AD Y 186)), (1, .int v1), (2, .int v2), (3, .int v3), (4, .int v4)] [] G (wl1 n (lp_X10_layouts_125 rec v1 v2 v3 kc87) v4 G = some G') := by
        intro v3
        refine wl1_ind (R := fun v4 G φ => J X Y 5 Q 125 [(0, .ref (AD Y 186)), (1, .int v1), (2, .int v2), (3, .int v3), (4, .int v4)] [] G φ) (fun _ G φ h => J_no h) ?_
        intro kc125 hk125 v4 G
        unfold lp_X10_layouts_125
        refine J_iload 4 hX dX10_layouts_125 rfl ?_
        refine J_aload_n 0 hX dX10_layouts_127 fz0 rfl ?_
        refine J_iload_n 1 hX dX10_layouts_128 fz1 rfl ?_
        refine J_iconst hX dX10_layouts_129 ci_3 ?_
        refine J_callVI (As := [.int v1, .int (3 : Int32)]) (st := [.int v4]) (b := 186) hX mv_X10_177 sk_186 rfl rfl rfl (Nat.le_of_ble_eq_true rfl) (by omega) (Nat.le_of_ble_eq_true rfl) dX10_layouts_130 (fun r G1 h => ok_X10_of  h) fun r130 G130 => ?_
        refine J_icmp_ge (tgt := 158) hX dX10_layouts_133 rfl ?_ ?_
        · refine J_aload_n 0 hX dX10_layouts_158 fz0 rfl ?_
          refine J_iload_n 1 hX dX10_layouts_159 fz1 rfl ?_
          refine J_iload_n 2 hX dX10_layouts_160 fz2 rfl ?_
          refine J_iconst hX dX10_layouts_161 ci_1 ?_
          refine J_iadd hX dX10_layouts_162 ?_
          refine J_callVV (As := [.int v1, .int (v2 + (1 : Int32))]) (st := []) (b := 186) hX mv_X10_276 sk_186 rfl rfl rfl (Nat.le_of_ble_eq_true rfl) (by omega) (Nat.le_of_ble_eq_true rfl) dX10_layouts_163 (fun G1 h => ih  h) fun G163 => ?_
          refine J_iconst hX dX10_layouts_166 ci_0 ?_
          refine J_istore (lv' := [(4, .int (0 : Int32)), (0, .ref (AD Y 186)), (1, .int v1), (2, .int v2), (3, .int v3)]) hX dX10_layouts_167 (Nat.le_of_ble_eq_true rfl) rfl ?_
          refine J_sub (lv' := [(0, .ref (AD Y 186)), (1, .int v1), (2, .int v2), (3, .int v3), (4, .int (0 : Int32))]) [1, 2, 3, 4, 0] rfl ?_
          exact K169 v3 FU (0 : Int32) G163
        · refine J_aload_n 0 hX dX10_layouts_136 fz0 rfl ?_
          refine J_getR (b := 202) hX dX10_layouts_137 lf_X10_62 sk_186 rfl (by decide) rfl ?_
          refine J_iload 4 hX dX10_layouts_140 rfl ?_
          refine J_dup2 hX dX10_layouts_142 rfl rfl ?_
          refine J_iald hX dX10_layouts_143 sk_202 ln_202 ?_
          refine J_iload_n 3 hX dX10_layouts_144 fz3 rfl ?_
          refine J_iload 4 hX dX10_layouts_145 rfl ?_
          refine J_ishr hX dX10_layouts_147 ?_
          refine J_iconst hX dX10_layouts_148 ci_1 ?_
          refine J_iand hX dX10_layouts_149 ?_
          refine J_isub hX dX10_layouts_150 ?_
          refine J_iast hX dX10_layouts_151 sk_202 ln_202 fun G151 => ?_
          refine J_iinc (lv' := [(4, .int (v4 + (1 : Int32))), (0, .ref (AD Y 186)), (1, .int v1), (2, .int v2), (3, .int v3)]) 4 hX dX10_layouts_152 rfl ci_1 (Nat.le_of_ble_eq_true rfl) rfl ?_
          refine J_goto (tgt := 125) hX dX10_layouts_155 rfl ?_
          refine J_sub (lv' := [(0, .ref (AD Y 186)), (1, .int v1), (2, .int v2), (3, .int v3), (4, .int (v4 + (1 : Int32)))]) [1, 2, 3, 4, 0] rfl ?_
          exact hk125 (v4 + (1 : Int32)) G151
      refine J_iload_n 3 hX dX10_layouts_87 fz3 rfl ?_
      refine J_iconst hX dX10_layouts_88 ci_1 ?_
      refine J_aload_n 0 hX dX10_layouts_89 fz0 rfl ?_
      refine J_iload_n 1 hX dX10_layouts_90 fz1 rfl ?_
      refine J_iconst hX dX10_layouts_91 ci_3 ?_
      refine J_callVI (As := [.int v1, .int (3 : Int32)]) (st := [.int (1 : Int32), .int v3]) (b := 186) hX mv_X10_177 sk_186 rfl rfl rfl (Nat.le_of_ble_eq_true rfl) (by omega) (Nat.le_of_ble_eq_true rfl) dX10_layouts_92 (fun r G1 h => ok_X10_of  h) fun r92 G92 => ?_
      refine J_ishl hX dX10_layouts_95 ?_
      refine J_icmp_ge (tgt := 208) hX dX10_layouts_96 rfl ?_ ?_
      · exact J_retV hR dX10_layouts_208
      · refine J_iload_n 3 hX dX10_layouts_99 fz3 rfl ?_
        refine J_callSI (As := [.int v3]) (st := []) hX ms_X10_279 rfl rfl (Nat.le_of_ble_eq_true rfl) (by omega) (Nat.le_of_ble_eq_true rfl) dX10_layouts_100 (fun r G1 h => ok_X10_sizeOf  h) fun r100 G100 => ?_
        refine J_aload_n 0 hX dX10_layouts_103 fz0 rfl ?_
        refine J_iload_n 1 hX dX10_layouts_104 fz1 rfl ?_
        refine J_iconst hX dX10_layouts_105 ci_2 ?_
        refine J_callVI (As := [.int v1, .int (2 : Int32)]) (st := [.int r100]) (b := 186) hX mv_X10_177 sk_186 rfl rfl rfl (Nat.le_of_ble_eq_true rfl) (by omega) (Nat.le_of_ble_eq_true rfl) dX10_layouts_106 (fun r G1 h => ok_X10_of  h) fun r106 G106 => ?_
        refine J_icmp_eq (tgt := 115) hX dX10_layouts_109 rfl ?_ ?_
        · refine J_aload_n 0 hX dX10_layouts_115 fz0 rfl ?_
          refine J_getR (b := 203) hX dX10_layouts_116 lf_X10_65 sk_186 rfl (by decide) rfl ?_
          refine J_iload_n 2 hX dX10_layouts_119 fz2 rfl ?_
          refine J_iload_n 3 hX dX10_layouts_120 fz3 rfl ?_
          refine J_iast hX dX10_layouts_121 sk_203 ln_203 fun G121 => ?_
          refine J_iconst hX dX10_layouts_122 ci_0 ?_
          refine J_istore (lv' := [(4, .int (0 : Int32)), (0, .ref (AD Y 186)), (1, .int v1), (2, .int v2), (3, .int v3)]) hX dX10_layouts_123 (Nat.le_of_ble_eq_true rfl) rfl ?_
          refine J_sub (lv' := [(0, .ref (AD Y 186)), (1, .int v1), (2, .int v2), (3, .int v3), (4, .int (0 : Int32))]) [1, 2, 3, 4, 0] rfl ?_
          exact K125 v3 FU (0 : Int32) G121
        · refine J_goto (tgt := 202) hX dX10_layouts_112 rfl ?_
          refine J_iinc (lv' := [(3, .int (v3 + (1 : Int32))), (0, .ref (AD Y 186)), (1, .int v1), (2, .int v2)]) 3 hX dX10_layouts_202 rfl ci_1 (Nat.le_of_ble_eq_true rfl) rfl ?_
          refine J_goto (tgt := 87) hX dX10_layouts_205 rfl ?_
          refine J_sub (lv' := [(0, .ref (AD Y 186)), (1, .int v1), (2, .int v2), (3, .int (v3 + (1 : Int32)))]) [1, 2, 3, 0] rfl ?_
          exact hk87 (v3 + (1 : Int32)) G106
    have K74 : ∀ (G : GM), J X Y 5 Q 74 [(0, .ref (AD Y 186))] [] G (k_X10_layouts_74 rec v1 v2 G = some G') := by
      intro G
      unfold k_X10_layouts_74
      refine J_aload_n 0 hX dX10_layouts_74 fz0 rfl ?_
      refine J_dup hX dX10_layouts_75 rfl ?_
      refine J_getI hX dX10_layouts_76 lf_X10_270 sk_186 rfl ?_
      refine J_iconst hX dX10_layouts_79 ci_1 ?_
      refine J_iadd hX dX10_layouts_80 ?_
      refine J_putI hX dX10_layouts_81 lf_X10_270 lpt_9_31 sk_186 rfl fun G81 => ?_
      exact J_retV hR dX10_layouts_84
    have K51 : ∀  (n : Nat) (v3 : Int32) (G : GM), J X Y 5 Q 51 [(0, .ref (AD Y 186)), (3, .int v3)] [] G (wl1 n (lp_X10_layouts_51 rec v1 v2) v3 G = some G') := by
      refine wl1_ind (R := fun v3 G φ => J X Y 5 Q 51 [(0, .ref (AD Y 186)), (3, .int v3)] [] G φ) (fun _ G φ h => J_no h) ?_
      intro kc51 hk51 v3 G
      unfold lp_X10_layouts_51
      refine J_iload_n 1 hX dX10_layouts_51 fz3 rfl ?_
      refine J_iconst hX dX10_layouts_52 ci_3 ?_
      refine J_icmp_ge (tgt := 74) hX dX10_layouts_53 rfl ?_ ?_
      · refine J_sub (lv' := [(0, .ref (AD Y 186))]) [0] rfl ?_
        exact K74 G
      · refine J_aload_n 0 hX dX10_layouts_56 fz0 rfl ?_
        refine J_getR (b := 204) hX dX10_layouts_57 lf_X10_68 sk_186 rfl (by decide) rfl ?_
        refine J_iload_n 1 hX dX10_layouts_60 fz3 rfl ?_
        refine J_aload_n 0 hX dX10_layouts_61 fz0 rfl ?_
        refine J_getR (b := 203) hX dX10_layouts_62 lf_X10_65 sk_186 rfl (by decide) rfl ?_
        refine J_iload_n 1 hX dX10_layouts_65 fz3 rfl ?_
        refine J_iald hX dX10_layouts_66 sk_203 ln_203 ?_
        refine J_iast hX dX10_layouts_67 sk_204 ln_204 fun G67 => ?_
        refine J_iinc (lv' := [(3, .int (v3 + (1 : Int32))), (0, .ref (AD Y 186))]) 1 hX dX10_layouts_68 rfl ci_1 (Nat.le_of_ble_eq_true rfl) rfl ?_
        refine J_goto (tgt := 51) hX dX10_layouts_71 rfl ?_
        refine J_sub (lv' := [(0, .ref (AD Y 186)), (3, .int (v3 + (1 : Int32)))]) [1, 0] rfl ?_
        exact hk51 (v3 + (1 : Int32)) G67
    have K12 : ∀  (n : Nat) (v3 : Int32) (G : GM), J X Y 5 Q 12 [(0, .ref (AD Y 186)), (1, .int v1), (3, .int v3)] [] G (wl1 n (lp_X10_layouts_12 rec v1 v2) v3 G = some G') := by
      refine wl1_ind (R := fun v3 G φ => J X Y 5 Q 12 [(0, .ref (AD Y 186)), (1, .int v1), (3, .int v3)] [] G φ) (fun _ G φ h => J_no h) ?_
      intro kc12 hk12 v3 G
      unfold lp_X10_layouts_12
      refine J_iload_n 2 hX dX10_layouts_12 fz3 rfl ?_
      refine J_aload_n 0 hX dX10_layouts_13 fz0 rfl ?_
      refine J_iload_n 1 hX dX10_layouts_14 fz1 rfl ?_
      refine J_iconst hX dX10_layouts_15 ci_3 ?_
      refine J_callVI (As := [.int v1, .int (3 : Int32)]) (st := [.int v3]) (b := 186) hX mv_X10_177 sk_186 rfl rfl rfl (Nat.le_of_ble_eq_true rfl) (by omega) (Nat.le_of_ble_eq_true rfl) dX10_layouts_16 (fun r G1 h => ok_X10_of  h) fun r16 G16 => ?_
      refine J_icmp_ge (tgt := 38) hX dX10_layouts_19 rfl ?_ ?_
      · refine J_aload_n 0 hX dX10_layouts_38 fz0 rfl ?_
        refine J_getI hX dX10_layouts_39 lf_X10_270 sk_186 rfl ?_
        refine J_aload_n 0 hX dX10_layouts_42 fz0 rfl ?_
        refine J_getI hX dX10_layouts_43 lf_X10_273 sk_186 rfl ?_
        refine J_icmp_ne (tgt := 74) hX dX10_layouts_46 rfl ?_ ?_
        · refine J_sub (lv' := [(0, .ref (AD Y 186))]) [0] rfl ?_
          exact K74 G16
        · refine J_iconst hX dX10_layouts_49 ci_0 ?_
          refine J_istore_n (lv' := [(3, .int (0 : Int32)), (0, .ref (AD Y 186)), (1, .int v1)]) hX dX10_layouts_50 fz3 (Nat.le_of_ble_eq_true rfl) rfl ?_
          refine J_sub (lv' := [(0, .ref (AD Y 186)), (3, .int (0 : Int32))]) [1, 0] rfl ?_
          exact K51  FU (0 : Int32) G16
      · refine J_aload_n 0 hX dX10_layouts_22 fz0 rfl ?_
        refine J_getR (b := 202) hX dX10_layouts_23 lf_X10_62 sk_186 rfl (by decide) rfl ?_
        refine J_iload_n 2 hX dX10_layouts_26 fz3 rfl ?_
        refine J_iald hX dX10_layouts_27 sk_202 ln_202 ?_
        refine J_if_eq (tgt := 32) hX dX10_layouts_28 rfl ?_ ?_
        · refine J_iinc (lv' := [(3, .int (v3 + (1 : Int32))), (0, .ref (AD Y 186)), (1, .int v1)]) 2 hX dX10_layouts_32 rfl ci_1 (Nat.le_of_ble_eq_true rfl) rfl ?_
          refine J_goto (tgt := 12) hX dX10_layouts_35 rfl ?_
          refine J_sub (lv' := [(0, .ref (AD Y 186)), (1, .int v1), (3, .int (v3 + (1 : Int32)))]) [1, 2, 0] rfl ?_
          exact hk12 (v3 + (1 : Int32)) G16
        · exact J_retV hR dX10_layouts_31
    unfold fb_X10_layouts
    refine J_iload_n 2 hX dX10_layouts_0 fz2 rfl ?_
    refine J_aload_n 0 hX dX10_layouts_1 fz0 rfl ?_
    refine J_iload_n 1 hX dX10_layouts_2 fz1 rfl ?_
    refine J_iconst hX dX10_layouts_3 ci_1 ?_
    refine J_callVI (As := [.int v1, .int (1 : Int32)]) (st := [.int v2]) (b := 186) hX mv_X10_177 sk_186 rfl rfl rfl (Nat.le_of_ble_eq_true rfl) (by omega) (Nat.le_of_ble_eq_true rfl) dX10_layouts_4 (fun r G1 h => ok_X10_of  h) fun r4 G4 => ?_
    refine J_icmp_ne (tgt := 85) hX dX10_layouts_7 rfl ?_ ?_
    · refine J_iconst hX dX10_layouts_85 ci_0 ?_
      refine J_istore_n (lv' := [(3, .int (0 : Int32)), (0, .ref (AD Y 186)), (1, .int v1), (2, .int v2)]) hX dX10_layouts_86 fz3 (Nat.le_of_ble_eq_true rfl) rfl ?_
      refine J_sub (lv' := [(0, .ref (AD Y 186)), (1, .int v1), (2, .int v2), (3, .int (0 : Int32))]) [1, 2, 3, 0] rfl ?_
      exact K87  FU (0 : Int32) G4
    · refine J_iconst hX dX10_layouts_10 ci_0 ?_
      refine J_istore_n (lv' := [(3, .int (0 : Int32)), (0, .ref (AD Y 186)), (1, .int v1), (2, .int v2)]) hX dX10_layouts_11 fz3 (Nat.le_of_ble_eq_true rfl) rfl ?_
      refine J_sub (lv' := [(0, .ref (AD Y 186)), (1, .int v1), (3, .int (0 : Int32))]) [1, 2, 0] rfl ?_
      exact K12  FU (0 : Int32) G4
set_option maxHeartbeats 4000000 in
set_option maxRecDepth 100000 in
theorem ok_X10_layoutOf {Y : DX} {v1 : Int32} {v2 : Int32}  {G : GM} {G' : GM} (hf : f_X10_layoutOf v1 v2 G = some G') : OkV Y 9 M_X10_layoutOf [.ref (AD Y 186), .int v1, .int v2] G G' := by
  refine okV_of (lv0 := [(0, .ref (AD Y 186)), (1, .int v1), (2, .int v2)]) (by decide +kernel) rfl (Nat.le_of_ble_eq_true rfl) ?_
  intro X Q hX hR
  have hX : CXok X Y RX10 cX10_layoutOf 3 _ := hX
  revert hf
  show J X Y 3 Q 0 [(0, .ref (AD Y 186)), (1, .int v1), (2, .int v2)] [] G (f_X10_layoutOf v1 v2 G = some G')
  unfold f_X10_layoutOf
  refine J_aload_n 0 hX dX10_layoutOf_0 fz0 rfl ?_
  refine J_iconst hX dX10_layoutOf_1 ci_0 ?_
  refine J_putI hX dX10_layoutOf_2 lf_X10_270 lpt_9_31 sk_186 rfl fun G2 => ?_
  refine J_aload_n 0 hX dX10_layoutOf_5 fz0 rfl ?_
  refine J_iload_n 2 hX dX10_layoutOf_6 fz2 rfl ?_
  refine J_putI hX dX10_layoutOf_7 lf_X10_273 lpt_9_32 sk_186 rfl fun G7 => ?_
  refine J_aload_n 0 hX dX10_layoutOf_10 fz0 rfl ?_
  refine J_iload_n 1 hX dX10_layoutOf_11 fz1 rfl ?_
  refine J_iconst hX dX10_layoutOf_12 ci_0 ?_
  refine J_callVV (As := [.int v1, .int (0 : Int32)]) (st := []) (b := 186) hX mv_X10_276 sk_186 rfl rfl rfl (Nat.le_of_ble_eq_true rfl) (Nat.le_of_ble_eq_true rfl) (Nat.le_of_ble_eq_true rfl) dX10_layoutOf_13 (fun G1 h => ok_X10_layouts 6  h) fun G13 => ?_
  exact J_retV hR dX10_layoutOf_16
set_option maxHeartbeats 4000000 in
set_option maxRecDepth 100000 in
theorem ok_X10_at {Y : DX} {v1 : Int32} {v2 : Int32} {v3 : Int32} {v4 : Int32}  {G : GM} {r : Int32} {G' : GM} (hf : f_X10_at v1 v2 v3 v4 G = some (r, G')) : OkI Y 1 M_X10_at [.ref (AD Y 186), .int v1, .int v2, .int v3, .int v4] G r G' := by
  refine okI_of (lv0 := [(0, .ref (AD Y 186)), (1, .int v1), (2, .int v2), (3, .int v3), (4, .int v4)]) (by decide +kernel) rfl (Nat.le_of_ble_eq_true rfl) ?_
  intro X Q hX hR
  have hX : CXok X Y RX10 cX10_at 5 _ := hX
  revert hf
  show J X Y 5 Q 0 [(0, .ref (AD Y 186)), (1, .int v1), (2, .int v2), (3, .int v3), (4, .int v4)] [] G (f_X10_at v1 v2 v3 v4 G = some (r, G'))
  unfold f_X10_at
  refine J_bipush hX dX10_at_0 cb_45 ?_
  refine J_iload_n 1 hX dX10_at_2 fz1 rfl ?_
  refine J_imul hX dX10_at_3 ?_
  refine J_bipush hX dX10_at_4 cb_15 ?_
  refine J_iload_n 2 hX dX10_at_6 fz2 rfl ?_
  refine J_imul hX dX10_at_7 ?_
  refine J_iadd hX dX10_at_8 ?_
  refine J_iconst hX dX10_at_9 ci_5 ?_
  refine J_iload_n 3 hX dX10_at_10 fz3 rfl ?_
  refine J_imul hX dX10_at_11 ?_
  refine J_iadd hX dX10_at_12 ?_
  refine J_iload 4 hX dX10_at_13 rfl ?_
  refine J_iadd hX dX10_at_15 ?_
  exact J_retI hR dX10_at_16
set_option maxHeartbeats 4000000 in
set_option maxRecDepth 100000 in
theorem ok_X10_lays {Y : DX} {v1 : Int32} {v2 : Int32} {v3 : Int32} {v4 : Int32} {v5 : Int32} {v6 : Int32}  {G : GM} {G' : GM} (hf : f_X10_lays v1 v2 v3 v4 v5 v6 G = some G') : OkV Y 2 M_X10_lays [.ref (AD Y 186), .int v1, .int v2, .int v3, .int v4, .int v5, .int v6] G G' := by
  refine okV_of (lv0 := [(0, .ref (AD Y 186)), (1, .int v1), (2, .int v2), (3, .int v3), (4, .int v4), (5, .int v5), (6, .int v6)]) (by decide +kernel) rfl (Nat.le_of_ble_eq_true rfl) ?_
  intro X Q hX hR
  have hX : CXok X Y RX10 cX10_lays 11 _ := hX
  revert hf
  show J X Y 11 Q 0 [(0, .ref (AD Y 186)), (1, .int v1), (2, .int v2), (3, .int v3), (4, .int v4), (5, .int v5), (6, .int v6)] [] G (f_X10_lays v1 v2 v3 v4 v5 v6 G = some G')
  have K6 : ∀  (n : Nat) (v7 : Int32) (v8 : Int32) (G : GM), J X Y 11 Q 6 [(0, .ref (AD Y 186)), (1, .int v1), (2, .int v2), (3, .int v3), (4, .int v4), (5, .int v5), (6, .int v6), (7, .int v7), (8, .int v8)] [] G (wl2 n (lp_X10_lays_6 v1 v2 v3 v4 v5 v6) v7 v8 G = some G') := by
    refine wl2_ind (R := fun v7 v8 G φ => J X Y 11 Q 6 [(0, .ref (AD Y 186)), (1, .int v1), (2, .int v2), (3, .int v3), (4, .int v4), (5, .int v5), (6, .int v6), (7, .int v7), (8, .int v8)] [] G φ) (fun _ _ G φ h => J_no h) ?_
    intro kc6 hk6 v7 v8 G
    unfold lp_X10_lays_6
    have K41 : ∀ (v7 : Int32) (v8 : Int32) (n : Nat) (v9 : Int32) (v10 : Int32) (G : GM), J X Y 11 Q 41 [(0, .ref (AD Y 186)), (1, .int v1), (2, .int v2), (3, .int v3), (4, .int v4), (5, .int v5), (6, .int v6), (7, .int v7), (8, .int v8), (9, .int v9), (10, .int v10)] [] G (wl2 n (lp_X10_lays_41 v1 v2 v3 v4 v5 v6 v7 v8 kc6) v9 v10 G = some G') := by
      intro v7 v8
      refine wl2_ind (R := fun v9 v10 G φ => J X Y 11 Q 41 [(0, .ref (AD Y 186)), (1, .int v1), (2, .int v2), (3, .int v3), (4, .int v4), (5, .int v5), (6, .int v6), (7, .int v7), (8, .int v8), (9, .int v9), (10, .int v10)] [] G φ) (fun _ _ G φ h => J_no h) ?_
      intro kc41 hk41 v9 v10 G
      unfold lp_X10_lays_41
      have K80 : ∀ (v10 : Int32) (G : GM), J X Y 11 Q 80 [(0, .ref (AD Y 186)), (1, .int v1), (2, .int v2), (3, .int v3), (4, .int v4), (5, .int v5), (6, .int v6), (7, .int v7), (8, .int v8), (10, .int v10)] [] G (k_X10_lays_80 v1 v2 v3 v4 v5 v6 v7 v8 v10 kc6 kc41 G = some G') := by
        intro v10 G
        unfold k_X10_lays_80
        refine J_aload_n 0 hX dX10_lays_80 fz0 rfl ?_
        refine J_getR (b := 205) hX dX10_lays_81 lf_X10_71 sk_186 rfl (by decide) rfl ?_
        refine J_iload 9 hX dX10_lays_84 rfl ?_
        refine J_iald hX dX10_lays_86 sk_205 ln_205 ?_
        refine J_lt (mk := Value.int) fun x87 => ?_
        refine J_istore (lv' := [(9, .int x87), (0, .ref (AD Y 186)), (1, .int v1), (2, .int v2), (3, .int v3), (4, .int v4), (5, .int v5), (6, .int v6), (7, .int v7), (8, .int v8), (10, .int v10)]) hX dX10_lays_87 (Nat.le_of_ble_eq_true rfl) rfl ?_
        refine J_iinc (lv' := [(10, .int (v10 + (1 : Int32))), (9, .int x87), (0, .ref (AD Y 186)), (1, .int v1), (2, .int v2), (3, .int v3), (4, .int v4), (5, .int v5), (6, .int v6), (7, .int v7), (8, .int v8)]) 10 hX dX10_lays_89 rfl ci_1 (Nat.le_of_ble_eq_true rfl) rfl ?_
        refine J_goto (tgt := 41) hX dX10_lays_92 rfl ?_
        refine J_sub (lv' := [(0, .ref (AD Y 186)), (1, .int v1), (2, .int v2), (3, .int v3), (4, .int v4), (5, .int v5), (6, .int v6), (7, .int v7), (8, .int v8), (9, .int x87), (10, .int (v10 + (1 : Int32)))]) [2, 3, 4, 5, 6, 7, 8, 9, 10, 1, 0] rfl ?_
        exact hk41 x87 (v10 + (1 : Int32)) G
      refine J_iload 10 hX dX10_lays_41 rfl ?_
      refine J_iload 4 hX dX10_lays_43 rfl ?_
      refine J_iload 5 hX dX10_lays_45 rfl ?_
      refine J_iadd hX dX10_lays_47 ?_
      refine J_icmp_ge (tgt := 95) hX dX10_lays_48 rfl ?_ ?_
      · refine J_aload_n 0 hX dX10_lays_95 fz0 rfl ?_
        refine J_getR (b := 206) hX dX10_lays_96 lf_X10_74 sk_186 rfl (by decide) rfl ?_
        refine J_aload_n 0 hX dX10_lays_99 fz0 rfl ?_
        refine J_iload_n 1 hX dX10_lays_100 fz1 rfl ?_
        refine J_iload_n 2 hX dX10_lays_101 fz2 rfl ?_
        refine J_iload 8 hX dX10_lays_102 rfl ?_
        refine J_iload_n 3 hX dX10_lays_104 fz3 rfl ?_
        refine J_callVI (As := [.int v1, .int v2, .int v8, .int v3]) (st := [.ref (AD Y 206)]) (b := 186) hX mv_X10_314 sk_186 rfl rfl rfl (Nat.le_of_ble_eq_true rfl) (Nat.le_of_ble_eq_true rfl) (Nat.le_of_ble_eq_true rfl) dX10_lays_105 (fun r G1 h => ok_X10_at  h) fun r105 G105 => ?_
        refine J_iload 9 hX dX10_lays_108 rfl ?_
        refine J_iast hX dX10_lays_110 sk_206 ln_206 fun G110 => ?_
        refine J_iload 9 hX dX10_lays_111 rfl ?_
        refine J_istore (lv' := [(7, .int v9), (0, .ref (AD Y 186)), (1, .int v1), (2, .int v2), (3, .int v3), (4, .int v4), (5, .int v5), (6, .int v6), (8, .int v8), (9, .int v9), (10, .int v10)]) hX dX10_lays_113 (Nat.le_of_ble_eq_true rfl) rfl ?_
        refine J_iinc (lv' := [(8, .int (v8 + (1 : Int32))), (7, .int v9), (0, .ref (AD Y 186)), (1, .int v1), (2, .int v2), (3, .int v3), (4, .int v4), (5, .int v5), (6, .int v6), (9, .int v9), (10, .int v10)]) 8 hX dX10_lays_115 rfl ci_1 (Nat.le_of_ble_eq_true rfl) rfl ?_
        refine J_goto (tgt := 6) hX dX10_lays_118 rfl ?_
        refine J_sub (lv' := [(0, .ref (AD Y 186)), (1, .int v1), (2, .int v2), (3, .int v3), (4, .int v4), (5, .int v5), (6, .int v6), (7, .int v9), (8, .int (v8 + (1 : Int32)))]) [2, 3, 4, 5, 6, 7, 8, 1, 0] rfl ?_
        exact hk6 v9 (v8 + (1 : Int32)) G110
      · refine J_aload_n 0 hX dX10_lays_51 fz0 rfl ?_
        refine J_getR (b := 205) hX dX10_lays_52 lf_X10_71 sk_186 rfl (by decide) rfl ?_
        refine J_iload 10 hX dX10_lays_55 rfl ?_
        refine J_iald hX dX10_lays_57 sk_205 ln_205 ?_
        refine J_iload 7 hX dX10_lays_58 rfl ?_
        refine J_icmp_le (tgt := 89) hX dX10_lays_60 rfl ?_ ?_
        · refine J_iinc (lv' := [(10, .int (v10 + (1 : Int32))), (0, .ref (AD Y 186)), (1, .int v1), (2, .int v2), (3, .int v3), (4, .int v4), (5, .int v5), (6, .int v6), (7, .int v7), (8, .int v8), (9, .int v9)]) 10 hX dX10_lays_89 rfl ci_1 (Nat.le_of_ble_eq_true rfl) rfl ?_
          refine J_goto (tgt := 41) hX dX10_lays_92 rfl ?_
          refine J_sub (lv' := [(0, .ref (AD Y 186)), (1, .int v1), (2, .int v2), (3, .int v3), (4, .int v4), (5, .int v5), (6, .int v6), (7, .int v7), (8, .int v8), (9, .int v9), (10, .int (v10 + (1 : Int32)))]) [1, 2, 3, 4, 5, 6, 7, 8, 9, 10, 0] rfl ?_
          exact hk41 v9 (v10 + (1 : Int32)) G
        · refine J_iload 9 hX dX10_lays_63 rfl ?_
          refine J_if_eq (tgt := 80) hX dX10_lays_65 rfl ?_ ?_
          · refine J_sub (lv' := [(0, .ref (AD Y 186)), (1, .int v1), (2, .int v2), (3, .int v3), (4, .int v4), (5, .int v5), (6, .int v6), (7, .int v7), (8, .int v8), (10, .int v10)]) [0, 1, 2, 3, 4, 5, 6, 7, 8, 10] rfl ?_
            exact K80 v10 G
          · refine J_aload_n 0 hX dX10_lays_68 fz0 rfl ?_
            refine J_getR (b := 205) hX dX10_lays_69 lf_X10_71 sk_186 rfl (by decide) rfl ?_
            refine J_iload 10 hX dX10_lays_72 rfl ?_
            refine J_iald hX dX10_lays_74 sk_205 ln_205 ?_
            refine J_iload 9 hX dX10_lays_75 rfl ?_
            refine J_icmp_ge (tgt := 89) hX dX10_lays_77 rfl ?_ ?_
            · refine J_iinc (lv' := [(10, .int (v10 + (1 : Int32))), (0, .ref (AD Y 186)), (1, .int v1), (2, .int v2), (3, .int v3), (4, .int v4), (5, .int v5), (6, .int v6), (7, .int v7), (8, .int v8), (9, .int v9)]) 10 hX dX10_lays_89 rfl ci_1 (Nat.le_of_ble_eq_true rfl) rfl ?_
              refine J_goto (tgt := 41) hX dX10_lays_92 rfl ?_
              refine J_sub (lv' := [(0, .ref (AD Y 186)), (1, .int v1), (2, .int v2), (3, .int v3), (4, .int v4), (5, .int v5), (6, .int v6), (7, .int v7), (8, .int v8), (9, .int v9), (10, .int (v10 + (1 : Int32)))]) [1, 2, 3, 4, 5, 6, 7, 8, 9, 10, 0] rfl ?_
              exact hk41 v9 (v10 + (1 : Int32)) G
            · refine J_sub (lv' := [(0, .ref (AD Y 186)), (1, .int v1), (2, .int v2), (3, .int v3), (4, .int v4), (5, .int v5), (6, .int v6), (7, .int v7), (8, .int v8), (10, .int v10)]) [0, 1, 2, 3, 4, 5, 6, 7, 8, 10] rfl ?_
              exact K80 v10 G
    refine J_iload 8 hX dX10_lays_6 rfl ?_
    refine J_iload 6 hX dX10_lays_8 rfl ?_
    refine J_icmp_ge (tgt := 121) hX dX10_lays_10 rfl ?_ ?_
    · exact J_retV hR dX10_lays_121
    · refine J_aload_n 0 hX dX10_lays_13 fz0 rfl ?_
      refine J_getR (b := 207) hX dX10_lays_14 lf_X10_77 sk_186 rfl (by decide) rfl ?_
      refine J_iconst hX dX10_lays_17 ci_3 ?_
      refine J_iload_n 2 hX dX10_lays_18 fz2 rfl ?_
      refine J_imul hX dX10_lays_19 ?_
      refine J_iload 8 hX dX10_lays_20 rfl ?_
      refine J_iadd hX dX10_lays_22 ?_
      refine J_iald hX dX10_lays_23 sk_207 ln_207 ?_
      refine J_iload_n 3 hX dX10_lays_24 fz3 rfl ?_
      refine J_ishr hX dX10_lays_25 ?_
      refine J_iconst hX dX10_lays_26 ci_1 ?_
      refine J_iand hX dX10_lays_27 ?_
      refine J_if_ne (tgt := 34) hX dX10_lays_28 rfl ?_ ?_
      · refine J_iconst hX dX10_lays_34 ci_0 ?_
        refine J_istore (lv' := [(9, .int (0 : Int32)), (0, .ref (AD Y 186)), (1, .int v1), (2, .int v2), (3, .int v3), (4, .int v4), (5, .int v5), (6, .int v6), (7, .int v7), (8, .int v8)]) hX dX10_lays_35 (Nat.le_of_ble_eq_true rfl) rfl ?_
        refine J_iload 5 hX dX10_lays_37 rfl ?_
        refine J_istore (lv' := [(10, .int v4), (9, .int (0 : Int32)), (0, .ref (AD Y 186)), (1, .int v1), (2, .int v2), (3, .int v3), (4, .int v4), (5, .int v5), (6, .int v6), (7, .int v7), (8, .int v8)]) hX dX10_lays_39 (Nat.le_of_ble_eq_true rfl) rfl ?_
        refine J_sub (lv' := [(0, .ref (AD Y 186)), (1, .int v1), (2, .int v2), (3, .int v3), (4, .int v4), (5, .int v5), (6, .int v6), (7, .int v7), (8, .int v8), (9, .int (0 : Int32)), (10, .int v4)]) [2, 3, 4, 5, 6, 7, 8, 9, 10, 1, 0] rfl ?_
        exact K41 v7 v8 FU (0 : Int32) v4 G
      · refine J_goto (tgt := 115) hX dX10_lays_31 rfl ?_
        refine J_iinc (lv' := [(8, .int (v8 + (1 : Int32))), (0, .ref (AD Y 186)), (1, .int v1), (2, .int v2), (3, .int v3), (4, .int v4), (5, .int v5), (6, .int v6), (7, .int v7)]) 8 hX dX10_lays_115 rfl ci_1 (Nat.le_of_ble_eq_true rfl) rfl ?_
        refine J_goto (tgt := 6) hX dX10_lays_118 rfl ?_
        refine J_sub (lv' := [(0, .ref (AD Y 186)), (1, .int v1), (2, .int v2), (3, .int v3), (4, .int v4), (5, .int v5), (6, .int v6), (7, .int v7), (8, .int (v8 + (1 : Int32)))]) [1, 2, 3, 4, 5, 6, 7, 8, 0] rfl ?_
        exact hk6 v7 (v8 + (1 : Int32)) G
  unfold f_X10_lays
  refine J_iconst hX dX10_lays_0 ci_0 ?_
  refine J_istore (lv' := [(7, .int (0 : Int32)), (0, .ref (AD Y 186)), (1, .int v1), (2, .int v2), (3, .int v3), (4, .int v4), (5, .int v5), (6, .int v6)]) hX dX10_lays_1 (Nat.le_of_ble_eq_true rfl) rfl ?_
  refine J_iconst hX dX10_lays_3 ci_0 ?_
  refine J_istore (lv' := [(8, .int (0 : Int32)), (7, .int (0 : Int32)), (0, .ref (AD Y 186)), (1, .int v1), (2, .int v2), (3, .int v3), (4, .int v4), (5, .int v5), (6, .int v6)]) hX dX10_lays_4 (Nat.le_of_ble_eq_true rfl) rfl ?_
  refine J_sub (lv' := [(0, .ref (AD Y 186)), (1, .int v1), (2, .int v2), (3, .int v3), (4, .int v4), (5, .int v5), (6, .int v6), (7, .int (0 : Int32)), (8, .int (0 : Int32))]) [2, 3, 4, 5, 6, 7, 8, 1, 0] rfl ?_
  exact K6  FU (0 : Int32) (0 : Int32) G
set_option maxHeartbeats 4000000 in
set_option maxRecDepth 100000 in
theorem ok_X10_mixes {Y : DX} {v1 : Int32} {v2 : Int32}  {G : GM} {G' : GM} (hf : f_X10_mixes v1 v2 G = some G') : OkV Y 2 M_X10_mixes [.ref (AD Y 186), .int v1, .int v2] G G' := by
  refine okV_of (lv0 := [(0, .ref (AD Y 186)), (1, .int v1), (2, .int v2)]) (by decide +kernel) rfl (Nat.le_of_ble_eq_true rfl) ?_
  intro X Q hX hR
  have hX : CXok X Y RX10 cX10_mixes 6 _ := hX
  revert hf
  show J X Y 6 Q 0 [(0, .ref (AD Y 186)), (1, .int v1), (2, .int v2)] [] G (f_X10_mixes v1 v2 G = some G')
  have K26 : ∀  (n : Nat) (v3 : Int32) (G : GM), J X Y 6 Q 26 [(0, .ref (AD Y 186)), (3, .int v3)] [] G (wl1 n (lp_X10_mixes_26 v1 v2) v3 G = some G') := by
    refine wl1_ind (R := fun v3 G φ => J X Y 6 Q 26 [(0, .ref (AD Y 186)), (3, .int v3)] [] G φ) (fun _ G φ h => J_no h) ?_
    intro kc26 hk26 v3 G
    unfold lp_X10_mixes_26
    refine J_iload_n 1 hX dX10_mixes_26 fz3 rfl ?_
    refine J_if_le (tgt := 75) hX dX10_mixes_27 rfl ?_ ?_
    · exact J_retV hR dX10_mixes_75
    · refine J_aload_n 0 hX dX10_mixes_30 fz0 rfl ?_
      refine J_iload_n 1 hX dX10_mixes_31 fz3 rfl ?_
      refine J_iconst hX dX10_mixes_32 ci_1 ?_
      refine J_iadd hX dX10_mixes_33 ?_
      refine J_callVI (As := [.int (v3 + (1 : Int32))]) (st := []) (b := 186) hX mv_X10_295 sk_186 rfl rfl rfl (Nat.le_of_ble_eq_true rfl) (Nat.le_of_ble_eq_true rfl) (Nat.le_of_ble_eq_true rfl) dX10_mixes_34 (fun r G1 h => ok_X10_drawn  h) fun r34 G34 => ?_
      refine J_istore (lv' := [(4, .int r34), (0, .ref (AD Y 186)), (3, .int v3)]) hX dX10_mixes_37 (Nat.le_of_ble_eq_true rfl) rfl ?_
      refine J_aload_n 1 hX dX10_mixes_39 fz0 rfl ?_
      refine J_getR (b := 205) hX dX10_mixes_40 lf_X10_71 sk_186 rfl (by decide) rfl ?_
      refine J_iload_n 2 hX dX10_mixes_43 fz3 rfl ?_
      refine J_iald hX dX10_mixes_44 sk_205 ln_205 ?_
      refine J_lt (mk := Value.int) fun x45 => ?_
      refine J_istore (lv' := [(5, .int x45), (4, .int r34), (0, .ref (AD Y 186)), (3, .int v3)]) hX dX10_mixes_45 (Nat.le_of_ble_eq_true rfl) rfl ?_
      refine J_aload_n 2 hX dX10_mixes_47 fz0 rfl ?_
      refine J_getR (b := 205) hX dX10_mixes_48 lf_X10_71 sk_186 rfl (by decide) rfl ?_
      refine J_iload_n 3 hX dX10_mixes_51 fz3 rfl ?_
      refine J_aload_n 2 hX dX10_mixes_52 fz0 rfl ?_
      refine J_getR (b := 205) hX dX10_mixes_53 lf_X10_71 sk_186 rfl (by decide) rfl ?_
      refine J_iload 1 hX dX10_mixes_56 rfl ?_
      refine J_iald hX dX10_mixes_58 sk_205 ln_205 ?_
      refine J_iast hX dX10_mixes_59 sk_205 ln_205 fun G59 => ?_
      refine J_aload_n 2 hX dX10_mixes_60 fz0 rfl ?_
      refine J_getR (b := 205) hX dX10_mixes_61 lf_X10_71 sk_186 rfl (by decide) rfl ?_
      refine J_iload 1 hX dX10_mixes_64 rfl ?_
      refine J_iload 0 hX dX10_mixes_66 rfl ?_
      refine J_iast hX dX10_mixes_68 sk_205 ln_205 fun G68 => ?_
      refine J_iinc (lv' := [(3, .int (v3 + (-1 : Int32))), (5, .int x45), (4, .int r34), (0, .ref (AD Y 186))]) 3 hX dX10_mixes_69 rfl cim_1 (Nat.le_of_ble_eq_true rfl) rfl ?_
      refine J_goto (tgt := 26) hX dX10_mixes_72 rfl ?_
      refine J_sub (lv' := [(0, .ref (AD Y 186)), (3, .int (v3 + (-1 : Int32)))]) [3, 0] rfl ?_
      exact hk26 (v3 + (-1 : Int32)) G68
  have K2 : ∀  (n : Nat) (v3 : Int32) (G : GM), J X Y 6 Q 2 [(0, .ref (AD Y 186)), (1, .int v1), (2, .int v2), (3, .int v3)] [] G (wl1 n (lp_X10_mixes_2 v1 v2) v3 G = some G') := by
    refine wl1_ind (R := fun v3 G φ => J X Y 6 Q 2 [(0, .ref (AD Y 186)), (1, .int v1), (2, .int v2), (3, .int v3)] [] G φ) (fun _ G φ h => J_no h) ?_
    intro kc2 hk2 v3 G
    unfold lp_X10_mixes_2
    refine J_iload_n 3 hX dX10_mixes_2 fz3 rfl ?_
    refine J_iload_n 2 hX dX10_mixes_3 fz2 rfl ?_
    refine J_icmp_ge (tgt := 22) hX dX10_mixes_4 rfl ?_ ?_
    · refine J_iload_n 2 hX dX10_mixes_22 fz2 rfl ?_
      refine J_iconst hX dX10_mixes_23 ci_1 ?_
      refine J_isub hX dX10_mixes_24 ?_
      refine J_lt (mk := Value.int) fun x25 => ?_
      refine J_istore_n (lv' := [(3, .int x25), (0, .ref (AD Y 186)), (1, .int v1), (2, .int v2)]) hX dX10_mixes_25 fz3 (Nat.le_of_ble_eq_true rfl) rfl ?_
      refine J_sub (lv' := [(0, .ref (AD Y 186)), (3, .int x25)]) [1, 0] rfl ?_
      exact K26  FU x25 G
    · refine J_aload_n 0 hX dX10_mixes_7 fz0 rfl ?_
      refine J_getR (b := 205) hX dX10_mixes_8 lf_X10_71 sk_186 rfl (by decide) rfl ?_
      refine J_iload_n 3 hX dX10_mixes_11 fz3 rfl ?_
      refine J_iload_n 1 hX dX10_mixes_12 fz1 rfl ?_
      refine J_iload_n 3 hX dX10_mixes_13 fz3 rfl ?_
      refine J_iadd hX dX10_mixes_14 ?_
      refine J_iast hX dX10_mixes_15 sk_205 ln_205 fun G15 => ?_
      refine J_iinc (lv' := [(3, .int (v3 + (1 : Int32))), (0, .ref (AD Y 186)), (1, .int v1), (2, .int v2)]) 3 hX dX10_mixes_16 rfl ci_1 (Nat.le_of_ble_eq_true rfl) rfl ?_
      refine J_goto (tgt := 2) hX dX10_mixes_19 rfl ?_
      refine J_sub (lv' := [(0, .ref (AD Y 186)), (1, .int v1), (2, .int v2), (3, .int (v3 + (1 : Int32)))]) [1, 2, 3, 0] rfl ?_
      exact hk2 (v3 + (1 : Int32)) G15
  unfold f_X10_mixes
  refine J_iconst hX dX10_mixes_0 ci_0 ?_
  refine J_istore_n (lv' := [(3, .int (0 : Int32)), (0, .ref (AD Y 186)), (1, .int v1), (2, .int v2)]) hX dX10_mixes_1 fz3 (Nat.le_of_ble_eq_true rfl) rfl ?_
  refine J_sub (lv' := [(0, .ref (AD Y 186)), (1, .int v1), (2, .int v2), (3, .int (0 : Int32))]) [1, 2, 3, 0] rfl ?_
  exact K2  FU (0 : Int32) G
set_option maxHeartbeats 4000000 in
set_option maxRecDepth 100000 in
theorem ok_X10_makes {Y : DX} {v1 : Int32} {v2 : Int32} {v3 : Int32}  {G : GM} {G' : GM} (hf : f_X10_makes v1 v2 v3 G = some G') : OkV Y 29 M_X10_makes [.ref (AD Y 186), .int v1, .int v2, .int v3] G G' := by
  refine okV_of (lv0 := [(0, .ref (AD Y 186)), (1, .int v1), (2, .int v2), (3, .int v3)]) (by decide +kernel) rfl (Nat.le_of_ble_eq_true rfl) ?_
  intro X Q hX hR
  have hX : CXok X Y RX10 cX10_makes 8 _ := hX
  revert hf
  show J X Y 8 Q 0 [(0, .ref (AD Y 186)), (1, .int v1), (2, .int v2), (3, .int v3)] [] G (f_X10_makes v1 v2 v3 G = some G')
  have K187 : ∀  (n : Nat) (v4 : Int32) (G : GM), J X Y 8 Q 187 [(0, .ref (AD Y 186)), (1, .int v1), (3, .int v3), (4, .int v4)] [] G (wl1 n (lp_X10_makes_187 v1 v2 v3) v4 G = some G') := by
    refine wl1_ind (R := fun v4 G φ => J X Y 8 Q 187 [(0, .ref (AD Y 186)), (1, .int v1), (3, .int v3), (4, .int v4)] [] G φ) (fun _ G φ h => J_no h) ?_
    intro kc187 hk187 v4 G
    unfold lp_X10_makes_187
    have K226 : ∀ (v4 : Int32) (n : Nat) (v5 : Int32) (v6 : Int32) (G : GM), J X Y 8 Q 226 [(0, .ref (AD Y 186)), (1, .int v1), (3, .int v3), (4, .int v4), (5, .int v5), (6, .int v6)] [] G (wl2 n (lp_X10_makes_226 v1 v2 v3 v4 kc187) v5 v6 G = some G') := by
      intro v4
      refine wl2_ind (R := fun v5 v6 G φ => J X Y 8 Q 226 [(0, .ref (AD Y 186)), (1, .int v1), (3, .int v3), (4, .int v4), (5, .int v5), (6, .int v6)] [] G φ) (fun _ _ G φ h => J_no h) ?_
      intro kc226 hk226 v5 v6 G
      unfold lp_X10_makes_226
      refine J_iload 5 hX dX10_makes_226 rfl ?_
      refine J_aload_n 0 hX dX10_makes_228 fz0 rfl ?_
      refine J_iload_n 1 hX dX10_makes_229 fz1 rfl ?_
      refine J_iconst hX dX10_makes_230 ci_0 ?_
      refine J_callVI (As := [.int v1, .int (0 : Int32)]) (st := [.int v6]) (b := 186) hX mv_X10_177 sk_186 rfl rfl rfl (Nat.le_of_ble_eq_true rfl) (Nat.le_of_ble_eq_true rfl) (Nat.le_of_ble_eq_true rfl) dX10_makes_231 (fun r G1 h => ok_X10_of  h) fun r231 G231 => ?_
      refine J_icmp_ge (tgt := 283) hX dX10_makes_234 rfl ?_ ?_
      · refine J_iinc (lv' := [(4, .int (v4 + (1 : Int32))), (0, .ref (AD Y 186)), (1, .int v1), (3, .int v3), (5, .int v5), (6, .int v6)]) 3 hX dX10_makes_283 rfl ci_1 (Nat.le_of_ble_eq_true rfl) rfl ?_
        refine J_goto (tgt := 187) hX dX10_makes_286 rfl ?_
        refine J_sub (lv' := [(0, .ref (AD Y 186)), (1, .int v1), (3, .int v3), (4, .int (v4 + (1 : Int32)))]) [1, 2, 3, 0] rfl ?_
        exact hk187 (v4 + (1 : Int32)) G231
      · refine J_aload_n 0 hX dX10_makes_237 fz0 rfl ?_
        refine J_getR (b := 200) hX dX10_makes_238 lf_X10_56 sk_186 rfl (by decide) rfl ?_
        refine J_iconst hX dX10_makes_241 ci_5 ?_
        refine J_iload 5 hX dX10_makes_242 rfl ?_
        refine J_imul hX dX10_makes_244 ?_
        refine J_iload 3 hX dX10_makes_245 rfl ?_
        refine J_iadd hX dX10_makes_247 ?_
        refine J_iald hX dX10_makes_248 sk_200 ln_200 ?_
        refine J_lt (mk := Value.int) fun x249 => ?_
        refine J_istore (lv' := [(7, .int x249), (0, .ref (AD Y 186)), (1, .int v1), (3, .int v3), (4, .int v4), (5, .int v5), (6, .int v6)]) hX dX10_makes_249 (Nat.le_of_ble_eq_true rfl) rfl ?_
        refine J_aload_n 1 hX dX10_makes_251 fz0 rfl ?_
        refine J_iload_n 3 hX dX10_makes_252 fz3 rfl ?_
        refine J_iload 6 hX dX10_makes_253 rfl ?_
        refine J_iload 4 hX dX10_makes_255 rfl ?_
        refine J_iload 5 hX dX10_makes_257 rfl ?_
        refine J_iload 0 hX dX10_makes_259 rfl ?_
        refine J_aload_n 1 hX dX10_makes_261 fz0 rfl ?_
        refine J_iload_n 2 hX dX10_makes_262 fz1 rfl ?_
        refine J_iconst hX dX10_makes_263 ci_1 ?_
        refine J_callVI (As := [.int v1, .int (1 : Int32)]) (st := [.int x249, .int v5, .int v4, .int v6, .int v3, .ref (AD Y 186)]) (b := 186) hX mv_X10_177 sk_186 rfl rfl rfl (Nat.le_of_ble_eq_true rfl) (Nat.le_of_ble_eq_true rfl) (Nat.le_of_ble_eq_true rfl) dX10_makes_264 (fun r G1 h => ok_X10_of  h) fun r264 G264 => ?_
        refine J_callVV (As := [.int v3, .int v6, .int v4, .int v5, .int x249, .int r264]) (st := []) (b := 186) hX mv_X10_310 sk_186 rfl rfl rfl (Nat.le_of_ble_eq_true rfl) (Nat.le_of_ble_eq_true rfl) (Nat.le_of_ble_eq_true rfl) dX10_makes_267 (fun G1 h => ok_X10_lays  h) fun G267 => ?_
        refine J_iload 5 hX dX10_makes_270 rfl ?_
        refine J_iload 0 hX dX10_makes_272 rfl ?_
        refine J_iadd hX dX10_makes_274 ?_
        refine J_lt (mk := Value.int) fun x275 => ?_
        refine J_istore (lv' := [(5, .int x275), (7, .int x249), (0, .ref (AD Y 186)), (1, .int v1), (3, .int v3), (4, .int v4), (6, .int v6)]) hX dX10_makes_275 (Nat.le_of_ble_eq_true rfl) rfl ?_
        refine J_iinc (lv' := [(6, .int (v6 + (1 : Int32))), (5, .int x275), (7, .int x249), (0, .ref (AD Y 186)), (1, .int v1), (3, .int v3), (4, .int v4)]) 6 hX dX10_makes_277 rfl ci_1 (Nat.le_of_ble_eq_true rfl) rfl ?_
        refine J_goto (tgt := 226) hX dX10_makes_280 rfl ?_
        refine J_sub (lv' := [(0, .ref (AD Y 186)), (1, .int v1), (3, .int v3), (4, .int v4), (5, .int x275), (6, .int (v6 + (1 : Int32)))]) [3, 4, 5, 6, 1, 0] rfl ?_
        exact hk226 x275 (v6 + (1 : Int32)) G267
    refine J_iload 3 hX dX10_makes_187 rfl ?_
    refine J_aload_n 0 hX dX10_makes_189 fz0 rfl ?_
    refine J_iload_n 1 hX dX10_makes_190 fz1 rfl ?_
    refine J_iconst hX dX10_makes_191 ci_3 ?_
    refine J_callVI (As := [.int v1, .int (3 : Int32)]) (st := [.int v4]) (b := 186) hX mv_X10_177 sk_186 rfl rfl rfl (Nat.le_of_ble_eq_true rfl) (Nat.le_of_ble_eq_true rfl) (Nat.le_of_ble_eq_true rfl) dX10_makes_192 (fun r G1 h => ok_X10_of  h) fun r192 G192 => ?_
    refine J_icmp_ge (tgt := 289) hX dX10_makes_195 rfl ?_ ?_
    · exact J_retV hR dX10_makes_289
    · refine J_aload_n 0 hX dX10_makes_198 fz0 rfl ?_
      refine J_aload_n 0 hX dX10_makes_199 fz0 rfl ?_
      refine J_iload_n 1 hX dX10_makes_200 fz1 rfl ?_
      refine J_iload 3 hX dX10_makes_201 rfl ?_
      refine J_callVI (As := [.int v1, .int v4]) (st := [.ref (AD Y 186)]) (b := 186) hX mv_X10_307 sk_186 rfl rfl rfl (Nat.le_of_ble_eq_true rfl) (Nat.le_of_ble_eq_true rfl) (Nat.le_of_ble_eq_true rfl) dX10_makes_203 (fun r G1 h => ok_X10_firstOf  h) fun r203 G203 => ?_
      refine J_aload_n 0 hX dX10_makes_206 fz0 rfl ?_
      refine J_getR (b := 194) hX dX10_makes_207 lf_X10_37 sk_186 rfl (by decide) rfl ?_
      refine J_iconst hX dX10_makes_210 ci_5 ?_
      refine J_iload_n 1 hX dX10_makes_211 fz1 rfl ?_
      refine J_imul hX dX10_makes_212 ?_
      refine J_iload 3 hX dX10_makes_213 rfl ?_
      refine J_iadd hX dX10_makes_215 ?_
      refine J_iald hX dX10_makes_216 sk_194 ln_194 ?_
      refine J_callVV (As := [.int r203, .int (gI G203 194 (((5 : Int32) * v1) + v4).toNatClampNeg)]) (st := []) (b := 186) hX mv_X10_298 sk_186 rfl rfl rfl (Nat.le_of_ble_eq_true rfl) (Nat.le_of_ble_eq_true rfl) (Nat.le_of_ble_eq_true rfl) dX10_makes_217 (fun G1 h => ok_X10_mixes  h) fun G217 => ?_
      refine J_iconst hX dX10_makes_220 ci_0 ?_
      refine J_istore (lv' := [(5, .int (0 : Int32)), (0, .ref (AD Y 186)), (1, .int v1), (3, .int v3), (4, .int v4)]) hX dX10_makes_221 (Nat.le_of_ble_eq_true rfl) rfl ?_
      refine J_iconst hX dX10_makes_223 ci_0 ?_
      refine J_istore (lv' := [(6, .int (0 : Int32)), (5, .int (0 : Int32)), (0, .ref (AD Y 186)), (1, .int v1), (3, .int v3), (4, .int v4)]) hX dX10_makes_224 (Nat.le_of_ble_eq_true rfl) rfl ?_
      refine J_sub (lv' := [(0, .ref (AD Y 186)), (1, .int v1), (3, .int v3), (4, .int v4), (5, .int (0 : Int32)), (6, .int (0 : Int32))]) [2, 3, 4, 5, 1, 0] rfl ?_
      exact K226 v4 FU (0 : Int32) (0 : Int32) G217
  have K158 : ∀  (n : Nat) (v4 : Int32) (G : GM), J X Y 8 Q 158 [(0, .ref (AD Y 186)), (1, .int v1), (3, .int v3), (4, .int v4)] [] G (wl1 n (lp_X10_makes_158 v1 v2 v3) v4 G = some G') := by
    refine wl1_ind (R := fun v4 G φ => J X Y 8 Q 158 [(0, .ref (AD Y 186)), (1, .int v1), (3, .int v3), (4, .int v4)] [] G φ) (fun _ G φ h => J_no h) ?_
    intro kc158 hk158 v4 G
    unfold lp_X10_makes_158
    refine J_iload 3 hX dX10_makes_158 rfl ?_
    refine J_bipush hX dX10_makes_160 cb_45 ?_
    refine J_icmp_ge (tgt := 184) hX dX10_makes_162 rfl ?_ ?_
    · refine J_iconst hX dX10_makes_184 ci_0 ?_
      refine J_istore (lv' := [(4, .int (0 : Int32)), (0, .ref (AD Y 186)), (1, .int v1), (3, .int v3)]) hX dX10_makes_185 (Nat.le_of_ble_eq_true rfl) rfl ?_
      refine J_sub (lv' := [(0, .ref (AD Y 186)), (1, .int v1), (3, .int v3), (4, .int (0 : Int32))]) [1, 2, 3, 0] rfl ?_
      exact K187  FU (0 : Int32) G
    · refine J_aload_n 0 hX dX10_makes_165 fz0 rfl ?_
      refine J_getR (b := 206) hX dX10_makes_166 lf_X10_74 sk_186 rfl (by decide) rfl ?_
      refine J_bipush hX dX10_makes_169 cb_45 ?_
      refine J_iload_n 2 hX dX10_makes_171 fz3 rfl ?_
      refine J_imul hX dX10_makes_172 ?_
      refine J_iload 3 hX dX10_makes_173 rfl ?_
      refine J_iadd hX dX10_makes_175 ?_
      refine J_iconst hX dX10_makes_176 ci_0 ?_
      refine J_iast hX dX10_makes_177 sk_206 ln_206 fun G177 => ?_
      refine J_iinc (lv' := [(4, .int (v4 + (1 : Int32))), (0, .ref (AD Y 186)), (1, .int v1), (3, .int v3)]) 3 hX dX10_makes_178 rfl ci_1 (Nat.le_of_ble_eq_true rfl) rfl ?_
      refine J_goto (tgt := 158) hX dX10_makes_181 rfl ?_
      refine J_sub (lv' := [(0, .ref (AD Y 186)), (1, .int v1), (3, .int v3), (4, .int (v4 + (1 : Int32)))]) [1, 2, 3, 0] rfl ?_
      exact hk158 (v4 + (1 : Int32)) G177
  have K36 : ∀  (n : Nat) (v4 : Int32) (G : GM), J X Y 8 Q 36 [(0, .ref (AD Y 186)), (1, .int v1), (3, .int v3), (4, .int v4)] [] G (wl1 n (lp_X10_makes_36 v1 v2 v3) v4 G = some G') := by
    refine wl1_ind (R := fun v4 G φ => J X Y 8 Q 36 [(0, .ref (AD Y 186)), (1, .int v1), (3, .int v3), (4, .int v4)] [] G φ) (fun _ G φ h => J_no h) ?_
    intro kc36 hk36 v4 G
    unfold lp_X10_makes_36
    have K118 : ∀ (v4 : Int32) (n : Nat) (v5 : Int32) (G : GM), J X Y 8 Q 118 [(0, .ref (AD Y 186)), (1, .int v1), (3, .int v3), (4, .int v4), (5, .int v5)] [] G (wl1 n (lp_X10_makes_118 v1 v2 v3 v4 kc36) v5 G = some G') := by
      intro v4
      refine wl1_ind (R := fun v5 G φ => J X Y 8 Q 118 [(0, .ref (AD Y 186)), (1, .int v1), (3, .int v3), (4, .int v4), (5, .int v5)] [] G φ) (fun _ G φ h => J_no h) ?_
      intro kc118 hk118 v5 G
      unfold lp_X10_makes_118
      refine J_iload 4 hX dX10_makes_118 rfl ?_
      refine J_iconst hX dX10_makes_120 ci_3 ?_
      refine J_icmp_ge (tgt := 149) hX dX10_makes_121 rfl ?_ ?_
      · refine J_iinc (lv' := [(4, .int (v4 + (1 : Int32))), (0, .ref (AD Y 186)), (1, .int v1), (3, .int v3), (5, .int v5)]) 3 hX dX10_makes_149 rfl ci_1 (Nat.le_of_ble_eq_true rfl) rfl ?_
        refine J_goto (tgt := 36) hX dX10_makes_152 rfl ?_
        refine J_sub (lv' := [(0, .ref (AD Y 186)), (1, .int v1), (3, .int v3), (4, .int (v4 + (1 : Int32)))]) [1, 2, 3, 0] rfl ?_
        exact hk36 (v4 + (1 : Int32)) G
      · refine J_aload_n 0 hX dX10_makes_124 fz0 rfl ?_
        refine J_getR (b := 207) hX dX10_makes_125 lf_X10_77 sk_186 rfl (by decide) rfl ?_
        refine J_iconst hX dX10_makes_128 ci_3 ?_
        refine J_iload 3 hX dX10_makes_129 rfl ?_
        refine J_imul hX dX10_makes_131 ?_
        refine J_iload 4 hX dX10_makes_132 rfl ?_
        refine J_iadd hX dX10_makes_134 ?_
        refine J_aload_n 0 hX dX10_makes_135 fz0 rfl ?_
        refine J_getR (b := 204) hX dX10_makes_136 lf_X10_68 sk_186 rfl (by decide) rfl ?_
        refine J_iload 4 hX dX10_makes_139 rfl ?_
        refine J_iald hX dX10_makes_141 sk_204 ln_204 ?_
        refine J_iast hX dX10_makes_142 sk_207 ln_207 fun G142 => ?_
        refine J_iinc (lv' := [(5, .int (v5 + (1 : Int32))), (0, .ref (AD Y 186)), (1, .int v1), (3, .int v3), (4, .int v4)]) 4 hX dX10_makes_143 rfl ci_1 (Nat.le_of_ble_eq_true rfl) rfl ?_
        refine J_goto (tgt := 118) hX dX10_makes_146 rfl ?_
        refine J_sub (lv' := [(0, .ref (AD Y 186)), (1, .int v1), (3, .int v3), (4, .int v4), (5, .int (v5 + (1 : Int32)))]) [1, 2, 3, 4, 0] rfl ?_
        exact hk118 (v5 + (1 : Int32)) G142
    have K50 : ∀ (v4 : Int32) (n : Nat) (v5 : Int32) (G : GM), J X Y 8 Q 50 [(0, .ref (AD Y 186)), (1, .int v1), (3, .int v3), (4, .int v4), (5, .int v5)] [] G (wl1 n (lp_X10_makes_50 v1 v2 v3 v4 kc36) v5 G = some G') := by
      intro v4
      refine wl1_ind (R := fun v5 G φ => J X Y 8 Q 50 [(0, .ref (AD Y 186)), (1, .int v1), (3, .int v3), (4, .int v4), (5, .int v5)] [] G φ) (fun _ G φ h => J_no h) ?_
      intro kc50 hk50 v5 G
      unfold lp_X10_makes_50
      have K89 : ∀ (v5 : Int32) (s0 : Int32) (s1 : Int32) (G : GM), J X Y 8 Q 89 [(0, .ref (AD Y 186)), (1, .int v1), (3, .int v3), (4, .int v4), (5, .int v5)] [.int s0, .int s1, .ref (AD Y 202)] G (k_X10_makes_89 v1 v2 v3 v4 v5 s0 s1 kc36 kc50 G = some G') := by
        intro v5 s0 s1 G
        unfold k_X10_makes_89
        refine J_iast hX dX10_makes_89 sk_202 ln_202 fun G89 => ?_
        refine J_iinc (lv' := [(5, .int (v5 + (1 : Int32))), (0, .ref (AD Y 186)), (1, .int v1), (3, .int v3), (4, .int v4)]) 4 hX dX10_makes_90 rfl ci_1 (Nat.le_of_ble_eq_true rfl) rfl ?_
        refine J_goto (tgt := 50) hX dX10_makes_93 rfl ?_
        refine J_sub (lv' := [(0, .ref (AD Y 186)), (1, .int v1), (3, .int v3), (4, .int v4), (5, .int (v5 + (1 : Int32)))]) [1, 2, 3, 4, 0] rfl ?_
        exact hk50 (v5 + (1 : Int32)) G89
      refine J_iload 4 hX dX10_makes_50 rfl ?_
      refine J_iconst hX dX10_makes_52 ci_5 ?_
      refine J_icmp_ge (tgt := 96) hX dX10_makes_53 rfl ?_ ?_
      · refine J_aload_n 0 hX dX10_makes_96 fz0 rfl ?_
        refine J_iload_n 1 hX dX10_makes_97 fz1 rfl ?_
        refine J_iconst hX dX10_makes_98 cim_1 ?_
        refine J_callVV (As := [.int v1, .int (-1 : Int32)]) (st := []) (b := 186) hX mv_X10_304 sk_186 rfl rfl rfl (Nat.le_of_ble_eq_true rfl) (Nat.le_of_ble_eq_true rfl) (Nat.le_of_ble_eq_true rfl) dX10_makes_99 (fun G1 h => ok_X10_layoutOf  h) fun G99 => ?_
        refine J_aload_n 0 hX dX10_makes_102 fz0 rfl ?_
        refine J_iload_n 1 hX dX10_makes_103 fz1 rfl ?_
        refine J_aload_n 0 hX dX10_makes_104 fz0 rfl ?_
        refine J_aload_n 0 hX dX10_makes_105 fz0 rfl ?_
        refine J_getI hX dX10_makes_106 lf_X10_270 sk_186 rfl ?_
        refine J_callVI (As := [.int (gI G99 186 31)]) (st := [.int v1, .ref (AD Y 186)]) (b := 186) hX mv_X10_295 sk_186 rfl rfl rfl (Nat.le_of_ble_eq_true rfl) (Nat.le_of_ble_eq_true rfl) (Nat.le_of_ble_eq_true rfl) dX10_makes_109 (fun r G1 h => ok_X10_drawn  h) fun r109 G109 => ?_
        refine J_callVV (As := [.int v1, .int r109]) (st := []) (b := 186) hX mv_X10_304 sk_186 rfl rfl rfl (Nat.le_of_ble_eq_true rfl) (Nat.le_of_ble_eq_true rfl) (Nat.le_of_ble_eq_true rfl) dX10_makes_112 (fun G1 h => ok_X10_layoutOf  h) fun G112 => ?_
        refine J_iconst hX dX10_makes_115 ci_0 ?_
        refine J_istore (lv' := [(5, .int (0 : Int32)), (0, .ref (AD Y 186)), (1, .int v1), (3, .int v3), (4, .int v4)]) hX dX10_makes_116 (Nat.le_of_ble_eq_true rfl) rfl ?_
        refine J_sub (lv' := [(0, .ref (AD Y 186)), (1, .int v1), (3, .int v3), (4, .int v4), (5, .int (0 : Int32))]) [1, 2, 3, 4, 0] rfl ?_
        exact K118 v4 FU (0 : Int32) G112
      · refine J_aload_n 0 hX dX10_makes_56 fz0 rfl ?_
        refine J_getR (b := 202) hX dX10_makes_57 lf_X10_62 sk_186 rfl (by decide) rfl ?_
        refine J_iload 4 hX dX10_makes_60 rfl ?_
        refine J_iload 4 hX dX10_makes_62 rfl ?_
        refine J_aload_n 0 hX dX10_makes_64 fz0 rfl ?_
        refine J_iload_n 1 hX dX10_makes_65 fz1 rfl ?_
        refine J_iconst hX dX10_makes_66 ci_3 ?_
        refine J_callVI (As := [.int v1, .int (3 : Int32)]) (st := [.int v5, .int v5, .ref (AD Y 202)]) (b := 186) hX mv_X10_177 sk_186 rfl rfl rfl (Nat.le_of_ble_eq_true rfl) (Nat.le_of_ble_eq_true rfl) (Nat.le_of_ble_eq_true rfl) dX10_makes_67 (fun r G1 h => ok_X10_of  h) fun r67 G67 => ?_
        refine J_icmp_ge (tgt := 88) hX dX10_makes_70 rfl ?_ ?_
        · refine J_iconst hX dX10_makes_88 ci_0 ?_
          exact K89 v5 (0 : Int32) v5 G67
        · refine J_aload_n 0 hX dX10_makes_73 fz0 rfl ?_
          refine J_getR (b := 200) hX dX10_makes_74 lf_X10_56 sk_186 rfl (by decide) rfl ?_
          refine J_iconst hX dX10_makes_77 ci_5 ?_
          refine J_iload 3 hX dX10_makes_78 rfl ?_
          refine J_imul hX dX10_makes_80 ?_
          refine J_iload 4 hX dX10_makes_81 rfl ?_
          refine J_iadd hX dX10_makes_83 ?_
          refine J_iald hX dX10_makes_84 sk_200 ln_200 ?_
          refine J_goto (tgt := 89) hX dX10_makes_85 rfl ?_
          exact K89 v5 (gI G67 200 (((5 : Int32) * v4) + v5).toNatClampNeg) v5 G67
    refine J_iload 3 hX dX10_makes_36 rfl ?_
    refine J_aload_n 0 hX dX10_makes_38 fz0 rfl ?_
    refine J_iload_n 1 hX dX10_makes_39 fz1 rfl ?_
    refine J_iconst hX dX10_makes_40 ci_0 ?_
    refine J_callVI (As := [.int v1, .int (0 : Int32)]) (st := [.int v4]) (b := 186) hX mv_X10_177 sk_186 rfl rfl rfl (Nat.le_of_ble_eq_true rfl) (Nat.le_of_ble_eq_true rfl) (Nat.le_of_ble_eq_true rfl) dX10_makes_41 (fun r G1 h => ok_X10_of  h) fun r41 G41 => ?_
    refine J_icmp_ge (tgt := 155) hX dX10_makes_44 rfl ?_ ?_
    · refine J_iconst hX dX10_makes_155 ci_0 ?_
      refine J_istore (lv' := [(4, .int (0 : Int32)), (0, .ref (AD Y 186)), (1, .int v1), (3, .int v3)]) hX dX10_makes_156 (Nat.le_of_ble_eq_true rfl) rfl ?_
      refine J_sub (lv' := [(0, .ref (AD Y 186)), (1, .int v1), (3, .int v3), (4, .int (0 : Int32))]) [1, 2, 3, 0] rfl ?_
      exact K158  FU (0 : Int32) G41
    · refine J_iconst hX dX10_makes_47 ci_0 ?_
      refine J_istore (lv' := [(5, .int (0 : Int32)), (0, .ref (AD Y 186)), (1, .int v1), (3, .int v3), (4, .int v4)]) hX dX10_makes_48 (Nat.le_of_ble_eq_true rfl) rfl ?_
      refine J_sub (lv' := [(0, .ref (AD Y 186)), (1, .int v1), (3, .int v3), (4, .int v4), (5, .int (0 : Int32))]) [1, 2, 3, 4, 0] rfl ?_
      exact K50 v4 FU (0 : Int32) G41
  unfold f_X10_makes
  refine J_aload_n 0 hX dX10_makes_0 fz0 rfl ?_
  refine J_iload_n 2 hX dX10_makes_1 fz2 rfl ?_
  refine J_i2l hX dX10_makes_2 ?_
  refine J_putJ hX dX10_makes_3 lf_X10_284 lpt_9_33 sk_186 rfl fun G3 => ?_
  refine J_aload_n 0 hX dX10_makes_6 fz0 rfl ?_
  refine J_iload_n 1 hX dX10_makes_7 fz1 rfl ?_
  refine J_iconst hX dX10_makes_8 cim_1 ?_
  refine J_callVV (As := [.int v1, .int (-1 : Int32)]) (st := []) (b := 186) hX mv_X10_206 sk_186 rfl rfl rfl (Nat.le_of_ble_eq_true rfl) (Nat.le_of_ble_eq_true rfl) (Nat.le_of_ble_eq_true rfl) dX10_makes_9 (fun G1 h => ok_X10_planOf  h) fun G9 => ?_
  refine J_aload_n 0 hX dX10_makes_12 fz0 rfl ?_
  refine J_aload_n 0 hX dX10_makes_13 fz0 rfl ?_
  refine J_aload_n 0 hX dX10_makes_14 fz0 rfl ?_
  refine J_getI hX dX10_makes_15 lf_X10_210 sk_186 rfl ?_
  refine J_callVI (As := [.int (gI G9 186 26)]) (st := [.ref (AD Y 186)]) (b := 186) hX mv_X10_295 sk_186 rfl rfl rfl (Nat.le_of_ble_eq_true rfl) (Nat.le_of_ble_eq_true rfl) (Nat.le_of_ble_eq_true rfl) dX10_makes_18 (fun r G1 h => ok_X10_drawn  h) fun r18 G18 => ?_
  refine J_putI hX dX10_makes_21 lf_X10_301 lpt_9_36 sk_186 rfl fun G21 => ?_
  refine J_aload_n 0 hX dX10_makes_24 fz0 rfl ?_
  refine J_iload_n 1 hX dX10_makes_25 fz1 rfl ?_
  refine J_aload_n 0 hX dX10_makes_26 fz0 rfl ?_
  refine J_getI hX dX10_makes_27 lf_X10_301 sk_186 rfl ?_
  refine J_callVV (As := [.int v1, .int (gI G21 186 36)]) (st := []) (b := 186) hX mv_X10_206 sk_186 rfl rfl rfl (Nat.le_of_ble_eq_true rfl) (Nat.le_of_ble_eq_true rfl) (Nat.le_of_ble_eq_true rfl) dX10_makes_30 (fun G1 h => ok_X10_planOf  h) fun G30 => ?_
  refine J_iconst hX dX10_makes_33 ci_0 ?_
  refine J_istore (lv' := [(4, .int (0 : Int32)), (0, .ref (AD Y 186)), (1, .int v1), (2, .int v2), (3, .int v3)]) hX dX10_makes_34 (Nat.le_of_ble_eq_true rfl) rfl ?_
  refine J_sub (lv' := [(0, .ref (AD Y 186)), (1, .int v1), (3, .int v3), (4, .int (0 : Int32))]) [1, 2, 4, 0] rfl ?_
  exact K36  FU (0 : Int32) G30
set_option maxHeartbeats 4000000 in
set_option maxRecDepth 100000 in
theorem ok_X10_areSame {Y : DX} {v1 : Int32} {v2 : Int32} {v3 : Int32}  {G : GM} {r : Int32} {G' : GM} (hf : f_X10_areSame v1 v2 v3 G = some (r, G')) : OkI Y 30 M_X10_areSame [.ref (AD Y 186), .int v1, .int v2, .int v3] G r G' := by
  refine okZ_of (lv0 := [(0, .ref (AD Y 186)), (1, .int v1), (2, .int v2), (3, .int v3)]) (by decide +kernel) rfl (Nat.le_of_ble_eq_true rfl) ?_
  intro X Q hX hR
  have hX : CXok X Y RX10 cX10_areSame 5 _ := hX
  revert hf
  show J X Y 5 Q 0 [(0, .ref (AD Y 186)), (1, .int v1), (2, .int v2), (3, .int v3)] [] G (f_X10_areSame v1 v2 v3 G = some (r, G'))
  have K17 : ∀  (n : Nat) (v4 : Int32) (G : GM), J X Y 5 Q 17 [(0, .ref (AD Y 186)), (4, .int v4)] [] G (wl1 n (lp_X10_areSame_17 v1 v2 v3) v4 G = some (r, G')) := by
    refine wl1_ind (R := fun v4 G φ => J X Y 5 Q 17 [(0, .ref (AD Y 186)), (4, .int v4)] [] G φ) (fun _ G φ h => J_no h) ?_
    intro kc17 hk17 v4 G
    unfold lp_X10_areSame_17
    refine J_iload 1 hX dX10_areSame_17 rfl ?_
    refine J_bipush hX dX10_areSame_19 cb_45 ?_
    refine J_icmp_ge (tgt := 52) hX dX10_areSame_21 rfl ?_ ?_
    · refine J_iconst hX dX10_areSame_52 ci_1 ?_
      exact J_retZ hR (by decide) dX10_areSame_53
    · refine J_aload_n 0 hX dX10_areSame_24 fz0 rfl ?_
      refine J_getR (b := 206) hX dX10_areSame_25 lf_X10_74 sk_186 rfl (by decide) rfl ?_
      refine J_iload 1 hX dX10_areSame_28 rfl ?_
      refine J_iald hX dX10_areSame_30 sk_206 ln_206 ?_
      refine J_aload_n 0 hX dX10_areSame_31 fz0 rfl ?_
      refine J_getR (b := 206) hX dX10_areSame_32 lf_X10_74 sk_186 rfl (by decide) rfl ?_
      refine J_bipush hX dX10_areSame_35 cb_45 ?_
      refine J_iload 1 hX dX10_areSame_37 rfl ?_
      refine J_iadd hX dX10_areSame_39 ?_
      refine J_iald hX dX10_areSame_40 sk_206 ln_206 ?_
      refine J_icmp_eq (tgt := 46) hX dX10_areSame_41 rfl ?_ ?_
      · refine J_iinc (lv' := [(4, .int (v4 + (1 : Int32))), (0, .ref (AD Y 186))]) 1 hX dX10_areSame_46 rfl ci_1 (Nat.le_of_ble_eq_true rfl) rfl ?_
        refine J_goto (tgt := 17) hX dX10_areSame_49 rfl ?_
        refine J_sub (lv' := [(0, .ref (AD Y 186)), (4, .int (v4 + (1 : Int32)))]) [1, 0] rfl ?_
        exact hk17 (v4 + (1 : Int32)) G
      · refine J_iconst hX dX10_areSame_44 ci_0 ?_
        exact J_retZ hR (by decide) dX10_areSame_45
  unfold f_X10_areSame
  refine J_aload_n 0 hX dX10_areSame_0 fz0 rfl ?_
  refine J_iload_n 1 hX dX10_areSame_1 fz1 rfl ?_
  refine J_iload_n 2 hX dX10_areSame_2 fz2 rfl ?_
  refine J_iconst hX dX10_areSame_3 ci_0 ?_
  refine J_callVV (As := [.int v1, .int v2, .int (0 : Int32)]) (st := []) (b := 186) hX mv_X10_317 sk_186 rfl rfl rfl (Nat.le_of_ble_eq_true rfl) (Nat.le_of_ble_eq_true rfl) (Nat.le_of_ble_eq_true rfl) dX10_areSame_4 (fun G1 h => ok_X10_makes  h) fun G4 => ?_
  refine J_aload_n 0 hX dX10_areSame_7 fz0 rfl ?_
  refine J_iload_n 1 hX dX10_areSame_8 fz1 rfl ?_
  refine J_iload_n 3 hX dX10_areSame_9 fz3 rfl ?_
  refine J_iconst hX dX10_areSame_10 ci_1 ?_
  refine J_callVV (As := [.int v1, .int v3, .int (1 : Int32)]) (st := []) (b := 186) hX mv_X10_317 sk_186 rfl rfl rfl (Nat.le_of_ble_eq_true rfl) (Nat.le_of_ble_eq_true rfl) (Nat.le_of_ble_eq_true rfl) dX10_areSame_11 (fun G1 h => ok_X10_makes  h) fun G11 => ?_
  refine J_iconst hX dX10_areSame_14 ci_0 ?_
  refine J_istore (lv' := [(4, .int (0 : Int32)), (0, .ref (AD Y 186)), (1, .int v1), (2, .int v2), (3, .int v3)]) hX dX10_areSame_15 (Nat.le_of_ble_eq_true rfl) rfl ?_
  refine J_sub (lv' := [(0, .ref (AD Y 186)), (4, .int (0 : Int32))]) [1, 0] rfl ?_
  exact K17  FU (0 : Int32) G11
set_option maxHeartbeats 4000000 in
set_option maxRecDepth 100000 in
theorem ok_X10_isSoldIn {Y : DX} {v1 : Int32} {v2 : Int32}  {G : GM} {r : Int32} {G' : GM} (hf : f_X10_isSoldIn v1 v2 G = some (r, G')) : OkI Y 31 M_X10_isSoldIn [.ref (AD Y 186), .int v1, .int v2] G r G' := by
  refine okZ_of (lv0 := [(0, .ref (AD Y 186)), (1, .int v1), (2, .int v2)]) (by decide +kernel) rfl (Nat.le_of_ble_eq_true rfl) ?_
  intro X Q hX hR
  have hX : CXok X Y RX10 cX10_isSoldIn 4 _ := hX
  revert hf
  show J X Y 4 Q 0 [(0, .ref (AD Y 186)), (1, .int v1), (2, .int v2)] [] G (f_X10_isSoldIn v1 v2 G = some (r, G'))
  have K2 : ∀  (n : Nat) (v3 : Int32) (G : GM), J X Y 4 Q 2 [(0, .ref (AD Y 186)), (1, .int v1), (2, .int v2), (3, .int v3)] [] G (wl1 n (lp_X10_isSoldIn_2 v1 v2) v3 G = some (r, G')) := by
    refine wl1_ind (R := fun v3 G φ => J X Y 4 Q 2 [(0, .ref (AD Y 186)), (1, .int v1), (2, .int v2), (3, .int v3)] [] G φ) (fun _ G φ h => J_no h) ?_
    intro kc2 hk2 v3 G
    unfold lp_X10_isSoldIn_2
    refine J_iload_n 3 hX dX10_isSoldIn_2 fz3 rfl ?_
    refine J_aload_n 0 hX dX10_isSoldIn_3 fz0 rfl ?_
    refine J_iload_n 1 hX dX10_isSoldIn_4 fz1 rfl ?_
    refine J_iconst hX dX10_isSoldIn_5 ci_4 ?_
    refine J_callVI (As := [.int v1, .int (4 : Int32)]) (st := [.int v3]) (b := 186) hX mv_X10_177 sk_186 rfl rfl rfl (Nat.le_of_ble_eq_true rfl) (Nat.le_of_ble_eq_true rfl) (Nat.le_of_ble_eq_true rfl) dX10_isSoldIn_6 (fun r G1 h => ok_X10_of  h) fun r6 G6 => ?_
    refine J_icmp_ge (tgt := 40) hX dX10_isSoldIn_9 rfl ?_ ?_
    · refine J_iconst hX dX10_isSoldIn_40 ci_0 ?_
      exact J_retZ hR (by decide) dX10_isSoldIn_41
    · refine J_aload_n 0 hX dX10_isSoldIn_12 fz0 rfl ?_
      refine J_iload_n 1 hX dX10_isSoldIn_13 fz1 rfl ?_
      refine J_aload_n 0 hX dX10_isSoldIn_14 fz0 rfl ?_
      refine J_getR (b := 196) hX dX10_isSoldIn_15 lf_X10_43 sk_186 rfl (by decide) rfl ?_
      refine J_bipush hX dX10_isSoldIn_18 cb_8 ?_
      refine J_iload_n 1 hX dX10_isSoldIn_20 fz1 rfl ?_
      refine J_imul hX dX10_isSoldIn_21 ?_
      refine J_iload_n 3 hX dX10_isSoldIn_22 fz3 rfl ?_
      refine J_iadd hX dX10_isSoldIn_23 ?_
      refine J_iald hX dX10_isSoldIn_24 sk_196 ln_196 ?_
      refine J_iload_n 2 hX dX10_isSoldIn_25 fz2 rfl ?_
      refine J_callVI (As := [.int v1, .int (gI G6 196 (((8 : Int32) * v1) + v3).toNatClampNeg), .int v2]) (st := []) (b := 186) hX mv_X10_321 sk_186 rfl rfl rfl (Nat.le_of_ble_eq_true rfl) (Nat.le_of_ble_eq_true rfl) (Nat.le_of_ble_eq_true rfl) dX10_isSoldIn_26 (fun r G1 h => ok_X10_areSame  h) fun r26 G26 => ?_
      refine J_if_eq (tgt := 34) hX dX10_isSoldIn_29 rfl ?_ ?_
      · refine J_iinc (lv' := [(3, .int (v3 + (1 : Int32))), (0, .ref (AD Y 186)), (1, .int v1), (2, .int v2)]) 3 hX dX10_isSoldIn_34 rfl ci_1 (Nat.le_of_ble_eq_true rfl) rfl ?_
        refine J_goto (tgt := 2) hX dX10_isSoldIn_37 rfl ?_
        refine J_sub (lv' := [(0, .ref (AD Y 186)), (1, .int v1), (2, .int v2), (3, .int (v3 + (1 : Int32)))]) [1, 2, 3, 0] rfl ?_
        exact hk2 (v3 + (1 : Int32)) G26
      · refine J_iconst hX dX10_isSoldIn_32 ci_1 ?_
        exact J_retZ hR (by decide) dX10_isSoldIn_33
  unfold f_X10_isSoldIn
  refine J_iconst hX dX10_isSoldIn_0 ci_0 ?_
  refine J_istore_n (lv' := [(3, .int (0 : Int32)), (0, .ref (AD Y 186)), (1, .int v1), (2, .int v2)]) hX dX10_isSoldIn_1 fz3 (Nat.le_of_ble_eq_true rfl) rfl ?_
  refine J_sub (lv' := [(0, .ref (AD Y 186)), (1, .int v1), (2, .int v2), (3, .int (0 : Int32))]) [1, 2, 3, 0] rfl ?_
  exact K2  FU (0 : Int32) G
set_option maxHeartbeats 4000000 in
set_option maxRecDepth 100000 in
theorem ok_X10_line {Y : DX}   {G : GM} {G' : GM} (hf : f_X10_line  G = some G') : OkV Y 32 M_X10_line [.ref (AD Y 186)] G G' := by
  refine okV_of (lv0 := [(0, .ref (AD Y 186))]) (by decide +kernel) rfl (Nat.le_of_ble_eq_true rfl) ?_
  intro X Q hX hR
  have hX : CXok X Y RX10 cX10_line 4 _ := hX
  revert hf
  show J X Y 4 Q 0 [(0, .ref (AD Y 186))] [] G (f_X10_line  G = some G')
  have K189 : ∀ (v2 : Int32) (G : GM), J X Y 4 Q 189 [(0, .ref (AD Y 186)), (2, .int v2)] [] G (k_X10_line_189 v2 G = some G') := by
    intro v2 G
    unfold k_X10_line_189
    refine J_aload_n 0 hX dX10_line_189 fz0 rfl ?_
    refine J_getI hX dX10_line_190 lf_X10_147 sk_186 rfl ?_
    refine J_if_eq (tgt := 197) hX dX10_line_193 rfl ?_ ?_
    · refine J_aload_n 0 hX dX10_line_197 fz0 rfl ?_
      refine J_callVV (As := []) (st := []) (b := 186) hX mv_X10_157 sk_186 rfl rfl rfl (Nat.le_of_ble_eq_true rfl) (Nat.le_of_ble_eq_true rfl) (Nat.le_of_ble_eq_true rfl) dX10_line_198 (fun G1 h => ok_X10_next  h) fun G198 => ?_
      refine J_aload_n 0 hX dX10_line_201 fz0 rfl ?_
      refine J_getR (b := 195) hX dX10_line_202 lf_X10_40 sk_186 rfl (by decide) rfl ?_
      refine J_bipush hX dX10_line_205 cb_12 ?_
      refine J_iload_n 1 hX dX10_line_207 fz2 rfl ?_
      refine J_iadd hX dX10_line_208 ?_
      refine J_aload_n 0 hX dX10_line_209 fz0 rfl ?_
      refine J_iconst hX dX10_line_210 ci_0 ?_
      refine J_sipush hX dX10_line_211 cs_9999 ?_
      refine J_callVI (As := [.int (0 : Int32), .int (9999 : Int32)]) (st := [.int ((12 : Int32) + v2), .ref (AD Y 195)]) (b := 186) hX mv_X10_170 sk_186 rfl rfl rfl (Nat.le_of_ble_eq_true rfl) (Nat.le_of_ble_eq_true rfl) (Nat.le_of_ble_eq_true rfl) dX10_line_214 (fun r G1 h => ok_X10_number  h) fun r214 G214 => ?_
      refine J_iast hX dX10_line_217 sk_195 ln_195 fun G217 => ?_
      refine J_goto (tgt := 294) hX dX10_line_218 rfl ?_
      exact J_retV hR dX10_line_294
    · exact J_retV hR dX10_line_196
  have K178 : ∀ (s0 : Int32) (G : GM), J X Y 4 Q 178 [(0, .ref (AD Y 186))] [.int s0] G (k_X10_line_178 s0 G = some G') := by
    intro s0 G
    unfold k_X10_line_178
    refine J_istore_n (lv' := [(2, .int s0), (0, .ref (AD Y 186))]) hX dX10_line_178 fz2 (Nat.le_of_ble_eq_true rfl) rfl ?_
    refine J_iload_n 0 hX dX10_line_179 fz2 rfl ?_
    refine J_iconst hX dX10_line_180 cim_1 ?_
    refine J_icmp_ne (tgt := 189) hX dX10_line_181 rfl ?_ ?_
    · refine J_sub (lv' := [(0, .ref (AD Y 186)), (2, .int s0)]) [1, 0] rfl ?_
      exact K189 s0 G
    · refine J_aload_n 1 hX dX10_line_184 fz0 rfl ?_
      refine J_iconst hX dX10_line_185 ci_1 ?_
      refine J_callVV (As := [.int (1 : Int32)]) (st := []) (b := 186) hX mv_X10_163 sk_186 rfl rfl rfl (Nat.le_of_ble_eq_true rfl) (Nat.le_of_ble_eq_true rfl) (Nat.le_of_ble_eq_true rfl) dX10_line_186 (fun G1 h => ok_X10_fails  h) fun G186 => ?_
      refine J_sub (lv' := [(0, .ref (AD Y 186)), (2, .int s0)]) [1, 0] rfl ?_
      exact K189 s0 G186
  have K79 : ∀ (G : GM), J X Y 4 Q 79 [(0, .ref (AD Y 186))] [] G (k_X10_line_79  G = some G') := by
    intro G
    unfold k_X10_line_79
    refine J_aload_n 0 hX dX10_line_79 fz0 rfl ?_
    refine J_iconst hX dX10_line_80 ci_0 ?_
    refine J_sipush hX dX10_line_81 cs_9999 ?_
    refine J_callVI (As := [.int (0 : Int32), .int (9999 : Int32)]) (st := []) (b := 186) hX mv_X10_170 sk_186 rfl rfl rfl (Nat.le_of_ble_eq_true rfl) (Nat.le_of_ble_eq_true rfl) (Nat.le_of_ble_eq_true rfl) dX10_line_84 (fun r G1 h => ok_X10_number  h) fun r84 G84 => ?_
    refine J_istore_n (lv' := [(2, .int r84), (0, .ref (AD Y 186))]) hX dX10_line_87 fz2 (Nat.le_of_ble_eq_true rfl) rfl ?_
    refine J_aload_n 1 hX dX10_line_88 fz0 rfl ?_
    refine J_getI hX dX10_line_89 lf_X10_147 sk_186 rfl ?_
    refine J_if_eq (tgt := 96) hX dX10_line_92 rfl ?_ ?_
    · refine J_aload_n 1 hX dX10_line_96 fz0 rfl ?_
      refine J_getR (b := 196) hX dX10_line_97 lf_X10_43 sk_186 rfl (by decide) rfl ?_
      refine J_bipush hX dX10_line_100 cb_32 ?_
      refine J_aload_n 1 hX dX10_line_102 fz0 rfl ?_
      refine J_iconst hX dX10_line_103 ci_4 ?_
      refine J_iconst hX dX10_line_104 ci_4 ?_
      refine J_callVI (As := [.int (4 : Int32), .int (4 : Int32)]) (st := [.int (32 : Int32), .ref (AD Y 196)]) (b := 186) hX mv_X10_177 sk_186 rfl rfl rfl (Nat.le_of_ble_eq_true rfl) (Nat.le_of_ble_eq_true rfl) (Nat.le_of_ble_eq_true rfl) dX10_line_105 (fun r G1 h => ok_X10_of  h) fun r105 G105 => ?_
      refine J_iadd hX dX10_line_108 ?_
      refine J_iload_n 0 hX dX10_line_109 fz2 rfl ?_
      refine J_iast hX dX10_line_110 sk_196 ln_196 fun G110 => ?_
      refine J_aload_n 1 hX dX10_line_111 fz0 rfl ?_
      refine J_getR (b := 193) hX dX10_line_112 lf_X10_34 sk_186 rfl (by decide) rfl ?_
      refine J_bipush hX dX10_line_115 cb_36 ?_
      refine J_dup2 hX dX10_line_117 rfl rfl ?_
      refine J_iald hX dX10_line_118 sk_193 ln_193 ?_
      refine J_iconst hX dX10_line_119 ci_1 ?_
      refine J_iadd hX dX10_line_120 ?_
      refine J_iast hX dX10_line_121 sk_193 ln_193 fun G121 => ?_
      refine J_goto (tgt := 294) hX dX10_line_122 rfl ?_
      exact J_retV hR dX10_line_294
    · exact J_retV hR dX10_line_95
  have K28 : ∀ (v1 : Int32) (G : GM), J X Y 4 Q 28 [(0, .ref (AD Y 186)), (1, .int v1)] [] G (k_X10_line_28 v1 G = some G') := by
    intro v1 G
    unfold k_X10_line_28
    refine J_aload_n 0 hX dX10_line_28 fz0 rfl ?_
    refine J_getI hX dX10_line_29 lf_X10_147 sk_186 rfl ?_
    refine J_if_eq (tgt := 36) hX dX10_line_32 rfl ?_ ?_
    · refine J_iload_n 1 hX dX10_line_36 fz1 rfl ?_
      refine J_if_eq (tgt := 125) hX dX10_line_37 rfl ?_ ?_
      · refine J_aload_n 0 hX dX10_line_125 fz0 rfl ?_
        refine J_ldc2 hX dX10_line_126 ll_X10_219 ?_
        refine J_callVI (As := [.long (8864618 : Int64)]) (st := []) (b := 186) hX mv_X10_160 sk_186 rfl rfl rfl (Nat.le_of_ble_eq_true rfl) (Nat.le_of_ble_eq_true rfl) (Nat.le_of_ble_eq_true rfl) dX10_line_129 (fun r G1 h => ok_X10_takes  h) fun r129 G129 => ?_
        refine J_if_eq (tgt := 221) hX dX10_line_132 rfl ?_ ?_
        · refine J_aload_n 0 hX dX10_line_221 fz0 rfl ?_
          refine J_ldc2 hX dX10_line_222 ll_X10_227 ?_
          refine J_callVI (As := [.long (3890376722 : Int64)]) (st := []) (b := 186) hX mv_X10_160 sk_186 rfl rfl rfl (Nat.le_of_ble_eq_true rfl) (Nat.le_of_ble_eq_true rfl) (Nat.le_of_ble_eq_true rfl) dX10_line_225 (fun r G1 h => ok_X10_takes  h) fun r225 G225 => ?_
          refine J_if_eq (tgt := 273) hX dX10_line_228 rfl ?_ ?_
          · refine J_aload_n 0 hX dX10_line_273 fz0 rfl ?_
            refine J_ldc2 hX dX10_line_274 ll_X10_231 ?_
            refine J_callVV (As := [.long (43823259 : Int64)]) (st := []) (b := 186) hX mv_X10_166 sk_186 rfl rfl rfl (Nat.le_of_ble_eq_true rfl) (Nat.le_of_ble_eq_true rfl) (Nat.le_of_ble_eq_true rfl) dX10_line_277 (fun G1 h => ok_X10_asks  h) fun G277 => ?_
            refine J_aload_n 0 hX dX10_line_280 fz0 rfl ?_
            refine J_getR (b := 193) hX dX10_line_281 lf_X10_34 sk_186 rfl (by decide) rfl ?_
            refine J_bipush hX dX10_line_284 cb_39 ?_
            refine J_aload_n 0 hX dX10_line_286 fz0 rfl ?_
            refine J_iconst hX dX10_line_287 ci_0 ?_
            refine J_ldc hX dX10_line_288 lc_X10_233 ?_
            refine J_callVI (As := [.int (0 : Int32), .int (99999 : Int32)]) (st := [.int (39 : Int32), .ref (AD Y 193)]) (b := 186) hX mv_X10_170 sk_186 rfl rfl rfl (Nat.le_of_ble_eq_true rfl) (Nat.le_of_ble_eq_true rfl) (Nat.le_of_ble_eq_true rfl) dX10_line_290 (fun r G1 h => ok_X10_number  h) fun r290 G290 => ?_
            refine J_iast hX dX10_line_293 sk_193 ln_193 fun G293 => ?_
            exact J_retV hR dX10_line_294
          · refine J_aload_n 0 hX dX10_line_231 fz0 rfl ?_
            refine J_iconst hX dX10_line_232 ci_0 ?_
            refine J_sipush hX dX10_line_233 cs_9999 ?_
            refine J_callVI (As := [.int (0 : Int32), .int (9999 : Int32)]) (st := []) (b := 186) hX mv_X10_170 sk_186 rfl rfl rfl (Nat.le_of_ble_eq_true rfl) (Nat.le_of_ble_eq_true rfl) (Nat.le_of_ble_eq_true rfl) dX10_line_236 (fun r G1 h => ok_X10_number  h) fun r236 G236 => ?_
            refine J_istore_n (lv' := [(2, .int r236), (0, .ref (AD Y 186)), (1, .int v1)]) hX dX10_line_239 fz2 (Nat.le_of_ble_eq_true rfl) rfl ?_
            refine J_aload_n 1 hX dX10_line_240 fz0 rfl ?_
            refine J_ldc2 hX dX10_line_241 ll_X10_229 ?_
            refine J_iconst hX dX10_line_244 ci_1 ?_
            refine J_aload_n 1 hX dX10_line_245 fz0 rfl ?_
            refine J_iconst hX dX10_line_246 ci_4 ?_
            refine J_callVI (As := [.int (4 : Int32)]) (st := [.int (1 : Int32), .long (79 : Int64), .ref (AD Y 186)]) (b := 186) hX mv_X10_202 sk_186 rfl rfl rfl (Nat.le_of_ble_eq_true rfl) (Nat.le_of_ble_eq_true rfl) (Nat.le_of_ble_eq_true rfl) dX10_line_247 (fun r G1 h => ok_X10_numbersOf  h) fun r247 G247 => ?_
            refine J_callVI (As := [.long (79 : Int64), .int (1 : Int32), .int r247]) (st := []) (b := 186) hX mv_X10_184 sk_186 rfl rfl rfl (Nat.le_of_ble_eq_true rfl) (Nat.le_of_ble_eq_true rfl) (Nat.le_of_ble_eq_true rfl) dX10_line_250 (fun r G1 h => ok_X10_number_  h) fun r250 G250 => ?_
            refine J_istore_n (lv' := [(3, .int r250), (2, .int r236), (0, .ref (AD Y 186)), (1, .int v1)]) hX dX10_line_253 fz3 (Nat.le_of_ble_eq_true rfl) rfl ?_
            refine J_aload_n 2 hX dX10_line_254 fz0 rfl ?_
            refine J_getR (b := 193) hX dX10_line_255 lf_X10_34 sk_186 rfl (by decide) rfl ?_
            refine J_bipush hX dX10_line_258 cb_37 ?_
            refine J_iload_n 1 hX dX10_line_260 fz2 rfl ?_
            refine J_iast hX dX10_line_261 sk_193 ln_193 fun G261 => ?_
            refine J_aload_n 2 hX dX10_line_262 fz0 rfl ?_
            refine J_getR (b := 193) hX dX10_line_263 lf_X10_34 sk_186 rfl (by decide) rfl ?_
            refine J_bipush hX dX10_line_266 cb_38 ?_
            refine J_iload_n 0 hX dX10_line_268 fz3 rfl ?_
            refine J_iast hX dX10_line_269 sk_193 ln_193 fun G269 => ?_
            refine J_goto (tgt := 294) hX dX10_line_270 rfl ?_
            exact J_retV hR dX10_line_294
        · refine J_aload_n 0 hX dX10_line_135 fz0 rfl ?_
          refine J_ldc2 hX dX10_line_136 ll_X10_221 ?_
          refine J_callVI (As := [.long (13550 : Int64)]) (st := []) (b := 186) hX mv_X10_153 sk_186 rfl rfl rfl (Nat.le_of_ble_eq_true rfl) (Nat.le_of_ble_eq_true rfl) (Nat.le_of_ble_eq_true rfl) dX10_line_139 (fun r G1 h => ok_X10_is  h) fun r139 G139 => ?_
          refine J_if_eq (tgt := 149) hX dX10_line_142 rfl ?_ ?_
          · refine J_aload_n 0 hX dX10_line_149 fz0 rfl ?_
            refine J_ldc2 hX dX10_line_150 ll_X10_223 ?_
            refine J_callVI (As := [.long (15216 : Int64)]) (st := []) (b := 186) hX mv_X10_153 sk_186 rfl rfl rfl (Nat.le_of_ble_eq_true rfl) (Nat.le_of_ble_eq_true rfl) (Nat.le_of_ble_eq_true rfl) dX10_line_153 (fun r G1 h => ok_X10_is  h) fun r153 G153 => ?_
            refine J_if_eq (tgt := 163) hX dX10_line_156 rfl ?_ ?_
            · refine J_aload_n 0 hX dX10_line_163 fz0 rfl ?_
              refine J_ldc2 hX dX10_line_164 ll_X10_225 ?_
              refine J_callVI (As := [.long (4562600 : Int64)]) (st := []) (b := 186) hX mv_X10_153 sk_186 rfl rfl rfl (Nat.le_of_ble_eq_true rfl) (Nat.le_of_ble_eq_true rfl) (Nat.le_of_ble_eq_true rfl) dX10_line_167 (fun r G1 h => ok_X10_is  h) fun r167 G167 => ?_
              refine J_if_eq (tgt := 177) hX dX10_line_170 rfl ?_ ?_
              · refine J_iconst hX dX10_line_177 cim_1 ?_
                refine J_sub (lv' := [(0, .ref (AD Y 186))]) [0] rfl ?_
                exact K178 (-1 : Int32) G167
              · refine J_iconst hX dX10_line_173 ci_2 ?_
                refine J_goto (tgt := 178) hX dX10_line_174 rfl ?_
                refine J_sub (lv' := [(0, .ref (AD Y 186))]) [0] rfl ?_
                exact K178 (2 : Int32) G167
            · refine J_iconst hX dX10_line_159 ci_1 ?_
              refine J_goto (tgt := 178) hX dX10_line_160 rfl ?_
              refine J_sub (lv' := [(0, .ref (AD Y 186))]) [0] rfl ?_
              exact K178 (1 : Int32) G153
          · refine J_iconst hX dX10_line_145 ci_0 ?_
            refine J_goto (tgt := 178) hX dX10_line_146 rfl ?_
            refine J_sub (lv' := [(0, .ref (AD Y 186))]) [0] rfl ?_
            exact K178 (0 : Int32) G139
      · refine J_aload_n 0 hX dX10_line_40 fz0 rfl ?_
        refine J_callVV (As := []) (st := []) (b := 186) hX mv_X10_157 sk_186 rfl rfl rfl (Nat.le_of_ble_eq_true rfl) (Nat.le_of_ble_eq_true rfl) (Nat.le_of_ble_eq_true rfl) dX10_line_41 (fun G1 h => ok_X10_next  h) fun G41 => ?_
        refine J_aload_n 0 hX dX10_line_44 fz0 rfl ?_
        refine J_getI hX dX10_line_45 lf_X10_136 sk_186 rfl ?_
        refine J_iconst hX dX10_line_48 ci_2 ?_
        refine J_icmp_ne (tgt := 79) hX dX10_line_49 rfl ?_ ?_
        · refine J_sub (lv' := [(0, .ref (AD Y 186))]) [0] rfl ?_
          exact K79 G41
        · refine J_aload_n 0 hX dX10_line_52 fz0 rfl ?_
          refine J_getI hX dX10_line_53 lf_X10_129 sk_186 rfl ?_
          refine J_sipush hX dX10_line_56 cs_9999 ?_
          refine J_icmp_gt (tgt := 79) hX dX10_line_59 rfl ?_ ?_
          · refine J_sub (lv' := [(0, .ref (AD Y 186))]) [0] rfl ?_
            exact K79 G41
          · refine J_aload_n 0 hX dX10_line_62 fz0 rfl ?_
            refine J_iconst hX dX10_line_63 ci_4 ?_
            refine J_aload_n 0 hX dX10_line_64 fz0 rfl ?_
            refine J_getI hX dX10_line_65 lf_X10_129 sk_186 rfl ?_
            refine J_callVI (As := [.int (4 : Int32), .int (gI G41 186 10)]) (st := []) (b := 186) hX mv_X10_215 sk_186 rfl rfl rfl (Nat.le_of_ble_eq_true rfl) (Nat.le_of_ble_eq_true rfl) (Nat.le_of_ble_eq_true rfl) dX10_line_68 (fun r G1 h => ok_X10_isSoldIn  h) fun r68 G68 => ?_
            refine J_if_eq (tgt := 79) hX dX10_line_71 rfl ?_ ?_
            · refine J_sub (lv' := [(0, .ref (AD Y 186))]) [0] rfl ?_
              exact K79 G68
            · refine J_aload_n 0 hX dX10_line_74 fz0 rfl ?_
              refine J_iconst hX dX10_line_75 ci_2 ?_
              refine J_callVV (As := [.int (2 : Int32)]) (st := []) (b := 186) hX mv_X10_163 sk_186 rfl rfl rfl (Nat.le_of_ble_eq_true rfl) (Nat.le_of_ble_eq_true rfl) (Nat.le_of_ble_eq_true rfl) dX10_line_76 (fun G1 h => ok_X10_fails  h) fun G76 => ?_
              refine J_sub (lv' := [(0, .ref (AD Y 186))]) [0] rfl ?_
              exact K79 G76
    · exact J_retV hR dX10_line_35
  unfold f_X10_line
  refine J_aload_n 0 hX dX10_line_0 fz0 rfl ?_
  refine J_ldc2 hX dX10_line_1 ll_X10_213 ?_
  refine J_callVI (As := [.long (385240 : Int64)]) (st := []) (b := 186) hX mv_X10_153 sk_186 rfl rfl rfl (Nat.le_of_ble_eq_true rfl) (Nat.le_of_ble_eq_true rfl) (Nat.le_of_ble_eq_true rfl) dX10_line_4 (fun r G1 h => ok_X10_is  h) fun r4 G4 => ?_
  refine J_istore_n (lv' := [(1, .int r4), (0, .ref (AD Y 186))]) hX dX10_line_7 fz1 (Nat.le_of_ble_eq_true rfl) rfl ?_
  refine J_iload_n 0 hX dX10_line_8 fz1 rfl ?_
  refine J_if_eq (tgt := 28) hX dX10_line_9 rfl ?_ ?_
  · refine J_sub (lv' := [(0, .ref (AD Y 186)), (1, .int r4)]) [1, 0] rfl ?_
    exact K28 r4 G4
  · refine J_aload_n 1 hX dX10_line_12 fz0 rfl ?_
    refine J_iconst hX dX10_line_13 ci_4 ?_
    refine J_iconst hX dX10_line_14 ci_4 ?_
    refine J_callVI (As := [.int (4 : Int32), .int (4 : Int32)]) (st := []) (b := 186) hX mv_X10_177 sk_186 rfl rfl rfl (Nat.le_of_ble_eq_true rfl) (Nat.le_of_ble_eq_true rfl) (Nat.le_of_ble_eq_true rfl) dX10_line_15 (fun r G1 h => ok_X10_of  h) fun r15 G15 => ?_
    refine J_bipush hX dX10_line_18 cb_8 ?_
    refine J_icmp_ne (tgt := 28) hX dX10_line_20 rfl ?_ ?_
    · refine J_sub (lv' := [(0, .ref (AD Y 186)), (1, .int r4)]) [1, 0] rfl ?_
      exact K28 r4 G15
    · refine J_aload_n 1 hX dX10_line_23 fz0 rfl ?_
      refine J_iconst hX dX10_line_24 ci_3 ?_
      refine J_callVV (As := [.int (3 : Int32)]) (st := []) (b := 186) hX mv_X10_163 sk_186 rfl rfl rfl (Nat.le_of_ble_eq_true rfl) (Nat.le_of_ble_eq_true rfl) (Nat.le_of_ble_eq_true rfl) dX10_line_25 (fun G1 h => ok_X10_fails  h) fun G25 => ?_
      refine J_sub (lv' := [(0, .ref (AD Y 186)), (1, .int r4)]) [1, 0] rfl ?_
      exact K28 r4 G25
set_option maxHeartbeats 4000000 in
set_option maxRecDepth 100000 in
theorem ok_X10_clears {Y : DX}   {G : GM} {G' : GM} (hf : f_X10_clears  G = some G') : OkV Y 1 M_X10_clears [.ref (AD Y 186)] G G' := by
  refine okV_of (lv0 := [(0, .ref (AD Y 186))]) (by decide +kernel) rfl (Nat.le_of_ble_eq_true rfl) ?_
  intro X Q hX hR
  have hX : CXok X Y RX10 cX10_clears 2 _ := hX
  revert hf
  show J X Y 2 Q 0 [(0, .ref (AD Y 186))] [] G (f_X10_clears  G = some G')
  have K43 : ∀  (n : Nat) (v1 : Int32) (G : GM), J X Y 2 Q 43 [(0, .ref (AD Y 186)), (1, .int v1)] [] G (wl1 n (lp_X10_clears_43 ) v1 G = some G') := by
    refine wl1_ind (R := fun v1 G φ => J X Y 2 Q 43 [(0, .ref (AD Y 186)), (1, .int v1)] [] G φ) (fun _ G φ h => J_no h) ?_
    intro kc43 hk43 v1 G
    unfold lp_X10_clears_43
    refine J_iload_n 1 hX dX10_clears_43 fz1 rfl ?_
    refine J_iconst hX dX10_clears_44 ci_3 ?_
    refine J_icmp_ge (tgt := 64) hX dX10_clears_45 rfl ?_ ?_
    · exact J_retV hR dX10_clears_64
    · refine J_aload_n 0 hX dX10_clears_48 fz0 rfl ?_
      refine J_getR (b := 195) hX dX10_clears_49 lf_X10_40 sk_186 rfl (by decide) rfl ?_
      refine J_bipush hX dX10_clears_52 cb_12 ?_
      refine J_iload_n 1 hX dX10_clears_54 fz1 rfl ?_
      refine J_iadd hX dX10_clears_55 ?_
      refine J_iconst hX dX10_clears_56 ci_0 ?_
      refine J_iast hX dX10_clears_57 sk_195 ln_195 fun G57 => ?_
      refine J_iinc (lv' := [(1, .int (v1 + (1 : Int32))), (0, .ref (AD Y 186))]) 1 hX dX10_clears_58 rfl ci_1 (Nat.le_of_ble_eq_true rfl) rfl ?_
      refine J_goto (tgt := 43) hX dX10_clears_61 rfl ?_
      refine J_sub (lv' := [(0, .ref (AD Y 186)), (1, .int (v1 + (1 : Int32)))]) [1, 0] rfl ?_
      exact hk43 (v1 + (1 : Int32)) G57
  have K9 : ∀  (n : Nat) (v1 : Int32) (G : GM), J X Y 2 Q 9 [(0, .ref (AD Y 186)), (1, .int v1)] [] G (wl1 n (lp_X10_clears_9 ) v1 G = some G') := by
    refine wl1_ind (R := fun v1 G φ => J X Y 2 Q 9 [(0, .ref (AD Y 186)), (1, .int v1)] [] G φ) (fun _ G φ h => J_no h) ?_
    intro kc9 hk9 v1 G
    unfold lp_X10_clears_9
    have K34 : ∀ (v1 : Int32) (s0 : Int32) (s1 : Int32) (G : GM), J X Y 2 Q 34 [(0, .ref (AD Y 186)), (1, .int v1)] [.int s0, .int s1, .ref (AD Y 193)] G (k_X10_clears_34 v1 s0 s1 kc9 G = some G') := by
      intro v1 s0 s1 G
      unfold k_X10_clears_34
      refine J_iast hX dX10_clears_34 sk_193 ln_193 fun G34 => ?_
      refine J_iinc (lv' := [(1, .int (v1 + (1 : Int32))), (0, .ref (AD Y 186))]) 1 hX dX10_clears_35 rfl ci_1 (Nat.le_of_ble_eq_true rfl) rfl ?_
      refine J_goto (tgt := 9) hX dX10_clears_38 rfl ?_
      refine J_sub (lv' := [(0, .ref (AD Y 186)), (1, .int (v1 + (1 : Int32)))]) [1, 0] rfl ?_
      exact hk9 (v1 + (1 : Int32)) G34
    refine J_iload_n 1 hX dX10_clears_9 fz1 rfl ?_
    refine J_bipush hX dX10_clears_10 cb_8 ?_
    refine J_icmp_ge (tgt := 41) hX dX10_clears_12 rfl ?_ ?_
    · refine J_iconst hX dX10_clears_41 ci_0 ?_
      refine J_istore_n (lv' := [(1, .int (0 : Int32)), (0, .ref (AD Y 186))]) hX dX10_clears_42 fz1 (Nat.le_of_ble_eq_true rfl) rfl ?_
      refine J_sub (lv' := [(0, .ref (AD Y 186)), (1, .int (0 : Int32))]) [1, 0] rfl ?_
      exact K43  FU (0 : Int32) G
    · refine J_aload_n 0 hX dX10_clears_15 fz0 rfl ?_
      refine J_getR (b := 193) hX dX10_clears_16 lf_X10_34 sk_186 rfl (by decide) rfl ?_
      refine J_bipush hX dX10_clears_19 cb_32 ?_
      refine J_iload_n 1 hX dX10_clears_21 fz1 rfl ?_
      refine J_iadd hX dX10_clears_22 ?_
      refine J_iload_n 1 hX dX10_clears_23 fz1 rfl ?_
      refine J_bipush hX dX10_clears_24 cb_7 ?_
      refine J_icmp_ne (tgt := 33) hX dX10_clears_26 rfl ?_ ?_
      · refine J_iconst hX dX10_clears_33 ci_0 ?_
        exact K34 v1 (0 : Int32) ((32 : Int32) + v1) G
      · refine J_iconst hX dX10_clears_29 ci_1 ?_
        refine J_goto (tgt := 34) hX dX10_clears_30 rfl ?_
        exact K34 v1 (1 : Int32) ((32 : Int32) + v1) G
  unfold f_X10_clears
  refine J_aload_n 0 hX dX10_clears_0 fz0 rfl ?_
  refine J_getR (b := 192) hX dX10_clears_1 lf_X10_31 sk_186 rfl (by decide) rfl ?_
  refine J_iconst hX dX10_clears_4 ci_4 ?_
  refine J_iconst hX dX10_clears_5 ci_0 ?_
  refine J_iast hX dX10_clears_6 sk_192 ln_192 fun G6 => ?_
  refine J_iconst hX dX10_clears_7 ci_0 ?_
  refine J_istore_n (lv' := [(1, .int (0 : Int32)), (0, .ref (AD Y 186))]) hX dX10_clears_8 fz1 (Nat.le_of_ble_eq_true rfl) rfl ?_
  refine J_sub (lv' := [(0, .ref (AD Y 186)), (1, .int (0 : Int32))]) [1, 0] rfl ?_
  exact K9  FU (0 : Int32) G6
set_option maxHeartbeats 4000000 in
set_option maxRecDepth 100000 in
theorem ok_X10_callsBy {Y : DX} {v1 : Int32} {v2 : Int64}  {G : GM} {G' : GM} (hf : f_X10_callsBy v1 v2 G = some G') : OkV Y 3 M_X10_callsBy [.ref (AD Y 186), .int v1, .long v2] G G' := by
  refine okV_of (lv0 := [(0, .ref (AD Y 186)), (1, .int v1), (2, .long v2)]) (by decide +kernel) rfl (Nat.le_of_ble_eq_true rfl) ?_
  intro X Q hX hR
  have hX : CXok X Y RX10 cX10_callsBy 5 _ := hX
  revert hf
  show J X Y 5 Q 0 [(0, .ref (AD Y 186)), (1, .int v1), (2, .long v2)] [] G (f_X10_callsBy v1 v2 G = some G')
  have K18 : ∀  (n : Nat) (v4 : Int32) (G : GM), J X Y 5 Q 18 [(0, .ref (AD Y 186)), (1, .int v1), (4, .int v4)] [] G (wl1 n (lp_X10_callsBy_18 v1 v2) v4 G = some G') := by
    refine wl1_ind (R := fun v4 G φ => J X Y 5 Q 18 [(0, .ref (AD Y 186)), (1, .int v1), (4, .int v4)] [] G φ) (fun _ G φ h => J_no h) ?_
    intro kc18 hk18 v4 G
    unfold lp_X10_callsBy_18
    refine J_iload 2 hX dX10_callsBy_18 rfl ?_
    refine J_aload_n 0 hX dX10_callsBy_20 fz0 rfl ?_
    refine J_iload_n 1 hX dX10_callsBy_21 fz1 rfl ?_
    refine J_callVI (As := [.int v1]) (st := [.int v4]) (b := 186) hX mv_X10_202 sk_186 rfl rfl rfl (Nat.le_of_ble_eq_true rfl) (Nat.le_of_ble_eq_true rfl) (Nat.le_of_ble_eq_true rfl) dX10_callsBy_22 (fun r G1 h => ok_X10_numbersOf  h) fun r22 G22 => ?_
    refine J_icmp_ge (tgt := 53) hX dX10_callsBy_25 rfl ?_ ?_
    · exact J_retV hR dX10_callsBy_53
    · refine J_aload_n 0 hX dX10_callsBy_28 fz0 rfl ?_
      refine J_getR (b := 197) hX dX10_callsBy_29 lf_X10_46 sk_186 rfl (by decide) rfl ?_
      refine J_bipush hX dX10_callsBy_32 cb_45 ?_
      refine J_iload_n 1 hX dX10_callsBy_34 fz1 rfl ?_
      refine J_imul hX dX10_callsBy_35 ?_
      refine J_iload 2 hX dX10_callsBy_36 rfl ?_
      refine J_iadd hX dX10_callsBy_38 ?_
      refine J_aload_n 0 hX dX10_callsBy_39 fz0 rfl ?_
      refine J_getR (b := 205) hX dX10_callsBy_40 lf_X10_71 sk_186 rfl (by decide) rfl ?_
      refine J_iload 2 hX dX10_callsBy_43 rfl ?_
      refine J_iald hX dX10_callsBy_45 sk_205 ln_205 ?_
      refine J_iast hX dX10_callsBy_46 sk_197 ln_197 fun G46 => ?_
      refine J_iinc (lv' := [(4, .int (v4 + (1 : Int32))), (0, .ref (AD Y 186)), (1, .int v1)]) 2 hX dX10_callsBy_47 rfl ci_1 (Nat.le_of_ble_eq_true rfl) rfl ?_
      refine J_goto (tgt := 18) hX dX10_callsBy_50 rfl ?_
      refine J_sub (lv' := [(0, .ref (AD Y 186)), (1, .int v1), (4, .int (v4 + (1 : Int32)))]) [1, 2, 0] rfl ?_
      exact hk18 (v4 + (1 : Int32)) G46
  unfold f_X10_callsBy
  refine J_aload_n 0 hX dX10_callsBy_0 fz0 rfl ?_
  refine J_lload_n 2 hX dX10_callsBy_1 fz2 rfl ?_
  refine J_putJ hX dX10_callsBy_2 lf_X10_284 lpt_9_33 sk_186 rfl fun G2 => ?_
  refine J_aload_n 0 hX dX10_callsBy_5 fz0 rfl ?_
  refine J_iconst hX dX10_callsBy_6 ci_1 ?_
  refine J_aload_n 0 hX dX10_callsBy_7 fz0 rfl ?_
  refine J_iload_n 1 hX dX10_callsBy_8 fz1 rfl ?_
  refine J_callVI (As := [.int v1]) (st := [.int (1 : Int32), .ref (AD Y 186)]) (b := 186) hX mv_X10_202 sk_186 rfl rfl rfl (Nat.le_of_ble_eq_true rfl) (Nat.le_of_ble_eq_true rfl) (Nat.le_of_ble_eq_true rfl) dX10_callsBy_9 (fun r G1 h => ok_X10_numbersOf  h) fun r9 G9 => ?_
  refine J_callVV (As := [.int (1 : Int32), .int r9]) (st := []) (b := 186) hX mv_X10_298 sk_186 rfl rfl rfl (Nat.le_of_ble_eq_true rfl) (Nat.le_of_ble_eq_true rfl) (Nat.le_of_ble_eq_true rfl) dX10_callsBy_12 (fun G1 h => ok_X10_mixes  h) fun G12 => ?_
  refine J_iconst hX dX10_callsBy_15 ci_0 ?_
  refine J_istore (lv' := [(4, .int (0 : Int32)), (0, .ref (AD Y 186)), (1, .int v1), (2, .long v2)]) hX dX10_callsBy_16 (Nat.le_of_ble_eq_true rfl) rfl ?_
  refine J_sub (lv' := [(0, .ref (AD Y 186)), (1, .int v1), (4, .int (0 : Int32))]) [1, 2, 0] rfl ?_
  exact K18  FU (0 : Int32) G12
set_option maxHeartbeats 4000000 in
set_option maxRecDepth 100000 in
theorem ok_X10_copyRow {Y : DX} {v0 : Nat} {v1 : Int32} {v2 : Int32} {v3 : Int32} (h0 : SHk v0 = 10) {G : GM} {G' : GM} (hf : f_X10_copyRow v0 v1 v2 v3 G = some G') : OkV Y 1 M_X10_copyRow [.ref (AD Y v0), .int v1, .int v2, .int v3] G G' := by
  refine okV_of (lv0 := [(0, .ref (AD Y v0)), (1, .int v1), (2, .int v2), (3, .int v3)]) (by decide +kernel) rfl (Nat.le_of_ble_eq_true rfl) ?_
  intro X Q hX hR
  have hX : CXok X Y RX10 cX10_copyRow 5 _ := hX
  revert hf
  show J X Y 5 Q 0 [(0, .ref (AD Y v0)), (1, .int v1), (2, .int v2), (3, .int v3)] [] G (f_X10_copyRow v0 v1 v2 v3 G = some G')
  have K3 : ∀  (n : Nat) (v4 : Int32) (G : GM), J X Y 5 Q 3 [(0, .ref (AD Y v0)), (1, .int v1), (2, .int v2), (3, .int v3), (4, .int v4)] [] G (wl1 n (lp_X10_copyRow_3 v0 v1 v2 v3) v4 G = some G') := by
    refine wl1_ind (R := fun v4 G φ => J X Y 5 Q 3 [(0, .ref (AD Y v0)), (1, .int v1), (2, .int v2), (3, .int v3), (4, .int v4)] [] G φ) (fun _ G φ h => J_no h) ?_
    intro kc3 hk3 v4 G
    unfold lp_X10_copyRow_3
    refine J_iload 4 hX dX10_copyRow_3 rfl ?_
    refine J_iload_n 1 hX dX10_copyRow_5 fz1 rfl ?_
    refine J_icmp_ge (tgt := 31) hX dX10_copyRow_6 rfl ?_ ?_
    · exact J_retV hR dX10_copyRow_31
    · refine J_aload_n 0 hX dX10_copyRow_9 fz0 rfl ?_
      refine J_iload_n 1 hX dX10_copyRow_10 fz1 rfl ?_
      refine J_iload_n 3 hX dX10_copyRow_11 fz3 rfl ?_
      refine J_imul hX dX10_copyRow_12 ?_
      refine J_iload 4 hX dX10_copyRow_13 rfl ?_
      refine J_iadd hX dX10_copyRow_15 ?_
      refine J_aload_n 0 hX dX10_copyRow_16 fz0 rfl ?_
      refine J_iload_n 1 hX dX10_copyRow_17 fz1 rfl ?_
      refine J_iload_n 2 hX dX10_copyRow_18 fz2 rfl ?_
      refine J_imul hX dX10_copyRow_19 ?_
      refine J_iload 4 hX dX10_copyRow_20 rfl ?_
      refine J_iadd hX dX10_copyRow_22 ?_
      refine J_iald hX dX10_copyRow_23 h0 rfl ?_
      refine J_iast hX dX10_copyRow_24 h0 rfl fun G24 => ?_
      refine J_iinc (lv' := [(4, .int (v4 + (1 : Int32))), (0, .ref (AD Y v0)), (1, .int v1), (2, .int v2), (3, .int v3)]) 4 hX dX10_copyRow_25 rfl ci_1 (Nat.le_of_ble_eq_true rfl) rfl ?_
      refine J_goto (tgt := 3) hX dX10_copyRow_28 rfl ?_
      refine J_sub (lv' := [(0, .ref (AD Y v0)), (1, .int v1), (2, .int v2), (3, .int v3), (4, .int (v4 + (1 : Int32)))]) [1, 2, 3, 4, 0] rfl ?_
      exact hk3 (v4 + (1 : Int32)) G24
  unfold f_X10_copyRow
  refine J_iconst hX dX10_copyRow_0 ci_0 ?_
  refine J_istore (lv' := [(4, .int (0 : Int32)), (0, .ref (AD Y v0)), (1, .int v1), (2, .int v2), (3, .int v3)]) hX dX10_copyRow_1 (Nat.le_of_ble_eq_true rfl) rfl ?_
  refine J_sub (lv' := [(0, .ref (AD Y v0)), (1, .int v1), (2, .int v2), (3, .int v3), (4, .int (0 : Int32))]) [1, 2, 3, 4, 0] rfl ?_
  exact K3  FU (0 : Int32) G
set_option maxHeartbeats 4000000 in
set_option maxRecDepth 100000 in
theorem ok_X10_copyHall {Y : DX} {v1 : Int32} {v2 : Int32}  {G : GM} {G' : GM} (hf : f_X10_copyHall v1 v2 G = some G') : OkV Y 2 M_X10_copyHall [.ref (AD Y 186), .int v1, .int v2] G G' := by
  refine okV_of (lv0 := [(0, .ref (AD Y 186)), (1, .int v1), (2, .int v2)]) (by decide +kernel) rfl (Nat.le_of_ble_eq_true rfl) ?_
  intro X Q hX hR
  have hX : CXok X Y RX10 cX10_copyHall 3 _ := hX
  revert hf
  show J X Y 3 Q 0 [(0, .ref (AD Y 186)), (1, .int v1), (2, .int v2)] [] G (f_X10_copyHall v1 v2 G = some G')
  unfold f_X10_copyHall
  refine J_aload_n 0 hX dX10_copyHall_0 fz0 rfl ?_
  refine J_getR (b := 192) hX dX10_copyHall_1 lf_X10_31 sk_186 rfl (by decide) rfl ?_
  refine J_iconst hX dX10_copyHall_4 ci_1 ?_
  refine J_iload_n 1 hX dX10_copyHall_5 fz1 rfl ?_
  refine J_iload_n 2 hX dX10_copyHall_6 fz2 rfl ?_
  refine J_callSV (As := [.ref (AD Y 192), .int (1 : Int32), .int v1, .int v2]) (st := []) hX ms_X10_259 rfl rfl (Nat.le_of_ble_eq_true rfl) (Nat.le_of_ble_eq_true rfl) (Nat.le_of_ble_eq_true rfl) dX10_copyHall_7 (fun G1 h => ok_X10_copyRow sk_192 h) fun G7 => ?_
  refine J_aload_n 0 hX dX10_copyHall_10 fz0 rfl ?_
  refine J_getR (b := 193) hX dX10_copyHall_11 lf_X10_34 sk_186 rfl (by decide) rfl ?_
  refine J_bipush hX dX10_copyHall_14 cb_8 ?_
  refine J_iload_n 1 hX dX10_copyHall_16 fz1 rfl ?_
  refine J_iload_n 2 hX dX10_copyHall_17 fz2 rfl ?_
  refine J_callSV (As := [.ref (AD Y 193), .int (8 : Int32), .int v1, .int v2]) (st := []) hX ms_X10_259 rfl rfl (Nat.le_of_ble_eq_true rfl) (Nat.le_of_ble_eq_true rfl) (Nat.le_of_ble_eq_true rfl) dX10_copyHall_18 (fun G1 h => ok_X10_copyRow sk_193 h) fun G18 => ?_
  refine J_aload_n 0 hX dX10_copyHall_21 fz0 rfl ?_
  refine J_getR (b := 194) hX dX10_copyHall_22 lf_X10_37 sk_186 rfl (by decide) rfl ?_
  refine J_iconst hX dX10_copyHall_25 ci_5 ?_
  refine J_iload_n 1 hX dX10_copyHall_26 fz1 rfl ?_
  refine J_iload_n 2 hX dX10_copyHall_27 fz2 rfl ?_
  refine J_callSV (As := [.ref (AD Y 194), .int (5 : Int32), .int v1, .int v2]) (st := []) hX ms_X10_259 rfl rfl (Nat.le_of_ble_eq_true rfl) (Nat.le_of_ble_eq_true rfl) (Nat.le_of_ble_eq_true rfl) dX10_copyHall_28 (fun G1 h => ok_X10_copyRow sk_194 h) fun G28 => ?_
  refine J_aload_n 0 hX dX10_copyHall_31 fz0 rfl ?_
  refine J_getR (b := 195) hX dX10_copyHall_32 lf_X10_40 sk_186 rfl (by decide) rfl ?_
  refine J_iconst hX dX10_copyHall_35 ci_3 ?_
  refine J_iload_n 1 hX dX10_copyHall_36 fz1 rfl ?_
  refine J_iload_n 2 hX dX10_copyHall_37 fz2 rfl ?_
  refine J_callSV (As := [.ref (AD Y 195), .int (3 : Int32), .int v1, .int v2]) (st := []) hX ms_X10_259 rfl rfl (Nat.le_of_ble_eq_true rfl) (Nat.le_of_ble_eq_true rfl) (Nat.le_of_ble_eq_true rfl) dX10_copyHall_38 (fun G1 h => ok_X10_copyRow sk_195 h) fun G38 => ?_
  refine J_aload_n 0 hX dX10_copyHall_41 fz0 rfl ?_
  refine J_getR (b := 196) hX dX10_copyHall_42 lf_X10_43 sk_186 rfl (by decide) rfl ?_
  refine J_bipush hX dX10_copyHall_45 cb_8 ?_
  refine J_iload_n 1 hX dX10_copyHall_47 fz1 rfl ?_
  refine J_iload_n 2 hX dX10_copyHall_48 fz2 rfl ?_
  refine J_callSV (As := [.ref (AD Y 196), .int (8 : Int32), .int v1, .int v2]) (st := []) hX ms_X10_259 rfl rfl (Nat.le_of_ble_eq_true rfl) (Nat.le_of_ble_eq_true rfl) (Nat.le_of_ble_eq_true rfl) dX10_copyHall_49 (fun G1 h => ok_X10_copyRow sk_196 h) fun G49 => ?_
  refine J_aload_n 0 hX dX10_copyHall_52 fz0 rfl ?_
  refine J_getR (b := 197) hX dX10_copyHall_53 lf_X10_46 sk_186 rfl (by decide) rfl ?_
  refine J_bipush hX dX10_copyHall_56 cb_45 ?_
  refine J_iload_n 1 hX dX10_copyHall_58 fz1 rfl ?_
  refine J_iload_n 2 hX dX10_copyHall_59 fz2 rfl ?_
  refine J_callSV (As := [.ref (AD Y 197), .int (45 : Int32), .int v1, .int v2]) (st := []) hX ms_X10_259 rfl rfl (Nat.le_of_ble_eq_true rfl) (Nat.le_of_ble_eq_true rfl) (Nat.le_of_ble_eq_true rfl) dX10_copyHall_60 (fun G1 h => ok_X10_copyRow sk_197 h) fun G60 => ?_
  exact J_retV hR dX10_copyHall_63
set_option maxHeartbeats 4000000 in
set_option maxRecDepth 100000 in
theorem ok_X10_hall {Y : DX}   {G : GM} {r : Int32} {G' : GM} (hf : f_X10_hall  G = some (r, G')) : OkI Y 33 M_X10_hall [.ref (AD Y 186)] G r G' := by
  refine okI_of (lv0 := [(0, .ref (AD Y 186))]) (by decide +kernel) rfl (Nat.le_of_ble_eq_true rfl) ?_
  intro X Q hX hR
  have hX : CXok X Y RX10 cX10_hall 1 _ := hX
  revert hf
  show J X Y 1 Q 0 [(0, .ref (AD Y 186))] [] G (f_X10_hall  G = some (r, G'))
  have K107 : ∀ (G : GM), J X Y 1 Q 107 [(0, .ref (AD Y 186))] [] G (k_X10_hall_107  G = some (r, G')) := by
    intro G
    unfold k_X10_hall_107
    refine J_aload_n 0 hX dX10_hall_107 fz0 rfl ?_
    refine J_iconst hX dX10_hall_108 ci_4 ?_
    refine J_iconst hX dX10_hall_109 ci_0 ?_
    refine J_callVV (As := [.int (4 : Int32), .int (0 : Int32)]) (st := []) (b := 186) hX mv_X10_256 sk_186 rfl rfl rfl (Nat.le_of_ble_eq_true rfl) (Nat.le_of_ble_eq_true rfl) (Nat.le_of_ble_eq_true rfl) dX10_hall_110 (fun G1 h => ok_X10_copyHall  h) fun G110 => ?_
    refine J_aload_n 0 hX dX10_hall_113 fz0 rfl ?_
    refine J_getR (b := 192) hX dX10_hall_114 lf_X10_31 sk_186 rfl (by decide) rfl ?_
    refine J_iconst hX dX10_hall_117 ci_0 ?_
    refine J_iald hX dX10_hall_118 sk_192 ln_192 ?_
    exact J_retI hR dX10_hall_119
  have K71 : ∀ (G : GM), J X Y 1 Q 71 [(0, .ref (AD Y 186))] [] G (k_X10_hall_71  G = some (r, G')) := by
    intro G
    unfold k_X10_hall_71
    refine J_aload_n 0 hX dX10_hall_71 fz0 rfl ?_
    refine J_callVV (As := []) (st := []) (b := 186) hX mv_X10_249 sk_186 rfl rfl rfl (Nat.le_of_ble_eq_true rfl) (Nat.le_of_ble_eq_true rfl) (Nat.le_of_ble_eq_true rfl) dX10_hall_72 (fun G1 h => ok_X10_isOver  h) fun G72 => ?_
    refine J_aload_n 0 hX dX10_hall_75 fz0 rfl ?_
    refine J_getI hX dX10_hall_76 lf_X10_147 sk_186 rfl ?_
    refine J_if_eq (tgt := 85) hX dX10_hall_79 rfl ?_ ?_
    · refine J_aload_n 0 hX dX10_hall_85 fz0 rfl ?_
      refine J_getR (b := 192) hX dX10_hall_86 lf_X10_31 sk_186 rfl (by decide) rfl ?_
      refine J_iconst hX dX10_hall_89 ci_4 ?_
      refine J_iald hX dX10_hall_90 sk_192 ln_192 ?_
      refine J_if_le (tgt := 107) hX dX10_hall_91 rfl ?_ ?_
      · exact K107 G72
      · refine J_aload_n 0 hX dX10_hall_94 fz0 rfl ?_
        refine J_iconst hX dX10_hall_95 ci_4 ?_
        refine J_aload_n 0 hX dX10_hall_96 fz0 rfl ?_
        refine J_iconst hX dX10_hall_97 ci_4 ?_
        refine J_bipush hX dX10_hall_98 cb_7 ?_
        refine J_callVI (As := [.int (4 : Int32), .int (7 : Int32)]) (st := [.int (4 : Int32), .ref (AD Y 186)]) (b := 186) hX mv_X10_177 sk_186 rfl rfl rfl (Nat.le_of_ble_eq_true rfl) (Nat.le_of_ble_eq_true rfl) (Nat.le_of_ble_eq_true rfl) dX10_hall_100 (fun r G1 h => ok_X10_of  h) fun r100 G100 => ?_
        refine J_i2l hX dX10_hall_103 ?_
        refine J_callVV (As := [.int (4 : Int32), .long (r100.toInt64)]) (st := []) (b := 186) hX mv_X10_252 sk_186 rfl rfl rfl (Nat.le_of_ble_eq_true rfl) (Nat.le_of_ble_eq_true rfl) (Nat.le_of_ble_eq_true rfl) dX10_hall_104 (fun G1 h => ok_X10_callsBy  h) fun G104 => ?_
        exact K107 G104
    · refine J_bipush hX dX10_hall_82 cbm_4 ?_
      exact J_retI hR dX10_hall_84
  have K13 : ∀  (n : Nat)  (G : GM), J X Y 1 Q 13 [(0, .ref (AD Y 186))] [] G (wl0 n (lp_X10_hall_13 )  G = some (r, G')) := by
    refine wl0_ind (R := fun  G φ => J X Y 1 Q 13 [(0, .ref (AD Y 186))] [] G φ) (fun  G φ h => J_no h) ?_
    intro kc13 hk13  G
    unfold lp_X10_hall_13
    have K58 : ∀ (G : GM), J X Y 1 Q 58 [(0, .ref (AD Y 186))] [] G (k_X10_hall_58 kc13 G = some (r, G')) := by
      intro G
      unfold k_X10_hall_58
      refine J_aload_n 0 hX dX10_hall_58 fz0 rfl ?_
      refine J_getR (b := 192) hX dX10_hall_59 lf_X10_31 sk_186 rfl (by decide) rfl ?_
      refine J_iconst hX dX10_hall_62 ci_4 ?_
      refine J_dup2 hX dX10_hall_63 rfl rfl ?_
      refine J_iald hX dX10_hall_64 sk_192 ln_192 ?_
      refine J_iconst hX dX10_hall_65 ci_1 ?_
      refine J_iadd hX dX10_hall_66 ?_
      refine J_iast hX dX10_hall_67 sk_192 ln_192 fun G67 => ?_
      refine J_goto (tgt := 13) hX dX10_hall_68 rfl ?_
      exact hk13  G67
    have K47 : ∀ (G : GM), J X Y 1 Q 47 [(0, .ref (AD Y 186))] [] G (k_X10_hall_47 kc13 G = some (r, G')) := by
      intro G
      unfold k_X10_hall_47
      refine J_aload_n 0 hX dX10_hall_47 fz0 rfl ?_
      refine J_callVI (As := []) (st := []) (b := 186) hX mv_X10_193 sk_186 rfl rfl rfl (Nat.le_of_ble_eq_true rfl) (Nat.le_of_ble_eq_true rfl) (Nat.le_of_ble_eq_true rfl) dX10_hall_48 (fun r G1 h => ok_X10_isGood  h) fun r48 G48 => ?_
      refine J_if_eq (tgt := 58) hX dX10_hall_51 rfl ?_ ?_
      · exact K58 G48
      · refine J_aload_n 0 hX dX10_hall_54 fz0 rfl ?_
        refine J_callVV (As := []) (st := []) (b := 186) hX mv_X10_246 sk_186 rfl rfl rfl (Nat.le_of_ble_eq_true rfl) (Nat.le_of_ble_eq_true rfl) (Nat.le_of_ble_eq_true rfl) dX10_hall_55 (fun G1 h => ok_X10_ends  h) fun G55 => ?_
        exact K58 G55
    refine J_aload_n 0 hX dX10_hall_13 fz0 rfl ?_
    refine J_callVI (As := []) (st := []) (b := 186) hX mv_X10_193 sk_186 rfl rfl rfl (Nat.le_of_ble_eq_true rfl) (Nat.le_of_ble_eq_true rfl) (Nat.le_of_ble_eq_true rfl) dX10_hall_14 (fun r G1 h => ok_X10_isGood  h) fun r14 G14 => ?_
    refine J_if_eq (tgt := 71) hX dX10_hall_17 rfl ?_ ?_
    · exact K71 G14
    · refine J_aload_n 0 hX dX10_hall_20 fz0 rfl ?_
      refine J_getI hX dX10_hall_21 lf_X10_136 sk_186 rfl ?_
      refine J_if_eq (tgt := 71) hX dX10_hall_24 rfl ?_ ?_
      · exact K71 G14
      · refine J_aload_n 0 hX dX10_hall_27 fz0 rfl ?_
        refine J_getR (b := 192) hX dX10_hall_28 lf_X10_31 sk_186 rfl (by decide) rfl ?_
        refine J_iconst hX dX10_hall_31 ci_4 ?_
        refine J_iald hX dX10_hall_32 sk_192 ln_192 ?_
        refine J_if_ne (tgt := 43) hX dX10_hall_33 rfl ?_ ?_
        · refine J_aload_n 0 hX dX10_hall_43 fz0 rfl ?_
          refine J_callVV (As := []) (st := []) (b := 186) hX mv_X10_243 sk_186 rfl rfl rfl (Nat.le_of_ble_eq_true rfl) (Nat.le_of_ble_eq_true rfl) (Nat.le_of_ble_eq_true rfl) dX10_hall_44 (fun G1 h => ok_X10_line  h) fun G44 => ?_
          exact K47 G44
        · refine J_aload_n 0 hX dX10_hall_36 fz0 rfl ?_
          refine J_callVV (As := []) (st := []) (b := 186) hX mv_X10_240 sk_186 rfl rfl rfl (Nat.le_of_ble_eq_true rfl) (Nat.le_of_ble_eq_true rfl) (Nat.le_of_ble_eq_true rfl) dX10_hall_37 (fun G1 h => ok_X10_first  h) fun G37 => ?_
          refine J_goto (tgt := 47) hX dX10_hall_40 rfl ?_
          exact K47 G37
  unfold f_X10_hall
  refine J_aload_n 0 hX dX10_hall_0 fz0 rfl ?_
  refine J_iconst hX dX10_hall_1 ci_0 ?_
  refine J_putI hX dX10_hall_2 lf_X10_95 lpt_9_0 sk_186 rfl fun G2 => ?_
  refine J_aload_n 0 hX dX10_hall_5 fz0 rfl ?_
  refine J_callVV (As := []) (st := []) (b := 186) hX mv_X10_234 sk_186 rfl rfl rfl (Nat.le_of_ble_eq_true rfl) (Nat.le_of_ble_eq_true rfl) (Nat.le_of_ble_eq_true rfl) dX10_hall_6 (fun G1 h => ok_X10_clears  h) fun G6 => ?_
  refine J_aload_n 0 hX dX10_hall_9 fz0 rfl ?_
  refine J_callVV (As := []) (st := []) (b := 186) hX mv_X10_237 sk_186 rfl rfl rfl (Nat.le_of_ble_eq_true rfl) (Nat.le_of_ble_eq_true rfl) (Nat.le_of_ble_eq_true rfl) dX10_hall_10 (fun G1 h => ok_X10_begins  h) fun G10 => ?_
  exact K13  FU  G10
set_option maxHeartbeats 4000000 in
set_option maxRecDepth 100000 in
theorem ok_X10_isHall {Y : DX}   {G : GM} {r : Int32} {G' : GM} (hf : f_X10_isHall  G = some (r, G')) : OkI Y 1 M_X10_isHall [.ref (AD Y 186)] G r G' := by
  refine okZ_of (lv0 := [(0, .ref (AD Y 186))]) (by decide +kernel) rfl (Nat.le_of_ble_eq_true rfl) ?_
  intro X Q hX hR
  have hX : CXok X Y RX10 cX10_isHall 1 _ := hX
  revert hf
  show J X Y 1 Q 0 [(0, .ref (AD Y 186))] [] G (f_X10_isHall  G = some (r, G'))
  unfold f_X10_isHall
  refine J_aload_n 0 hX dX10_isHall_0 fz0 rfl ?_
  refine J_getR (b := 192) hX dX10_isHall_1 lf_X10_31 sk_186 rfl (by decide) rfl ?_
  refine J_iconst hX dX10_isHall_4 ci_0 ?_
  refine J_iald hX dX10_isHall_5 sk_192 ln_192 ?_
  refine J_if_le (tgt := 13) hX dX10_isHall_6 rfl ?_ ?_
  · refine J_iconst hX dX10_isHall_13 ci_0 ?_
    exact J_retZ hR (by decide) dX10_isHall_14
  · refine J_iconst hX dX10_isHall_9 ci_1 ?_
    refine J_goto (tgt := 14) hX dX10_isHall_10 rfl ?_
    exact J_retZ hR (by decide) dX10_isHall_14
set_option maxHeartbeats 4000000 in
set_option maxRecDepth 100000 in
theorem ok_X10_all {Y : DX}   {G : GM} {r : Int32} {G' : GM} (hf : f_X10_all  G = some (r, G')) : OkI Y 3 M_X10_all [.ref (AD Y 186)] G r G' := by
  refine okI_of (lv0 := [(0, .ref (AD Y 186))]) (by decide +kernel) rfl (Nat.le_of_ble_eq_true rfl) ?_
  intro X Q hX hR
  have hX : CXok X Y RX10 cX10_all 1 _ := hX
  revert hf
  show J X Y 1 Q 0 [(0, .ref (AD Y 186))] [] G (f_X10_all  G = some (r, G'))
  unfold f_X10_all
  refine J_aload_n 0 hX dX10_all_0 fz0 rfl ?_
  refine J_iconst hX dX10_all_1 ci_0 ?_
  refine J_callVI (As := [.int (0 : Int32)]) (st := []) (b := 186) hX mv_X10_202 sk_186 rfl rfl rfl (Nat.le_of_ble_eq_true rfl) (Nat.le_of_ble_eq_true rfl) (Nat.le_of_ble_eq_true rfl) dX10_all_2 (fun r G1 h => ok_X10_numbersOf  h) fun r2 G2 => ?_
  exact J_retI hR dX10_all_5
set_option maxHeartbeats 4000000 in
set_option maxRecDepth 100000 in
theorem ok_X10_isSerial {Y : DX} {v1 : Int32}  {G : GM} {r : Int32} {G' : GM} (hf : f_X10_isSerial v1 G = some (r, G')) : OkI Y 2 M_X10_isSerial [.ref (AD Y 186), .int v1] G r G' := by
  refine okZ_of (lv0 := [(0, .ref (AD Y 186)), (1, .int v1)]) (by decide +kernel) rfl (Nat.le_of_ble_eq_true rfl) ?_
  intro X Q hX hR
  have hX : CXok X Y RX10 cX10_isSerial 2 _ := hX
  revert hf
  show J X Y 2 Q 0 [(0, .ref (AD Y 186)), (1, .int v1)] [] G (f_X10_isSerial v1 G = some (r, G'))
  unfold f_X10_isSerial
  refine J_aload_n 0 hX dX10_isSerial_0 fz0 rfl ?_
  refine J_callVI (As := []) (st := []) (b := 186) hX mv_X10_324 sk_186 rfl rfl rfl (Nat.le_of_ble_eq_true rfl) (Nat.le_of_ble_eq_true rfl) (Nat.le_of_ble_eq_true rfl) dX10_isSerial_1 (fun r G1 h => ok_X10_isHall  h) fun r1 G1 => ?_
  refine J_if_eq (tgt := 23) hX dX10_isSerial_4 rfl ?_ ?_
  · refine J_iconst hX dX10_isSerial_23 ci_0 ?_
    exact J_retZ hR (by decide) dX10_isSerial_24
  · refine J_iload_n 1 hX dX10_isSerial_7 fz1 rfl ?_
    refine J_i2l hX dX10_isSerial_8 ?_
    refine J_lconst hX dX10_isSerial_9 fy0 ?_
    refine J_ldc2 hX dX10_isSerial_10 ll_X10_327 ?_
    refine J_callSI (As := [.long (v1.toInt64), .long (0 : Int64), .long (9999 : Int64)]) (st := []) hX ms_X10_100 rfl rfl (Nat.le_of_ble_eq_true rfl) (Nat.le_of_ble_eq_true rfl) (Nat.le_of_ble_eq_true rfl) dX10_isSerial_13 (fun r G1 h => ok_X10_in  h) fun r13 G13 => ?_
    refine J_if_eq (tgt := 23) hX dX10_isSerial_16 rfl ?_ ?_
    · refine J_iconst hX dX10_isSerial_23 ci_0 ?_
      exact J_retZ hR (by decide) dX10_isSerial_24
    · refine J_iconst hX dX10_isSerial_19 ci_1 ?_
      refine J_goto (tgt := 24) hX dX10_isSerial_20 rfl ?_
      exact J_retZ hR (by decide) dX10_isSerial_24
set_option maxHeartbeats 4000000 in
set_option maxRecDepth 100000 in
theorem ok_X10_isCard {Y : DX} {v1 : Int32}  {G : GM} {r : Int32} {G' : GM} (hf : f_X10_isCard v1 G = some (r, G')) : OkI Y 2 M_X10_isCard [.ref (AD Y 186), .int v1] G r G' := by
  refine okZ_of (lv0 := [(0, .ref (AD Y 186)), (1, .int v1)]) (by decide +kernel) rfl (Nat.le_of_ble_eq_true rfl) ?_
  intro X Q hX hR
  have hX : CXok X Y RX10 cX10_isCard 2 _ := hX
  revert hf
  show J X Y 2 Q 0 [(0, .ref (AD Y 186)), (1, .int v1)] [] G (f_X10_isCard v1 G = some (r, G'))
  unfold f_X10_isCard
  refine J_iload_n 1 hX dX10_isCard_0 fz1 rfl ?_
  refine J_i2l hX dX10_isCard_1 ?_
  refine J_lconst hX dX10_isCard_2 fy0 ?_
  refine J_aload_n 0 hX dX10_isCard_3 fz0 rfl ?_
  refine J_getR (b := 193) hX dX10_isCard_4 lf_X10_34 sk_186 rfl (by decide) rfl ?_
  refine J_iconst hX dX10_isCard_7 ci_0 ?_
  refine J_iald hX dX10_isCard_8 sk_193 ln_193 ?_
  refine J_iconst hX dX10_isCard_9 ci_1 ?_
  refine J_isub hX dX10_isCard_10 ?_
  refine J_i2l hX dX10_isCard_11 ?_
  refine J_callSI (As := [.long (v1.toInt64), .long (0 : Int64), .long (((gI G 193 (0 : Int32).toNatClampNeg) - (1 : Int32)).toInt64)]) (st := []) hX ms_X10_100 rfl rfl (Nat.le_of_ble_eq_true rfl) (Nat.le_of_ble_eq_true rfl) (Nat.le_of_ble_eq_true rfl) dX10_isCard_12 (fun r G1 h => ok_X10_in  h) fun r12 G12 => ?_
  exact J_retZg hR dX10_isCard_15
set_option maxHeartbeats 4000000 in
set_option maxRecDepth 100000 in
theorem ok_X10_isColumn {Y : DX} {v1 : Int32}  {G : GM} {r : Int32} {G' : GM} (hf : f_X10_isColumn v1 G = some (r, G')) : OkI Y 2 M_X10_isColumn [.ref (AD Y 186), .int v1] G r G' := by
  refine okZ_of (lv0 := [(0, .ref (AD Y 186)), (1, .int v1)]) (by decide +kernel) rfl (Nat.le_of_ble_eq_true rfl) ?_
  intro X Q hX hR
  have hX : CXok X Y RX10 cX10_isColumn 2 _ := hX
  revert hf
  show J X Y 2 Q 0 [(0, .ref (AD Y 186)), (1, .int v1)] [] G (f_X10_isColumn v1 G = some (r, G'))
  unfold f_X10_isColumn
  refine J_iload_n 1 hX dX10_isColumn_0 fz1 rfl ?_
  refine J_i2l hX dX10_isColumn_1 ?_
  refine J_lconst hX dX10_isColumn_2 fy0 ?_
  refine J_aload_n 0 hX dX10_isColumn_3 fz0 rfl ?_
  refine J_getR (b := 193) hX dX10_isColumn_4 lf_X10_34 sk_186 rfl (by decide) rfl ?_
  refine J_iconst hX dX10_isColumn_7 ci_3 ?_
  refine J_iald hX dX10_isColumn_8 sk_193 ln_193 ?_
  refine J_iconst hX dX10_isColumn_9 ci_1 ?_
  refine J_isub hX dX10_isColumn_10 ?_
  refine J_i2l hX dX10_isColumn_11 ?_
  refine J_callSI (As := [.long (v1.toInt64), .long (0 : Int64), .long (((gI G 193 (3 : Int32).toNatClampNeg) - (1 : Int32)).toInt64)]) (st := []) hX ms_X10_100 rfl rfl (Nat.le_of_ble_eq_true rfl) (Nat.le_of_ble_eq_true rfl) (Nat.le_of_ble_eq_true rfl) dX10_isColumn_12 (fun r G1 h => ok_X10_in  h) fun r12 G12 => ?_
  exact J_retZg hR dX10_isColumn_15
set_option maxHeartbeats 4000000 in
set_option maxRecDepth 100000 in
theorem ok_X10_column {Y : DX} {v1 : Int32} {v2 : Int32}  {G : GM} {r : Int32} {G' : GM} (hf : f_X10_column v1 v2 G = some (r, G')) : OkI Y 3 M_X10_column [.ref (AD Y 186), .int v1, .int v2] G r G' := by
  refine okI_of (lv0 := [(0, .ref (AD Y 186)), (1, .int v1), (2, .int v2)]) (by decide +kernel) rfl (Nat.le_of_ble_eq_true rfl) ?_
  intro X Q hX hR
  have hX : CXok X Y RX10 cX10_column 3 _ := hX
  revert hf
  show J X Y 3 Q 0 [(0, .ref (AD Y 186)), (1, .int v1), (2, .int v2)] [] G (f_X10_column v1 v2 G = some (r, G'))
  unfold f_X10_column
  refine J_aload_n 0 hX dX10_column_0 fz0 rfl ?_
  refine J_iconst hX dX10_column_1 ci_0 ?_
  refine J_putI hX dX10_column_2 lf_X10_95 lpt_9_0 sk_186 rfl fun G2 => ?_
  refine J_aload_n 0 hX dX10_column_5 fz0 rfl ?_
  refine J_iload_n 1 hX dX10_column_6 fz1 rfl ?_
  refine J_callVI (As := [.int v1]) (st := []) (b := 186) hX mv_X10_329 sk_186 rfl rfl rfl (Nat.le_of_ble_eq_true rfl) (Nat.le_of_ble_eq_true rfl) (Nat.le_of_ble_eq_true rfl) dX10_column_7 (fun r G1 h => ok_X10_isColumn  h) fun r7 G7 => ?_
  refine J_if_eq (tgt := 23) hX dX10_column_10 rfl ?_ ?_
  · refine J_bipush hX dX10_column_23 cbm_2 ?_
    refine J_goto (tgt := 47) hX dX10_column_25 rfl ?_
    exact J_retI hR dX10_column_47
  · refine J_iload_n 2 hX dX10_column_13 fz2 rfl ?_
    refine J_i2l hX dX10_column_14 ?_
    refine J_lconst hX dX10_column_15 fy0 ?_
    refine J_lconst hX dX10_column_16 fy1 ?_
    refine J_callSI (As := [.long (v2.toInt64), .long (0 : Int64), .long (1 : Int64)]) (st := []) hX ms_X10_100 rfl rfl (Nat.le_of_ble_eq_true rfl) (Nat.le_of_ble_eq_true rfl) (Nat.le_of_ble_eq_true rfl) dX10_column_17 (fun r G1 h => ok_X10_in  h) fun r17 G17 => ?_
    refine J_if_ne (tgt := 28) hX dX10_column_20 rfl ?_ ?_
    · refine J_iload_n 2 hX dX10_column_28 fz2 rfl ?_
      refine J_if_ne (tgt := 41) hX dX10_column_29 rfl ?_ ?_
      · refine J_aload_n 0 hX dX10_column_41 fz0 rfl ?_
        refine J_getR (b := 194) hX dX10_column_42 lf_X10_37 sk_186 rfl (by decide) rfl ?_
        refine J_iload_n 1 hX dX10_column_45 fz1 rfl ?_
        refine J_iald hX dX10_column_46 sk_194 ln_194 ?_
        exact J_retI hR dX10_column_47
      · refine J_aload_n 0 hX dX10_column_32 fz0 rfl ?_
        refine J_iconst hX dX10_column_33 ci_0 ?_
        refine J_iload_n 1 hX dX10_column_34 fz1 rfl ?_
        refine J_callVI (As := [.int (0 : Int32), .int v1]) (st := []) (b := 186) hX mv_X10_307 sk_186 rfl rfl rfl (Nat.le_of_ble_eq_true rfl) (Nat.le_of_ble_eq_true rfl) (Nat.le_of_ble_eq_true rfl) dX10_column_35 (fun r G1 h => ok_X10_firstOf  h) fun r35 G35 => ?_
        refine J_goto (tgt := 47) hX dX10_column_38 rfl ?_
        exact J_retI hR dX10_column_47
    · refine J_bipush hX dX10_column_23 cbm_2 ?_
      refine J_goto (tgt := 47) hX dX10_column_25 rfl ?_
      exact J_retI hR dX10_column_47
set_option maxHeartbeats 4000000 in
set_option maxRecDepth 100000 in
theorem ok_X10_numbers {Y : DX}   {G : GM} {r : Int32} {G' : GM} (hf : f_X10_numbers  G = some (r, G')) : OkI Y 4 M_X10_numbers [.ref (AD Y 186)] G r G' := by
  refine okI_of (lv0 := [(0, .ref (AD Y 186))]) (by decide +kernel) rfl (Nat.le_of_ble_eq_true rfl) ?_
  intro X Q hX hR
  have hX : CXok X Y RX10 cX10_numbers 1 _ := hX
  revert hf
  show J X Y 1 Q 0 [(0, .ref (AD Y 186))] [] G (f_X10_numbers  G = some (r, G'))
  unfold f_X10_numbers
  refine J_aload_n 0 hX dX10_numbers_0 fz0 rfl ?_
  refine J_iconst hX dX10_numbers_1 ci_0 ?_
  refine J_putI hX dX10_numbers_2 lf_X10_95 lpt_9_0 sk_186 rfl fun G2 => ?_
  refine J_aload_n 0 hX dX10_numbers_5 fz0 rfl ?_
  refine J_callVI (As := []) (st := []) (b := 186) hX mv_X10_324 sk_186 rfl rfl rfl (Nat.le_of_ble_eq_true rfl) (Nat.le_of_ble_eq_true rfl) (Nat.le_of_ble_eq_true rfl) dX10_numbers_6 (fun r G1 h => ok_X10_isHall  h) fun r6 G6 => ?_
  refine J_if_eq (tgt := 19) hX dX10_numbers_9 rfl ?_ ?_
  · refine J_bipush hX dX10_numbers_19 cbm_2 ?_
    exact J_retI hR dX10_numbers_21
  · refine J_aload_n 0 hX dX10_numbers_12 fz0 rfl ?_
    refine J_callVI (As := []) (st := []) (b := 186) hX mv_X10_332 sk_186 rfl rfl rfl (Nat.le_of_ble_eq_true rfl) (Nat.le_of_ble_eq_true rfl) (Nat.le_of_ble_eq_true rfl) dX10_numbers_13 (fun r G1 h => ok_X10_all  h) fun r13 G13 => ?_
    refine J_goto (tgt := 21) hX dX10_numbers_16 rfl ?_
    exact J_retI hR dX10_numbers_21
set_option maxHeartbeats 4000000 in
set_option maxRecDepth 100000 in
theorem ok_X10_plans_ {Y : DX}   {G : GM} {r : Int32} {G' : GM} (hf : f_X10_plans_  G = some (r, G')) : OkI Y 29 M_X10_plans_ [.ref (AD Y 186)] G r G' := by
  refine okI_of (lv0 := [(0, .ref (AD Y 186))]) (by decide +kernel) rfl (Nat.le_of_ble_eq_true rfl) ?_
  intro X Q hX hR
  have hX : CXok X Y RX10 cX10_plans_ 1 _ := hX
  revert hf
  show J X Y 1 Q 0 [(0, .ref (AD Y 186))] [] G (f_X10_plans_  G = some (r, G'))
  unfold f_X10_plans_
  refine J_aload_n 0 hX dX10_plans__0 fz0 rfl ?_
  refine J_iconst hX dX10_plans__1 ci_0 ?_
  refine J_putI hX dX10_plans__2 lf_X10_95 lpt_9_0 sk_186 rfl fun G2 => ?_
  refine J_aload_n 0 hX dX10_plans__5 fz0 rfl ?_
  refine J_callVI (As := []) (st := []) (b := 186) hX mv_X10_324 sk_186 rfl rfl rfl (Nat.le_of_ble_eq_true rfl) (Nat.le_of_ble_eq_true rfl) (Nat.le_of_ble_eq_true rfl) dX10_plans__6 (fun r G1 h => ok_X10_isHall  h) fun r6 G6 => ?_
  refine J_if_ne (tgt := 15) hX dX10_plans__9 rfl ?_ ?_
  · refine J_aload_n 0 hX dX10_plans__15 fz0 rfl ?_
    refine J_iconst hX dX10_plans__16 ci_0 ?_
    refine J_iconst hX dX10_plans__17 cim_1 ?_
    refine J_callVV (As := [.int (0 : Int32), .int (-1 : Int32)]) (st := []) (b := 186) hX mv_X10_206 sk_186 rfl rfl rfl (Nat.le_of_ble_eq_true rfl) (Nat.le_of_ble_eq_true rfl) (Nat.le_of_ble_eq_true rfl) dX10_plans__18 (fun G1 h => ok_X10_planOf  h) fun G18 => ?_
    refine J_aload_n 0 hX dX10_plans__21 fz0 rfl ?_
    refine J_getI hX dX10_plans__22 lf_X10_210 sk_186 rfl ?_
    exact J_retI hR dX10_plans__25
  · refine J_bipush hX dX10_plans__12 cbm_2 ?_
    exact J_retI hR dX10_plans__14
set_option maxHeartbeats 4000000 in
set_option maxRecDepth 100000 in
theorem ok_X10_plan {Y : DX} {v1 : Int32} {v2 : Int32} {v3 : Int32}  {G : GM} {r : Int32} {G' : GM} (hf : f_X10_plan v1 v2 v3 G = some (r, G')) : OkI Y 29 M_X10_plan [.ref (AD Y 186), .int v1, .int v2, .int v3] G r G' := by
  refine okI_of (lv0 := [(0, .ref (AD Y 186)), (1, .int v1), (2, .int v2), (3, .int v3)]) (by decide +kernel) rfl (Nat.le_of_ble_eq_true rfl) ?_
  intro X Q hX hR
  have hX : CXok X Y RX10 cX10_plan 4 _ := hX
  revert hf
  show J X Y 4 Q 0 [(0, .ref (AD Y 186)), (1, .int v1), (2, .int v2), (3, .int v3)] [] G (f_X10_plan v1 v2 v3 G = some (r, G'))
  unfold f_X10_plan
  refine J_aload_n 0 hX dX10_plan_0 fz0 rfl ?_
  refine J_iconst hX dX10_plan_1 ci_0 ?_
  refine J_putI hX dX10_plan_2 lf_X10_95 lpt_9_0 sk_186 rfl fun G2 => ?_
  refine J_aload_n 0 hX dX10_plan_5 fz0 rfl ?_
  refine J_iload_n 2 hX dX10_plan_6 fz2 rfl ?_
  refine J_callVI (As := [.int v2]) (st := []) (b := 186) hX mv_X10_336 sk_186 rfl rfl rfl (Nat.le_of_ble_eq_true rfl) (Nat.le_of_ble_eq_true rfl) (Nat.le_of_ble_eq_true rfl) dX10_plan_7 (fun r G1 h => ok_X10_isCard  h) fun r7 G7 => ?_
  refine J_if_eq (tgt := 21) hX dX10_plan_10 rfl ?_ ?_
  · refine J_bipush hX dX10_plan_21 cbm_2 ?_
    exact J_retI hR dX10_plan_23
  · refine J_aload_n 0 hX dX10_plan_13 fz0 rfl ?_
    refine J_iload_n 3 hX dX10_plan_14 fz3 rfl ?_
    refine J_callVI (As := [.int v3]) (st := []) (b := 186) hX mv_X10_329 sk_186 rfl rfl rfl (Nat.le_of_ble_eq_true rfl) (Nat.le_of_ble_eq_true rfl) (Nat.le_of_ble_eq_true rfl) dX10_plan_15 (fun r G1 h => ok_X10_isColumn  h) fun r15 G15 => ?_
    refine J_if_ne (tgt := 24) hX dX10_plan_18 rfl ?_ ?_
    · refine J_aload_n 0 hX dX10_plan_24 fz0 rfl ?_
      refine J_iconst hX dX10_plan_25 ci_0 ?_
      refine J_iload_n 1 hX dX10_plan_26 fz1 rfl ?_
      refine J_callVV (As := [.int (0 : Int32), .int v1]) (st := []) (b := 186) hX mv_X10_206 sk_186 rfl rfl rfl (Nat.le_of_ble_eq_true rfl) (Nat.le_of_ble_eq_true rfl) (Nat.le_of_ble_eq_true rfl) dX10_plan_27 (fun G1 h => ok_X10_planOf  h) fun G27 => ?_
      refine J_iload_n 1 hX dX10_plan_30 fz1 rfl ?_
      refine J_i2l hX dX10_plan_31 ?_
      refine J_lconst hX dX10_plan_32 fy0 ?_
      refine J_aload_n 0 hX dX10_plan_33 fz0 rfl ?_
      refine J_getI hX dX10_plan_34 lf_X10_210 sk_186 rfl ?_
      refine J_iconst hX dX10_plan_37 ci_1 ?_
      refine J_isub hX dX10_plan_38 ?_
      refine J_i2l hX dX10_plan_39 ?_
      refine J_callSI (As := [.long (v1.toInt64), .long (0 : Int64), .long (((gI G27 186 26) - (1 : Int32)).toInt64)]) (st := []) hX ms_X10_100 rfl rfl (Nat.le_of_ble_eq_true rfl) (Nat.le_of_ble_eq_true rfl) (Nat.le_of_ble_eq_true rfl) dX10_plan_40 (fun r G1 h => ok_X10_in  h) fun r40 G40 => ?_
      refine J_if_eq (tgt := 59) hX dX10_plan_43 rfl ?_ ?_
      · refine J_iconst hX dX10_plan_59 cim_1 ?_
        exact J_retI hR dX10_plan_60
      · refine J_aload_n 0 hX dX10_plan_46 fz0 rfl ?_
        refine J_getR (b := 200) hX dX10_plan_47 lf_X10_56 sk_186 rfl (by decide) rfl ?_
        refine J_iconst hX dX10_plan_50 ci_5 ?_
        refine J_iload_n 2 hX dX10_plan_51 fz2 rfl ?_
        refine J_imul hX dX10_plan_52 ?_
        refine J_iload_n 3 hX dX10_plan_53 fz3 rfl ?_
        refine J_iadd hX dX10_plan_54 ?_
        refine J_iald hX dX10_plan_55 sk_200 ln_200 ?_
        refine J_goto (tgt := 60) hX dX10_plan_56 rfl ?_
        exact J_retI hR dX10_plan_60
    · refine J_bipush hX dX10_plan_21 cbm_2 ?_
      exact J_retI hR dX10_plan_23
set_option maxHeartbeats 4000000 in
set_option maxRecDepth 100000 in
theorem ok_X10_whyNot {Y : DX} {v1 : Int32}  {G : GM} {r : Int32} {G' : GM} (hf : f_X10_whyNot v1 G = some (r, G')) : OkI Y 3 M_X10_whyNot [.ref (AD Y 186), .int v1] G r G' := by
  refine okI_of (lv0 := [(0, .ref (AD Y 186)), (1, .int v1)]) (by decide +kernel) rfl (Nat.le_of_ble_eq_true rfl) ?_
  intro X Q hX hR
  have hX : CXok X Y RX10 cX10_whyNot 2 _ := hX
  revert hf
  show J X Y 2 Q 0 [(0, .ref (AD Y 186)), (1, .int v1)] [] G (f_X10_whyNot v1 G = some (r, G'))
  unfold f_X10_whyNot
  refine J_iload_n 1 hX dX10_whyNot_0 fz1 rfl ?_
  refine J_callSI (As := [.int v1]) (st := []) hX ms_X10_104 rfl rfl (Nat.le_of_ble_eq_true rfl) (Nat.le_of_ble_eq_true rfl) (Nat.le_of_ble_eq_true rfl) dX10_whyNot_1 (fun r G1 h => ok_X10_isSlot  h) fun r1 G1 => ?_
  refine J_if_eq (tgt := 14) hX dX10_whyNot_4 rfl ?_ ?_
  · refine J_bipush hX dX10_whyNot_14 cbm_2 ?_
    refine J_goto (tgt := 35) hX dX10_whyNot_16 rfl ?_
    exact J_retI hR dX10_whyNot_35
  · refine J_aload_n 0 hX dX10_whyNot_7 fz0 rfl ?_
    refine J_callVI (As := []) (st := []) (b := 186) hX mv_X10_324 sk_186 rfl rfl rfl (Nat.le_of_ble_eq_true rfl) (Nat.le_of_ble_eq_true rfl) (Nat.le_of_ble_eq_true rfl) dX10_whyNot_8 (fun r G1 h => ok_X10_isHall  h) fun r8 G8 => ?_
    refine J_if_ne (tgt := 19) hX dX10_whyNot_11 rfl ?_ ?_
    · refine J_aload_n 0 hX dX10_whyNot_19 fz0 rfl ?_
      refine J_getR (b := 187) hX dX10_whyNot_20 lf_X10_7 sk_186 rfl (by decide) rfl ?_
      refine J_iload_n 1 hX dX10_whyNot_23 fz1 rfl ?_
      refine J_iald hX dX10_whyNot_24 sk_187 ln_187 ?_
      refine J_iconst hX dX10_whyNot_25 cim_1 ?_
      refine J_icmp_ne (tgt := 34) hX dX10_whyNot_26 rfl ?_ ?_
      · refine J_iconst hX dX10_whyNot_34 ci_0 ?_
        exact J_retI hR dX10_whyNot_35
      · refine J_bipush hX dX10_whyNot_29 cbm_6 ?_
        refine J_goto (tgt := 35) hX dX10_whyNot_31 rfl ?_
        exact J_retI hR dX10_whyNot_35
    · refine J_bipush hX dX10_whyNot_14 cbm_2 ?_
      refine J_goto (tgt := 35) hX dX10_whyNot_16 rfl ?_
      exact J_retI hR dX10_whyNot_35
set_option maxHeartbeats 4000000 in
set_option maxRecDepth 100000 in
theorem ok_X10_layouts_ {Y : DX} {v1 : Int32}  {G : GM} {r : Int32} {G' : GM} (hf : f_X10_layouts_ v1 G = some (r, G')) : OkI Y 10 M_X10_layouts_ [.ref (AD Y 186), .int v1] G r G' := by
  refine okI_of (lv0 := [(0, .ref (AD Y 186)), (1, .int v1)]) (by decide +kernel) rfl (Nat.le_of_ble_eq_true rfl) ?_
  intro X Q hX hR
  have hX : CXok X Y RX10 cX10_layouts_ 4 _ := hX
  revert hf
  show J X Y 4 Q 0 [(0, .ref (AD Y 186)), (1, .int v1)] [] G (f_X10_layouts_ v1 G = some (r, G'))
  have K37 : ∀  (n : Nat) (v3 : Int32) (G : GM), J X Y 4 Q 37 [(0, .ref (AD Y 186)), (1, .int v1), (3, .int v3)] [] G (wl1 n (lp_X10_layouts__37 v1) v3 G = some (r, G')) := by
    refine wl1_ind (R := fun v3 G φ => J X Y 4 Q 37 [(0, .ref (AD Y 186)), (1, .int v1), (3, .int v3)] [] G φ) (fun _ G φ h => J_no h) ?_
    intro kc37 hk37 v3 G
    unfold lp_X10_layouts__37
    refine J_iload_n 2 hX dX10_layouts__37 fz3 rfl ?_
    refine J_aload_n 0 hX dX10_layouts__38 fz0 rfl ?_
    refine J_getR (b := 188) hX dX10_layouts__39 lf_X10_13 sk_186 rfl (by decide) rfl ?_
    refine J_iload_n 1 hX dX10_layouts__42 fz1 rfl ?_
    refine J_iald hX dX10_layouts__43 sk_188 ln_188 ?_
    refine J_icmp_ge (tgt := 94) hX dX10_layouts__44 rfl ?_ ?_
    · refine J_aload_n 0 hX dX10_layouts__94 fz0 rfl ?_
      refine J_iconst hX dX10_layouts__95 ci_0 ?_
      refine J_iconst hX dX10_layouts__96 cim_1 ?_
      refine J_callVV (As := [.int (0 : Int32), .int (-1 : Int32)]) (st := []) (b := 186) hX mv_X10_304 sk_186 rfl rfl rfl (Nat.le_of_ble_eq_true rfl) (Nat.le_of_ble_eq_true rfl) (Nat.le_of_ble_eq_true rfl) dX10_layouts__97 (fun G1 h => ok_X10_layoutOf  h) fun G97 => ?_
      refine J_aload_n 0 hX dX10_layouts__100 fz0 rfl ?_
      refine J_getI hX dX10_layouts__101 lf_X10_270 sk_186 rfl ?_
      exact J_retI hR dX10_layouts__104
    · refine J_aload_n 0 hX dX10_layouts__47 fz0 rfl ?_
      refine J_getR (b := 189) hX dX10_layouts__48 lf_X10_16 sk_186 rfl (by decide) rfl ?_
      refine J_bipush hX dX10_layouts__51 cb_60 ?_
      refine J_iload_n 1 hX dX10_layouts__53 fz1 rfl ?_
      refine J_imul hX dX10_layouts__54 ?_
      refine J_iload_n 2 hX dX10_layouts__55 fz3 rfl ?_
      refine J_iadd hX dX10_layouts__56 ?_
      refine J_lald hX dX10_layouts__57 sk_189 ln_189 ?_
      refine J_lconst hX dX10_layouts__58 fy0 ?_
      refine J_ldc2 hX dX10_layouts__59 ll_X10_98 ?_
      refine J_callSI (As := [.long (gJ G 189 (((60 : Int32) * v1) + v3).toNatClampNeg), .long (0 : Int64), .long (3 : Int64)]) (st := []) hX ms_X10_100 rfl rfl (Nat.le_of_ble_eq_true rfl) (Nat.le_of_ble_eq_true rfl) (Nat.le_of_ble_eq_true rfl) dX10_layouts__62 (fun r G1 h => ok_X10_in  h) fun r62 G62 => ?_
      refine J_if_ne (tgt := 70) hX dX10_layouts__65 rfl ?_ ?_
      · refine J_aload_n 0 hX dX10_layouts__70 fz0 rfl ?_
        refine J_getR (b := 202) hX dX10_layouts__71 lf_X10_62 sk_186 rfl (by decide) rfl ?_
        refine J_iload_n 2 hX dX10_layouts__74 fz3 rfl ?_
        refine J_aload_n 0 hX dX10_layouts__75 fz0 rfl ?_
        refine J_getR (b := 189) hX dX10_layouts__76 lf_X10_16 sk_186 rfl (by decide) rfl ?_
        refine J_bipush hX dX10_layouts__79 cb_60 ?_
        refine J_iload_n 1 hX dX10_layouts__81 fz1 rfl ?_
        refine J_imul hX dX10_layouts__82 ?_
        refine J_iload_n 2 hX dX10_layouts__83 fz3 rfl ?_
        refine J_iadd hX dX10_layouts__84 ?_
        refine J_lald hX dX10_layouts__85 sk_189 ln_189 ?_
        refine J_l2i hX dX10_layouts__86 ?_
        refine J_iast hX dX10_layouts__87 sk_202 ln_202 fun G87 => ?_
        refine J_iinc (lv' := [(3, .int (v3 + (1 : Int32))), (0, .ref (AD Y 186)), (1, .int v1)]) 2 hX dX10_layouts__88 rfl ci_1 (Nat.le_of_ble_eq_true rfl) rfl ?_
        refine J_goto (tgt := 37) hX dX10_layouts__91 rfl ?_
        refine J_sub (lv' := [(0, .ref (AD Y 186)), (1, .int v1), (3, .int (v3 + (1 : Int32)))]) [1, 2, 0] rfl ?_
        exact hk37 (v3 + (1 : Int32)) G87
      · refine J_iconst hX dX10_layouts__68 ci_0 ?_
        exact J_retI hR dX10_layouts__69
  unfold f_X10_layouts_
  refine J_aload_n 0 hX dX10_layouts__0 fz0 rfl ?_
  refine J_iconst hX dX10_layouts__1 ci_0 ?_
  refine J_putI hX dX10_layouts__2 lf_X10_95 lpt_9_0 sk_186 rfl fun G2 => ?_
  refine J_aload_n 0 hX dX10_layouts__5 fz0 rfl ?_
  refine J_iload_n 1 hX dX10_layouts__6 fz1 rfl ?_
  refine J_callVI (As := [.int v1]) (st := []) (b := 186) hX mv_X10_339 sk_186 rfl rfl rfl (Nat.le_of_ble_eq_true rfl) (Nat.le_of_ble_eq_true rfl) (Nat.le_of_ble_eq_true rfl) dX10_layouts__7 (fun r G1 h => ok_X10_whyNot  h) fun r7 G7 => ?_
  refine J_istore_n (lv' := [(2, .int r7), (0, .ref (AD Y 186)), (1, .int v1)]) hX dX10_layouts__10 fz2 (Nat.le_of_ble_eq_true rfl) rfl ?_
  refine J_iload_n 0 hX dX10_layouts__11 fz2 rfl ?_
  refine J_if_eq (tgt := 17) hX dX10_layouts__12 rfl ?_ ?_
  · refine J_aload_n 1 hX dX10_layouts__17 fz0 rfl ?_
    refine J_getR (b := 188) hX dX10_layouts__18 lf_X10_13 sk_186 rfl (by decide) rfl ?_
    refine J_iload_n 2 hX dX10_layouts__21 fz1 rfl ?_
    refine J_iald hX dX10_layouts__22 sk_188 ln_188 ?_
    refine J_aload_n 1 hX dX10_layouts__23 fz0 rfl ?_
    refine J_getR (b := 193) hX dX10_layouts__24 lf_X10_34 sk_186 rfl (by decide) rfl ?_
    refine J_iconst hX dX10_layouts__27 ci_3 ?_
    refine J_iald hX dX10_layouts__28 sk_193 ln_193 ?_
    refine J_icmp_eq (tgt := 35) hX dX10_layouts__29 rfl ?_ ?_
    · refine J_iconst hX dX10_layouts__35 ci_0 ?_
      refine J_istore_n (lv' := [(3, .int (0 : Int32)), (2, .int r7), (0, .ref (AD Y 186)), (1, .int v1)]) hX dX10_layouts__36 fz3 (Nat.le_of_ble_eq_true rfl) rfl ?_
      refine J_sub (lv' := [(0, .ref (AD Y 186)), (1, .int v1), (3, .int (0 : Int32))]) [2, 3, 0] rfl ?_
      exact K37  FU (0 : Int32) G7
    · refine J_bipush hX dX10_layouts__32 cbm_7 ?_
      exact J_retI hR dX10_layouts__34
  · refine J_iload_n 0 hX dX10_layouts__15 fz2 rfl ?_
    exact J_retI hR dX10_layouts__16
set_option maxHeartbeats 4000000 in
set_option maxRecDepth 100000 in
theorem ok_X10_made {Y : DX} {v1 : Int32}  {G : GM} {r : Int32} {G' : GM} (hf : f_X10_made v1 G = some (r, G')) : OkI Y 30 M_X10_made [.ref (AD Y 186), .int v1] G r G' := by
  refine okI_of (lv0 := [(0, .ref (AD Y 186)), (1, .int v1)]) (by decide +kernel) rfl (Nat.le_of_ble_eq_true rfl) ?_
  intro X Q hX hR
  have hX : CXok X Y RX10 cX10_made 2 _ := hX
  revert hf
  show J X Y 2 Q 0 [(0, .ref (AD Y 186)), (1, .int v1)] [] G (f_X10_made v1 G = some (r, G'))
  unfold f_X10_made
  refine J_aload_n 0 hX dX10_made_0 fz0 rfl ?_
  refine J_iconst hX dX10_made_1 ci_0 ?_
  refine J_putI hX dX10_made_2 lf_X10_95 lpt_9_0 sk_186 rfl fun G2 => ?_
  refine J_aload_n 0 hX dX10_made_5 fz0 rfl ?_
  refine J_iload_n 1 hX dX10_made_6 fz1 rfl ?_
  refine J_callVI (As := [.int v1]) (st := []) (b := 186) hX mv_X10_342 sk_186 rfl rfl rfl (Nat.le_of_ble_eq_true rfl) (Nat.le_of_ble_eq_true rfl) (Nat.le_of_ble_eq_true rfl) dX10_made_7 (fun r G1 h => ok_X10_isSerial  h) fun r7 G7 => ?_
  refine J_if_ne (tgt := 16) hX dX10_made_10 rfl ?_ ?_
  · refine J_aload_n 0 hX dX10_made_16 fz0 rfl ?_
    refine J_iconst hX dX10_made_17 ci_0 ?_
    refine J_iload_n 1 hX dX10_made_18 fz1 rfl ?_
    refine J_iconst hX dX10_made_19 ci_0 ?_
    refine J_callVV (As := [.int (0 : Int32), .int v1, .int (0 : Int32)]) (st := []) (b := 186) hX mv_X10_317 sk_186 rfl rfl rfl (Nat.le_of_ble_eq_true rfl) (Nat.le_of_ble_eq_true rfl) (Nat.le_of_ble_eq_true rfl) dX10_made_20 (fun G1 h => ok_X10_makes  h) fun G20 => ?_
    refine J_aload_n 0 hX dX10_made_23 fz0 rfl ?_
    refine J_getI hX dX10_made_24 lf_X10_301 sk_186 rfl ?_
    exact J_retI hR dX10_made_27
  · refine J_bipush hX dX10_made_13 cbm_2 ?_
    exact J_retI hR dX10_made_15
set_option maxHeartbeats 4000000 in
set_option maxRecDepth 100000 in
theorem ok_X10_cell {Y : DX} {v1 : Int32} {v2 : Int32} {v3 : Int32} {v4 : Int32}  {G : GM} {r : Int32} {G' : GM} (hf : f_X10_cell v1 v2 v3 v4 G = some (r, G')) : OkI Y 30 M_X10_cell [.ref (AD Y 186), .int v1, .int v2, .int v3, .int v4] G r G' := by
  refine okI_of (lv0 := [(0, .ref (AD Y 186)), (1, .int v1), (2, .int v2), (3, .int v3), (4, .int v4)]) (by decide +kernel) rfl (Nat.le_of_ble_eq_true rfl) ?_
  intro X Q hX hR
  have hX : CXok X Y RX10 cX10_cell 5 _ := hX
  revert hf
  show J X Y 5 Q 0 [(0, .ref (AD Y 186)), (1, .int v1), (2, .int v2), (3, .int v3), (4, .int v4)] [] G (f_X10_cell v1 v2 v3 v4 G = some (r, G'))
  unfold f_X10_cell
  refine J_aload_n 0 hX dX10_cell_0 fz0 rfl ?_
  refine J_iconst hX dX10_cell_1 ci_0 ?_
  refine J_putI hX dX10_cell_2 lf_X10_95 lpt_9_0 sk_186 rfl fun G2 => ?_
  refine J_aload_n 0 hX dX10_cell_5 fz0 rfl ?_
  refine J_iload_n 1 hX dX10_cell_6 fz1 rfl ?_
  refine J_callVI (As := [.int v1]) (st := []) (b := 186) hX mv_X10_342 sk_186 rfl rfl rfl (Nat.le_of_ble_eq_true rfl) (Nat.le_of_ble_eq_true rfl) (Nat.le_of_ble_eq_true rfl) dX10_cell_7 (fun r G1 h => ok_X10_isSerial  h) fun r7 G7 => ?_
  refine J_if_eq (tgt := 48) hX dX10_cell_10 rfl ?_ ?_
  · refine J_bipush hX dX10_cell_48 cbm_2 ?_
    exact J_retI hR dX10_cell_50
  · refine J_aload_n 0 hX dX10_cell_13 fz0 rfl ?_
    refine J_iload_n 2 hX dX10_cell_14 fz2 rfl ?_
    refine J_callVI (As := [.int v2]) (st := []) (b := 186) hX mv_X10_336 sk_186 rfl rfl rfl (Nat.le_of_ble_eq_true rfl) (Nat.le_of_ble_eq_true rfl) (Nat.le_of_ble_eq_true rfl) dX10_cell_15 (fun r G1 h => ok_X10_isCard  h) fun r15 G15 => ?_
    refine J_if_eq (tgt := 48) hX dX10_cell_18 rfl ?_ ?_
    · refine J_bipush hX dX10_cell_48 cbm_2 ?_
      exact J_retI hR dX10_cell_50
    · refine J_iload_n 3 hX dX10_cell_21 fz3 rfl ?_
      refine J_i2l hX dX10_cell_22 ?_
      refine J_lconst hX dX10_cell_23 fy0 ?_
      refine J_aload_n 0 hX dX10_cell_24 fz0 rfl ?_
      refine J_getR (b := 193) hX dX10_cell_25 lf_X10_34 sk_186 rfl (by decide) rfl ?_
      refine J_iconst hX dX10_cell_28 ci_1 ?_
      refine J_iald hX dX10_cell_29 sk_193 ln_193 ?_
      refine J_iconst hX dX10_cell_30 ci_1 ?_
      refine J_isub hX dX10_cell_31 ?_
      refine J_i2l hX dX10_cell_32 ?_
      refine J_callSI (As := [.long (v3.toInt64), .long (0 : Int64), .long (((gI G15 193 (1 : Int32).toNatClampNeg) - (1 : Int32)).toInt64)]) (st := []) hX ms_X10_100 rfl rfl (Nat.le_of_ble_eq_true rfl) (Nat.le_of_ble_eq_true rfl) (Nat.le_of_ble_eq_true rfl) dX10_cell_33 (fun r G1 h => ok_X10_in  h) fun r33 G33 => ?_
      refine J_if_eq (tgt := 48) hX dX10_cell_36 rfl ?_ ?_
      · refine J_bipush hX dX10_cell_48 cbm_2 ?_
        exact J_retI hR dX10_cell_50
      · refine J_aload_n 0 hX dX10_cell_39 fz0 rfl ?_
        refine J_iload 4 hX dX10_cell_40 rfl ?_
        refine J_callVI (As := [.int v4]) (st := []) (b := 186) hX mv_X10_329 sk_186 rfl rfl rfl (Nat.le_of_ble_eq_true rfl) (Nat.le_of_ble_eq_true rfl) (Nat.le_of_ble_eq_true rfl) dX10_cell_42 (fun r G1 h => ok_X10_isColumn  h) fun r42 G42 => ?_
        refine J_if_ne (tgt := 51) hX dX10_cell_45 rfl ?_ ?_
        · refine J_aload_n 0 hX dX10_cell_51 fz0 rfl ?_
          refine J_iconst hX dX10_cell_52 ci_0 ?_
          refine J_iload_n 1 hX dX10_cell_53 fz1 rfl ?_
          refine J_iconst hX dX10_cell_54 ci_0 ?_
          refine J_callVV (As := [.int (0 : Int32), .int v1, .int (0 : Int32)]) (st := []) (b := 186) hX mv_X10_317 sk_186 rfl rfl rfl (Nat.le_of_ble_eq_true rfl) (Nat.le_of_ble_eq_true rfl) (Nat.le_of_ble_eq_true rfl) dX10_cell_55 (fun G1 h => ok_X10_makes  h) fun G55 => ?_
          refine J_aload_n 0 hX dX10_cell_58 fz0 rfl ?_
          refine J_getR (b := 206) hX dX10_cell_59 lf_X10_74 sk_186 rfl (by decide) rfl ?_
          refine J_aload_n 0 hX dX10_cell_62 fz0 rfl ?_
          refine J_iconst hX dX10_cell_63 ci_0 ?_
          refine J_iload_n 2 hX dX10_cell_64 fz2 rfl ?_
          refine J_iload_n 3 hX dX10_cell_65 fz3 rfl ?_
          refine J_iload 4 hX dX10_cell_66 rfl ?_
          refine J_callVI (As := [.int (0 : Int32), .int v2, .int v3, .int v4]) (st := [.ref (AD Y 206)]) (b := 186) hX mv_X10_314 sk_186 rfl rfl rfl (Nat.le_of_ble_eq_true rfl) (Nat.le_of_ble_eq_true rfl) (Nat.le_of_ble_eq_true rfl) dX10_cell_68 (fun r G1 h => ok_X10_at  h) fun r68 G68 => ?_
          refine J_iald hX dX10_cell_71 sk_206 ln_206 ?_
          exact J_retI hR dX10_cell_72
        · refine J_bipush hX dX10_cell_48 cbm_2 ?_
          exact J_retI hR dX10_cell_50
set_option maxHeartbeats 4000000 in
set_option maxRecDepth 100000 in
theorem ok_X10_isNumber {Y : DX} {v1 : Int64}  {G : GM} {r : Int32} {G' : GM} (hf : f_X10_isNumber v1 G = some (r, G')) : OkI Y 4 M_X10_isNumber [.ref (AD Y 186), .long v1] G r G' := by
  refine okZ_of (lv0 := [(0, .ref (AD Y 186)), (1, .long v1)]) (by decide +kernel) rfl (Nat.le_of_ble_eq_true rfl) ?_
  intro X Q hX hR
  have hX : CXok X Y RX10 cX10_isNumber 3 _ := hX
  revert hf
  show J X Y 3 Q 0 [(0, .ref (AD Y 186)), (1, .long v1)] [] G (f_X10_isNumber v1 G = some (r, G'))
  unfold f_X10_isNumber
  refine J_aload_n 0 hX dX10_isNumber_0 fz0 rfl ?_
  refine J_callVI (As := []) (st := []) (b := 186) hX mv_X10_324 sk_186 rfl rfl rfl (Nat.le_of_ble_eq_true rfl) (Nat.le_of_ble_eq_true rfl) (Nat.le_of_ble_eq_true rfl) dX10_isNumber_1 (fun r G1 h => ok_X10_isHall  h) fun r1 G1 => ?_
  refine J_if_eq (tgt := 24) hX dX10_isNumber_4 rfl ?_ ?_
  · refine J_iconst hX dX10_isNumber_24 ci_0 ?_
    exact J_retZ hR (by decide) dX10_isNumber_25
  · refine J_lload_n 1 hX dX10_isNumber_7 fz1 rfl ?_
    refine J_lconst hX dX10_isNumber_8 fy1 ?_
    refine J_aload_n 0 hX dX10_isNumber_9 fz0 rfl ?_
    refine J_callVI (As := []) (st := [.long (1 : Int64), .long v1]) (b := 186) hX mv_X10_332 sk_186 rfl rfl rfl (Nat.le_of_ble_eq_true rfl) (Nat.le_of_ble_eq_true rfl) (Nat.le_of_ble_eq_true rfl) dX10_isNumber_10 (fun r G1 h => ok_X10_all  h) fun r10 G10 => ?_
    refine J_i2l hX dX10_isNumber_13 ?_
    refine J_callSI (As := [.long v1, .long (1 : Int64), .long (r10.toInt64)]) (st := []) hX ms_X10_100 rfl rfl (Nat.le_of_ble_eq_true rfl) (Nat.le_of_ble_eq_true rfl) (Nat.le_of_ble_eq_true rfl) dX10_isNumber_14 (fun r G1 h => ok_X10_in  h) fun r14 G14 => ?_
    refine J_if_eq (tgt := 24) hX dX10_isNumber_17 rfl ?_ ?_
    · refine J_iconst hX dX10_isNumber_24 ci_0 ?_
      exact J_retZ hR (by decide) dX10_isNumber_25
    · refine J_iconst hX dX10_isNumber_20 ci_1 ?_
      refine J_goto (tgt := 25) hX dX10_isNumber_21 rfl ?_
      exact J_retZ hR (by decide) dX10_isNumber_25
set_option maxHeartbeats 4000000 in
set_option maxRecDepth 100000 in
theorem ok_X10_where {Y : DX} {v1 : Int32} {v2 : Int32}  {G : GM} {r : Int32} {G' : GM} (hf : f_X10_where v1 v2 G = some (r, G')) : OkI Y 30 M_X10_where [.ref (AD Y 186), .int v1, .int v2] G r G' := by
  refine okI_of (lv0 := [(0, .ref (AD Y 186)), (1, .int v1), (2, .int v2)]) (by decide +kernel) rfl (Nat.le_of_ble_eq_true rfl) ?_
  intro X Q hX hR
  have hX : CXok X Y RX10 cX10_where 6 _ := hX
  revert hf
  show J X Y 6 Q 0 [(0, .ref (AD Y 186)), (1, .int v1), (2, .int v2)] [] G (f_X10_where v1 v2 G = some (r, G'))
  have K34 : ∀  (n : Nat) (v3 : Int32) (G : GM), J X Y 6 Q 34 [(0, .ref (AD Y 186)), (2, .int v2), (3, .int v3)] [] G (wl1 n (lp_X10_where_34 v1 v2) v3 G = some (r, G')) := by
    refine wl1_ind (R := fun v3 G φ => J X Y 6 Q 34 [(0, .ref (AD Y 186)), (2, .int v2), (3, .int v3)] [] G φ) (fun _ G φ h => J_no h) ?_
    intro kc34 hk34 v3 G
    unfold lp_X10_where_34
    have K42 : ∀ (v3 : Int32) (n : Nat) (v4 : Int32) (G : GM), J X Y 6 Q 42 [(0, .ref (AD Y 186)), (2, .int v2), (3, .int v3), (4, .int v4)] [] G (wl1 n (lp_X10_where_42 v1 v2 v3 kc34) v4 G = some (r, G')) := by
      intro v3
      refine wl1_ind (R := fun v4 G φ => J X Y 6 Q 42 [(0, .ref (AD Y 186)), (2, .int v2), (3, .int v3), (4, .int v4)] [] G φ) (fun _ G φ h => J_no h) ?_
      intro kc42 hk42 v4 G
      unfold lp_X10_where_42
      have K51 : ∀ (v4 : Int32) (n : Nat) (v5 : Int32) (G : GM), J X Y 6 Q 51 [(0, .ref (AD Y 186)), (2, .int v2), (3, .int v3), (4, .int v4), (5, .int v5)] [] G (wl1 n (lp_X10_where_51 v1 v2 v3 v4 kc34 kc42) v5 G = some (r, G')) := by
        intro v4
        refine wl1_ind (R := fun v5 G φ => J X Y 6 Q 51 [(0, .ref (AD Y 186)), (2, .int v2), (3, .int v3), (4, .int v4), (5, .int v5)] [] G φ) (fun _ G φ h => J_no h) ?_
        intro kc51 hk51 v5 G
        unfold lp_X10_where_51
        refine J_iload 4 hX dX10_where_51 rfl ?_
        refine J_iconst hX dX10_where_53 ci_5 ?_
        refine J_icmp_ge (tgt := 96) hX dX10_where_54 rfl ?_ ?_
        · refine J_iinc (lv' := [(4, .int (v4 + (1 : Int32))), (0, .ref (AD Y 186)), (2, .int v2), (3, .int v3), (5, .int v5)]) 3 hX dX10_where_96 rfl ci_1 (Nat.le_of_ble_eq_true rfl) rfl ?_
          refine J_goto (tgt := 42) hX dX10_where_99 rfl ?_
          refine J_sub (lv' := [(0, .ref (AD Y 186)), (2, .int v2), (3, .int v3), (4, .int (v4 + (1 : Int32)))]) [1, 2, 3, 0] rfl ?_
          exact hk42 (v4 + (1 : Int32)) G
        · refine J_aload_n 0 hX dX10_where_57 fz0 rfl ?_
          refine J_getR (b := 206) hX dX10_where_58 lf_X10_74 sk_186 rfl (by decide) rfl ?_
          refine J_aload_n 0 hX dX10_where_61 fz0 rfl ?_
          refine J_iconst hX dX10_where_62 ci_0 ?_
          refine J_iload_n 2 hX dX10_where_63 fz3 rfl ?_
          refine J_iload 3 hX dX10_where_64 rfl ?_
          refine J_iload 4 hX dX10_where_66 rfl ?_
          refine J_callVI (As := [.int (0 : Int32), .int v3, .int v4, .int v5]) (st := [.ref (AD Y 206)]) (b := 186) hX mv_X10_314 sk_186 rfl rfl rfl (Nat.le_of_ble_eq_true rfl) (Nat.le_of_ble_eq_true rfl) (Nat.le_of_ble_eq_true rfl) dX10_where_68 (fun r G1 h => ok_X10_at  h) fun r68 G68 => ?_
          refine J_iald hX dX10_where_71 sk_206 ln_206 ?_
          refine J_iload_n 1 hX dX10_where_72 fz2 rfl ?_
          refine J_icmp_ne (tgt := 90) hX dX10_where_73 rfl ?_ ?_
          · refine J_iinc (lv' := [(5, .int (v5 + (1 : Int32))), (0, .ref (AD Y 186)), (2, .int v2), (3, .int v3), (4, .int v4)]) 4 hX dX10_where_90 rfl ci_1 (Nat.le_of_ble_eq_true rfl) rfl ?_
            refine J_goto (tgt := 51) hX dX10_where_93 rfl ?_
            refine J_sub (lv' := [(0, .ref (AD Y 186)), (2, .int v2), (3, .int v3), (4, .int v4), (5, .int (v5 + (1 : Int32)))]) [1, 2, 3, 4, 0] rfl ?_
            exact hk51 (v5 + (1 : Int32)) G68
          · refine J_bipush hX dX10_where_76 cb_100 ?_
            refine J_iload_n 2 hX dX10_where_78 fz3 rfl ?_
            refine J_imul hX dX10_where_79 ?_
            refine J_bipush hX dX10_where_80 cb_10 ?_
            refine J_iload 3 hX dX10_where_82 rfl ?_
            refine J_imul hX dX10_where_84 ?_
            refine J_iadd hX dX10_where_85 ?_
            refine J_iload 4 hX dX10_where_86 rfl ?_
            refine J_iadd hX dX10_where_88 ?_
            exact J_retI hR dX10_where_89
      refine J_iload 3 hX dX10_where_42 rfl ?_
      refine J_iconst hX dX10_where_44 ci_3 ?_
      refine J_icmp_ge (tgt := 102) hX dX10_where_45 rfl ?_ ?_
      · refine J_iinc (lv' := [(3, .int (v3 + (1 : Int32))), (0, .ref (AD Y 186)), (2, .int v2), (4, .int v4)]) 2 hX dX10_where_102 rfl ci_1 (Nat.le_of_ble_eq_true rfl) rfl ?_
        refine J_goto (tgt := 34) hX dX10_where_105 rfl ?_
        refine J_sub (lv' := [(0, .ref (AD Y 186)), (2, .int v2), (3, .int (v3 + (1 : Int32)))]) [1, 2, 0] rfl ?_
        exact hk34 (v3 + (1 : Int32)) G
      · refine J_iconst hX dX10_where_48 ci_0 ?_
        refine J_istore (lv' := [(5, .int (0 : Int32)), (0, .ref (AD Y 186)), (2, .int v2), (3, .int v3), (4, .int v4)]) hX dX10_where_49 (Nat.le_of_ble_eq_true rfl) rfl ?_
        refine J_sub (lv' := [(0, .ref (AD Y 186)), (2, .int v2), (3, .int v3), (4, .int v4), (5, .int (0 : Int32))]) [1, 2, 3, 4, 0] rfl ?_
        exact K51 v4 FU (0 : Int32) G
    refine J_iload_n 2 hX dX10_where_34 fz3 rfl ?_
    refine J_iconst hX dX10_where_35 ci_3 ?_
    refine J_icmp_ge (tgt := 108) hX dX10_where_36 rfl ?_ ?_
    · refine J_iconst hX dX10_where_108 cim_1 ?_
      exact J_retI hR dX10_where_109
    · refine J_iconst hX dX10_where_39 ci_0 ?_
      refine J_istore (lv' := [(4, .int (0 : Int32)), (0, .ref (AD Y 186)), (2, .int v2), (3, .int v3)]) hX dX10_where_40 (Nat.le_of_ble_eq_true rfl) rfl ?_
      refine J_sub (lv' := [(0, .ref (AD Y 186)), (2, .int v2), (3, .int v3), (4, .int (0 : Int32))]) [1, 2, 3, 0] rfl ?_
      exact K42 v3 FU (0 : Int32) G
  unfold f_X10_where
  refine J_aload_n 0 hX dX10_where_0 fz0 rfl ?_
  refine J_iconst hX dX10_where_1 ci_0 ?_
  refine J_putI hX dX10_where_2 lf_X10_95 lpt_9_0 sk_186 rfl fun G2 => ?_
  refine J_aload_n 0 hX dX10_where_5 fz0 rfl ?_
  refine J_iload_n 1 hX dX10_where_6 fz1 rfl ?_
  refine J_callVI (As := [.int v1]) (st := []) (b := 186) hX mv_X10_342 sk_186 rfl rfl rfl (Nat.le_of_ble_eq_true rfl) (Nat.le_of_ble_eq_true rfl) (Nat.le_of_ble_eq_true rfl) dX10_where_7 (fun r G1 h => ok_X10_isSerial  h) fun r7 G7 => ?_
  refine J_if_eq (tgt := 22) hX dX10_where_10 rfl ?_ ?_
  · refine J_bipush hX dX10_where_22 cbm_2 ?_
    exact J_retI hR dX10_where_24
  · refine J_aload_n 0 hX dX10_where_13 fz0 rfl ?_
    refine J_iload_n 2 hX dX10_where_14 fz2 rfl ?_
    refine J_i2l hX dX10_where_15 ?_
    refine J_callVI (As := [.long (v2.toInt64)]) (st := []) (b := 186) hX mv_X10_345 sk_186 rfl rfl rfl (Nat.le_of_ble_eq_true rfl) (Nat.le_of_ble_eq_true rfl) (Nat.le_of_ble_eq_true rfl) dX10_where_16 (fun r G1 h => ok_X10_isNumber  h) fun r16 G16 => ?_
    refine J_if_ne (tgt := 25) hX dX10_where_19 rfl ?_ ?_
    · refine J_aload_n 0 hX dX10_where_25 fz0 rfl ?_
      refine J_iconst hX dX10_where_26 ci_0 ?_
      refine J_iload_n 1 hX dX10_where_27 fz1 rfl ?_
      refine J_iconst hX dX10_where_28 ci_0 ?_
      refine J_callVV (As := [.int (0 : Int32), .int v1, .int (0 : Int32)]) (st := []) (b := 186) hX mv_X10_317 sk_186 rfl rfl rfl (Nat.le_of_ble_eq_true rfl) (Nat.le_of_ble_eq_true rfl) (Nat.le_of_ble_eq_true rfl) dX10_where_29 (fun G1 h => ok_X10_makes  h) fun G29 => ?_
      refine J_iconst hX dX10_where_32 ci_0 ?_
      refine J_istore_n (lv' := [(3, .int (0 : Int32)), (0, .ref (AD Y 186)), (1, .int v1), (2, .int v2)]) hX dX10_where_33 fz3 (Nat.le_of_ble_eq_true rfl) rfl ?_
      refine J_sub (lv' := [(0, .ref (AD Y 186)), (2, .int v2), (3, .int (0 : Int32))]) [1, 3, 0] rfl ?_
      exact K34  FU (0 : Int32) G29
    · refine J_bipush hX dX10_where_22 cbm_2 ?_
      exact J_retI hR dX10_where_24
set_option maxHeartbeats 4000000 in
set_option maxRecDepth 100000 in
theorem ok_X10_same {Y : DX} {v1 : Int32} {v2 : Int32}  {G : GM} {r : Int32} {G' : GM} (hf : f_X10_same v1 v2 G = some (r, G')) : OkI Y 31 M_X10_same [.ref (AD Y 186), .int v1, .int v2] G r G' := by
  refine okI_of (lv0 := [(0, .ref (AD Y 186)), (1, .int v1), (2, .int v2)]) (by decide +kernel) rfl (Nat.le_of_ble_eq_true rfl) ?_
  intro X Q hX hR
  have hX : CXok X Y RX10 cX10_same 3 _ := hX
  revert hf
  show J X Y 3 Q 0 [(0, .ref (AD Y 186)), (1, .int v1), (2, .int v2)] [] G (f_X10_same v1 v2 G = some (r, G'))
  unfold f_X10_same
  refine J_aload_n 0 hX dX10_same_0 fz0 rfl ?_
  refine J_iconst hX dX10_same_1 ci_0 ?_
  refine J_putI hX dX10_same_2 lf_X10_95 lpt_9_0 sk_186 rfl fun G2 => ?_
  refine J_aload_n 0 hX dX10_same_5 fz0 rfl ?_
  refine J_iload_n 1 hX dX10_same_6 fz1 rfl ?_
  refine J_callVI (As := [.int v1]) (st := []) (b := 186) hX mv_X10_342 sk_186 rfl rfl rfl (Nat.le_of_ble_eq_true rfl) (Nat.le_of_ble_eq_true rfl) (Nat.le_of_ble_eq_true rfl) dX10_same_7 (fun r G1 h => ok_X10_isSerial  h) fun r7 G7 => ?_
  refine J_if_eq (tgt := 39) hX dX10_same_10 rfl ?_ ?_
  · refine J_bipush hX dX10_same_39 cbm_2 ?_
    exact J_retI hR dX10_same_41
  · refine J_aload_n 0 hX dX10_same_13 fz0 rfl ?_
    refine J_iload_n 2 hX dX10_same_14 fz2 rfl ?_
    refine J_callVI (As := [.int v2]) (st := []) (b := 186) hX mv_X10_342 sk_186 rfl rfl rfl (Nat.le_of_ble_eq_true rfl) (Nat.le_of_ble_eq_true rfl) (Nat.le_of_ble_eq_true rfl) dX10_same_15 (fun r G1 h => ok_X10_isSerial  h) fun r15 G15 => ?_
    refine J_if_eq (tgt := 39) hX dX10_same_18 rfl ?_ ?_
    · refine J_bipush hX dX10_same_39 cbm_2 ?_
      exact J_retI hR dX10_same_41
    · refine J_aload_n 0 hX dX10_same_21 fz0 rfl ?_
      refine J_iconst hX dX10_same_22 ci_0 ?_
      refine J_iload_n 1 hX dX10_same_23 fz1 rfl ?_
      refine J_iload_n 2 hX dX10_same_24 fz2 rfl ?_
      refine J_callVI (As := [.int (0 : Int32), .int v1, .int v2]) (st := []) (b := 186) hX mv_X10_321 sk_186 rfl rfl rfl (Nat.le_of_ble_eq_true rfl) (Nat.le_of_ble_eq_true rfl) (Nat.le_of_ble_eq_true rfl) dX10_same_25 (fun r G1 h => ok_X10_areSame  h) fun r25 G25 => ?_
      refine J_if_eq (tgt := 35) hX dX10_same_28 rfl ?_ ?_
      · refine J_iconst hX dX10_same_35 ci_0 ?_
        refine J_goto (tgt := 41) hX dX10_same_36 rfl ?_
        exact J_retI hR dX10_same_41
      · refine J_iconst hX dX10_same_31 ci_1 ?_
        refine J_goto (tgt := 41) hX dX10_same_32 rfl ?_
        exact J_retI hR dX10_same_41
set_option maxHeartbeats 4000000 in
set_option maxRecDepth 100000 in
theorem ok_X10_alike {Y : DX} {v1 : Int32} {v2 : Int32} {v3 : Int32} {v4 : Int32}  {G : GM} {r : Int32} {G' : GM} (hf : f_X10_alike v1 v2 v3 v4 G = some (r, G')) : OkI Y 30 M_X10_alike [.ref (AD Y 186), .int v1, .int v2, .int v3, .int v4] G r G' := by
  refine okI_of (lv0 := [(0, .ref (AD Y 186)), (1, .int v1), (2, .int v2), (3, .int v3), (4, .int v4)]) (by decide +kernel) rfl (Nat.le_of_ble_eq_true rfl) ?_
  intro X Q hX hR
  have hX : CXok X Y RX10 cX10_alike 8 _ := hX
  revert hf
  show J X Y 8 Q 0 [(0, .ref (AD Y 186)), (1, .int v1), (2, .int v2), (3, .int v3), (4, .int v4)] [] G (f_X10_alike v1 v2 v3 v4 G = some (r, G'))
  have K61 : ∀  (n : Nat) (v5 : Int32) (v6 : Int32) (G : GM), J X Y 8 Q 61 [(0, .ref (AD Y 186)), (2, .int v2), (4, .int v4), (5, .int v5), (6, .int v6)] [] G (wl2 n (lp_X10_alike_61 v1 v2 v3 v4) v5 v6 G = some (r, G')) := by
    refine wl2_ind (R := fun v5 v6 G φ => J X Y 8 Q 61 [(0, .ref (AD Y 186)), (2, .int v2), (4, .int v4), (5, .int v5), (6, .int v6)] [] G φ) (fun _ _ G φ h => J_no h) ?_
    intro kc61 hk61 v5 v6 G
    unfold lp_X10_alike_61
    have K71 : ∀ (v6 : Int32) (n : Nat) (v5 : Int32) (v7 : Int32) (G : GM), J X Y 8 Q 71 [(0, .ref (AD Y 186)), (2, .int v2), (4, .int v4), (5, .int v5), (6, .int v6), (7, .int v7)] [] G (wl2 n (lp_X10_alike_71 v1 v2 v3 v4 v6 kc61) v5 v7 G = some (r, G')) := by
      intro v6
      refine wl2_ind (R := fun v5 v7 G φ => J X Y 8 Q 71 [(0, .ref (AD Y 186)), (2, .int v2), (4, .int v4), (5, .int v5), (6, .int v6), (7, .int v7)] [] G φ) (fun _ _ G φ h => J_no h) ?_
      intro kc71 hk71 v5 v7 G
      unfold lp_X10_alike_71
      have K131 : ∀ (v7 : Int32) (s0 : Int32) (s1 : Int32) (G : GM), J X Y 8 Q 131 [(0, .ref (AD Y 186)), (2, .int v2), (4, .int v4), (6, .int v6), (7, .int v7)] [.int s0, .int s1] G (k_X10_alike_131 v1 v2 v3 v4 v6 v7 s0 s1 kc61 kc71 G = some (r, G')) := by
        intro v7 s0 s1 G
        unfold k_X10_alike_131
        refine J_iadd hX dX10_alike_131 ?_
        refine J_lt (mk := Value.int) fun x132 => ?_
        refine J_istore (lv' := [(5, .int x132), (0, .ref (AD Y 186)), (2, .int v2), (4, .int v4), (6, .int v6), (7, .int v7)]) hX dX10_alike_132 (Nat.le_of_ble_eq_true rfl) rfl ?_
        refine J_iinc (lv' := [(7, .int (v7 + (1 : Int32))), (5, .int x132), (0, .ref (AD Y 186)), (2, .int v2), (4, .int v4), (6, .int v6)]) 5 hX dX10_alike_134 rfl ci_1 (Nat.le_of_ble_eq_true rfl) rfl ?_
        refine J_goto (tgt := 71) hX dX10_alike_137 rfl ?_
        refine J_sub (lv' := [(0, .ref (AD Y 186)), (2, .int v2), (4, .int v4), (5, .int x132), (6, .int v6), (7, .int (v7 + (1 : Int32)))]) [2, 3, 4, 1, 5, 0] rfl ?_
        exact hk71 x132 (v7 + (1 : Int32)) G
      have K130 : ∀ (v7 : Int32) (s0 : Int32) (G : GM), J X Y 8 Q 130 [(0, .ref (AD Y 186)), (2, .int v2), (4, .int v4), (6, .int v6), (7, .int v7)] [.int s0] G (k_X10_alike_130 v1 v2 v3 v4 v6 v7 s0 kc61 kc71 G = some (r, G')) := by
        intro v7 s0 G
        unfold k_X10_alike_130
        refine J_iconst hX dX10_alike_130 ci_0 ?_
        exact K131 v7 (0 : Int32) s0 G
      refine J_iload 5 hX dX10_alike_71 rfl ?_
      refine J_bipush hX dX10_alike_73 cb_15 ?_
      refine J_icmp_ge (tgt := 140) hX dX10_alike_75 rfl ?_ ?_
      · refine J_iinc (lv' := [(6, .int (v6 + (1 : Int32))), (0, .ref (AD Y 186)), (2, .int v2), (4, .int v4), (5, .int v5), (7, .int v7)]) 4 hX dX10_alike_140 rfl ci_1 (Nat.le_of_ble_eq_true rfl) rfl ?_
        refine J_goto (tgt := 61) hX dX10_alike_143 rfl ?_
        refine J_sub (lv' := [(0, .ref (AD Y 186)), (2, .int v2), (4, .int v4), (5, .int v5), (6, .int (v6 + (1 : Int32)))]) [1, 2, 3, 4, 0] rfl ?_
        exact hk61 v5 (v6 + (1 : Int32)) G
      · refine J_iload 3 hX dX10_alike_78 rfl ?_
        refine J_aload_n 0 hX dX10_alike_80 fz0 rfl ?_
        refine J_getR (b := 206) hX dX10_alike_81 lf_X10_74 sk_186 rfl (by decide) rfl ?_
        refine J_bipush hX dX10_alike_84 cb_15 ?_
        refine J_iload_n 1 hX dX10_alike_86 fz2 rfl ?_
        refine J_imul hX dX10_alike_87 ?_
        refine J_iload 4 hX dX10_alike_88 rfl ?_
        refine J_iadd hX dX10_alike_90 ?_
        refine J_iald hX dX10_alike_91 sk_206 ln_206 ?_
        refine J_if_le (tgt := 130) hX dX10_alike_92 rfl ?_ ?_
        · refine J_sub (lv' := [(0, .ref (AD Y 186)), (2, .int v2), (4, .int v4), (6, .int v6), (7, .int v7)]) [0, 1, 2, 4, 5] rfl ?_
          exact K130 v7 v5 G
        · refine J_aload_n 0 hX dX10_alike_95 fz0 rfl ?_
          refine J_getR (b := 206) hX dX10_alike_96 lf_X10_74 sk_186 rfl (by decide) rfl ?_
          refine J_bipush hX dX10_alike_99 cb_15 ?_
          refine J_iload_n 1 hX dX10_alike_101 fz2 rfl ?_
          refine J_imul hX dX10_alike_102 ?_
          refine J_iload 4 hX dX10_alike_103 rfl ?_
          refine J_iadd hX dX10_alike_105 ?_
          refine J_iald hX dX10_alike_106 sk_206 ln_206 ?_
          refine J_aload_n 0 hX dX10_alike_107 fz0 rfl ?_
          refine J_getR (b := 206) hX dX10_alike_108 lf_X10_74 sk_186 rfl (by decide) rfl ?_
          refine J_bipush hX dX10_alike_111 cb_45 ?_
          refine J_bipush hX dX10_alike_113 cb_15 ?_
          refine J_iload 2 hX dX10_alike_115 rfl ?_
          refine J_imul hX dX10_alike_117 ?_
          refine J_iadd hX dX10_alike_118 ?_
          refine J_iload 5 hX dX10_alike_119 rfl ?_
          refine J_iadd hX dX10_alike_121 ?_
          refine J_iald hX dX10_alike_122 sk_206 ln_206 ?_
          refine J_icmp_ne (tgt := 130) hX dX10_alike_123 rfl ?_ ?_
          · refine J_sub (lv' := [(0, .ref (AD Y 186)), (2, .int v2), (4, .int v4), (6, .int v6), (7, .int v7)]) [0, 1, 2, 4, 5] rfl ?_
            exact K130 v7 v5 G
          · refine J_iconst hX dX10_alike_126 ci_1 ?_
            refine J_goto (tgt := 131) hX dX10_alike_127 rfl ?_
            refine J_sub (lv' := [(0, .ref (AD Y 186)), (2, .int v2), (4, .int v4), (6, .int v6), (7, .int v7)]) [0, 1, 2, 4, 5] rfl ?_
            exact K131 v7 (1 : Int32) v5 G
    refine J_iload 4 hX dX10_alike_61 rfl ?_
    refine J_bipush hX dX10_alike_63 cb_15 ?_
    refine J_icmp_ge (tgt := 146) hX dX10_alike_65 rfl ?_ ?_
    · refine J_iload 3 hX dX10_alike_146 rfl ?_
      exact J_retI hR dX10_alike_148
    · refine J_iconst hX dX10_alike_68 ci_0 ?_
      refine J_istore (lv' := [(7, .int (0 : Int32)), (0, .ref (AD Y 186)), (2, .int v2), (4, .int v4), (5, .int v5), (6, .int v6)]) hX dX10_alike_69 (Nat.le_of_ble_eq_true rfl) rfl ?_
      refine J_sub (lv' := [(0, .ref (AD Y 186)), (2, .int v2), (4, .int v4), (5, .int v5), (6, .int v6), (7, .int (0 : Int32))]) [1, 2, 3, 4, 5, 0] rfl ?_
      exact K71 v6 FU v5 (0 : Int32) G
  unfold f_X10_alike
  refine J_aload_n 0 hX dX10_alike_0 fz0 rfl ?_
  refine J_iconst hX dX10_alike_1 ci_0 ?_
  refine J_putI hX dX10_alike_2 lf_X10_95 lpt_9_0 sk_186 rfl fun G2 => ?_
  refine J_aload_n 0 hX dX10_alike_5 fz0 rfl ?_
  refine J_iload_n 1 hX dX10_alike_6 fz1 rfl ?_
  refine J_callVI (As := [.int v1]) (st := []) (b := 186) hX mv_X10_342 sk_186 rfl rfl rfl (Nat.le_of_ble_eq_true rfl) (Nat.le_of_ble_eq_true rfl) (Nat.le_of_ble_eq_true rfl) dX10_alike_7 (fun r G1 h => ok_X10_isSerial  h) fun r7 G7 => ?_
  refine J_if_eq (tgt := 38) hX dX10_alike_10 rfl ?_ ?_
  · refine J_bipush hX dX10_alike_38 cbm_2 ?_
    exact J_retI hR dX10_alike_40
  · refine J_aload_n 0 hX dX10_alike_13 fz0 rfl ?_
    refine J_iload_n 2 hX dX10_alike_14 fz2 rfl ?_
    refine J_callVI (As := [.int v2]) (st := []) (b := 186) hX mv_X10_336 sk_186 rfl rfl rfl (Nat.le_of_ble_eq_true rfl) (Nat.le_of_ble_eq_true rfl) (Nat.le_of_ble_eq_true rfl) dX10_alike_15 (fun r G1 h => ok_X10_isCard  h) fun r15 G15 => ?_
    refine J_if_eq (tgt := 38) hX dX10_alike_18 rfl ?_ ?_
    · refine J_bipush hX dX10_alike_38 cbm_2 ?_
      exact J_retI hR dX10_alike_40
    · refine J_aload_n 0 hX dX10_alike_21 fz0 rfl ?_
      refine J_iload_n 3 hX dX10_alike_22 fz3 rfl ?_
      refine J_callVI (As := [.int v3]) (st := []) (b := 186) hX mv_X10_342 sk_186 rfl rfl rfl (Nat.le_of_ble_eq_true rfl) (Nat.le_of_ble_eq_true rfl) (Nat.le_of_ble_eq_true rfl) dX10_alike_23 (fun r G1 h => ok_X10_isSerial  h) fun r23 G23 => ?_
      refine J_if_eq (tgt := 38) hX dX10_alike_26 rfl ?_ ?_
      · refine J_bipush hX dX10_alike_38 cbm_2 ?_
        exact J_retI hR dX10_alike_40
      · refine J_aload_n 0 hX dX10_alike_29 fz0 rfl ?_
        refine J_iload 4 hX dX10_alike_30 rfl ?_
        refine J_callVI (As := [.int v4]) (st := []) (b := 186) hX mv_X10_336 sk_186 rfl rfl rfl (Nat.le_of_ble_eq_true rfl) (Nat.le_of_ble_eq_true rfl) (Nat.le_of_ble_eq_true rfl) dX10_alike_32 (fun r G1 h => ok_X10_isCard  h) fun r32 G32 => ?_
        refine J_if_ne (tgt := 41) hX dX10_alike_35 rfl ?_ ?_
        · refine J_aload_n 0 hX dX10_alike_41 fz0 rfl ?_
          refine J_iconst hX dX10_alike_42 ci_0 ?_
          refine J_iload_n 1 hX dX10_alike_43 fz1 rfl ?_
          refine J_iconst hX dX10_alike_44 ci_0 ?_
          refine J_callVV (As := [.int (0 : Int32), .int v1, .int (0 : Int32)]) (st := []) (b := 186) hX mv_X10_317 sk_186 rfl rfl rfl (Nat.le_of_ble_eq_true rfl) (Nat.le_of_ble_eq_true rfl) (Nat.le_of_ble_eq_true rfl) dX10_alike_45 (fun G1 h => ok_X10_makes  h) fun G45 => ?_
          refine J_aload_n 0 hX dX10_alike_48 fz0 rfl ?_
          refine J_iconst hX dX10_alike_49 ci_0 ?_
          refine J_iload_n 3 hX dX10_alike_50 fz3 rfl ?_
          refine J_iconst hX dX10_alike_51 ci_1 ?_
          refine J_callVV (As := [.int (0 : Int32), .int v3, .int (1 : Int32)]) (st := []) (b := 186) hX mv_X10_317 sk_186 rfl rfl rfl (Nat.le_of_ble_eq_true rfl) (Nat.le_of_ble_eq_true rfl) (Nat.le_of_ble_eq_true rfl) dX10_alike_52 (fun G1 h => ok_X10_makes  h) fun G52 => ?_
          refine J_iconst hX dX10_alike_55 ci_0 ?_
          refine J_istore (lv' := [(5, .int (0 : Int32)), (0, .ref (AD Y 186)), (1, .int v1), (2, .int v2), (3, .int v3), (4, .int v4)]) hX dX10_alike_56 (Nat.le_of_ble_eq_true rfl) rfl ?_
          refine J_iconst hX dX10_alike_58 ci_0 ?_
          refine J_istore (lv' := [(6, .int (0 : Int32)), (5, .int (0 : Int32)), (0, .ref (AD Y 186)), (1, .int v1), (2, .int v2), (3, .int v3), (4, .int v4)]) hX dX10_alike_59 (Nat.le_of_ble_eq_true rfl) rfl ?_
          refine J_sub (lv' := [(0, .ref (AD Y 186)), (2, .int v2), (4, .int v4), (5, .int (0 : Int32)), (6, .int (0 : Int32))]) [2, 4, 6, 1, 0] rfl ?_
          exact K61  FU (0 : Int32) (0 : Int32) G52
        · refine J_bipush hX dX10_alike_38 cbm_2 ?_
          exact J_retI hR dX10_alike_40
set_option maxHeartbeats 4000000 in
set_option maxRecDepth 100000 in
theorem ok_X10_sell {Y : DX} {v1 : Int32}  {G : GM} {r : Int32} {G' : GM} (hf : f_X10_sell v1 G = some (r, G')) : OkI Y 32 M_X10_sell [.ref (AD Y 186), .int v1] G r G' := by
  refine okI_of (lv0 := [(0, .ref (AD Y 186)), (1, .int v1)]) (by decide +kernel) rfl (Nat.le_of_ble_eq_true rfl) ?_
  intro X Q hX hR
  have hX : CXok X Y RX10 cX10_sell 2 _ := hX
  revert hf
  show J X Y 2 Q 0 [(0, .ref (AD Y 186)), (1, .int v1)] [] G (f_X10_sell v1 G = some (r, G'))
  unfold f_X10_sell
  refine J_aload_n 0 hX dX10_sell_0 fz0 rfl ?_
  refine J_iconst hX dX10_sell_1 ci_0 ?_
  refine J_putI hX dX10_sell_2 lf_X10_95 lpt_9_0 sk_186 rfl fun G2 => ?_
  refine J_aload_n 0 hX dX10_sell_5 fz0 rfl ?_
  refine J_iload_n 1 hX dX10_sell_6 fz1 rfl ?_
  refine J_callVI (As := [.int v1]) (st := []) (b := 186) hX mv_X10_342 sk_186 rfl rfl rfl (Nat.le_of_ble_eq_true rfl) (Nat.le_of_ble_eq_true rfl) (Nat.le_of_ble_eq_true rfl) dX10_sell_7 (fun r G1 h => ok_X10_isSerial  h) fun r7 G7 => ?_
  refine J_if_ne (tgt := 16) hX dX10_sell_10 rfl ?_ ?_
  · refine J_aload_n 0 hX dX10_sell_16 fz0 rfl ?_
    refine J_getR (b := 193) hX dX10_sell_17 lf_X10_34 sk_186 rfl (by decide) rfl ?_
    refine J_iconst hX dX10_sell_20 ci_4 ?_
    refine J_iald hX dX10_sell_21 sk_193 ln_193 ?_
    refine J_bipush hX dX10_sell_22 cb_8 ?_
    refine J_icmp_ne (tgt := 30) hX dX10_sell_24 rfl ?_ ?_
    · refine J_aload_n 0 hX dX10_sell_30 fz0 rfl ?_
      refine J_iconst hX dX10_sell_31 ci_0 ?_
      refine J_iload_n 1 hX dX10_sell_32 fz1 rfl ?_
      refine J_callVI (As := [.int (0 : Int32), .int v1]) (st := []) (b := 186) hX mv_X10_215 sk_186 rfl rfl rfl (Nat.le_of_ble_eq_true rfl) (Nat.le_of_ble_eq_true rfl) (Nat.le_of_ble_eq_true rfl) dX10_sell_33 (fun r G1 h => ok_X10_isSoldIn  h) fun r33 G33 => ?_
      refine J_if_eq (tgt := 42) hX dX10_sell_36 rfl ?_ ?_
      · refine J_aload_n 0 hX dX10_sell_42 fz0 rfl ?_
        refine J_getR (b := 196) hX dX10_sell_43 lf_X10_43 sk_186 rfl (by decide) rfl ?_
        refine J_aload_n 0 hX dX10_sell_46 fz0 rfl ?_
        refine J_getR (b := 193) hX dX10_sell_47 lf_X10_34 sk_186 rfl (by decide) rfl ?_
        refine J_iconst hX dX10_sell_50 ci_4 ?_
        refine J_iald hX dX10_sell_51 sk_193 ln_193 ?_
        refine J_iload_n 1 hX dX10_sell_52 fz1 rfl ?_
        refine J_iast hX dX10_sell_53 sk_196 ln_196 fun G53 => ?_
        refine J_aload_n 0 hX dX10_sell_54 fz0 rfl ?_
        refine J_getR (b := 193) hX dX10_sell_55 lf_X10_34 sk_186 rfl (by decide) rfl ?_
        refine J_iconst hX dX10_sell_58 ci_4 ?_
        refine J_dup2 hX dX10_sell_59 rfl rfl ?_
        refine J_iald hX dX10_sell_60 sk_193 ln_193 ?_
        refine J_iconst hX dX10_sell_61 ci_1 ?_
        refine J_iadd hX dX10_sell_62 ?_
        refine J_iast hX dX10_sell_63 sk_193 ln_193 fun G63 => ?_
        refine J_aload_n 0 hX dX10_sell_64 fz0 rfl ?_
        refine J_getR (b := 193) hX dX10_sell_65 lf_X10_34 sk_186 rfl (by decide) rfl ?_
        refine J_iconst hX dX10_sell_68 ci_4 ?_
        refine J_iald hX dX10_sell_69 sk_193 ln_193 ?_
        exact J_retI hR dX10_sell_70
      · refine J_bipush hX dX10_sell_39 cbm_5 ?_
        exact J_retI hR dX10_sell_41
    · refine J_bipush hX dX10_sell_27 cbm_3 ?_
      exact J_retI hR dX10_sell_29
  · refine J_bipush hX dX10_sell_13 cbm_2 ?_
    exact J_retI hR dX10_sell_15
set_option maxHeartbeats 4000000 in
set_option maxRecDepth 100000 in
theorem ok_X10_unsell {Y : DX}   {G : GM} {r : Int32} {G' : GM} (hf : f_X10_unsell  G = some (r, G')) : OkI Y 2 M_X10_unsell [.ref (AD Y 186)] G r G' := by
  refine okI_of (lv0 := [(0, .ref (AD Y 186))]) (by decide +kernel) rfl (Nat.le_of_ble_eq_true rfl) ?_
  intro X Q hX hR
  have hX : CXok X Y RX10 cX10_unsell 1 _ := hX
  revert hf
  show J X Y 1 Q 0 [(0, .ref (AD Y 186))] [] G (f_X10_unsell  G = some (r, G'))
  unfold f_X10_unsell
  refine J_aload_n 0 hX dX10_unsell_0 fz0 rfl ?_
  refine J_iconst hX dX10_unsell_1 ci_0 ?_
  refine J_putI hX dX10_unsell_2 lf_X10_95 lpt_9_0 sk_186 rfl fun G2 => ?_
  refine J_aload_n 0 hX dX10_unsell_5 fz0 rfl ?_
  refine J_callVI (As := []) (st := []) (b := 186) hX mv_X10_324 sk_186 rfl rfl rfl (Nat.le_of_ble_eq_true rfl) (Nat.le_of_ble_eq_true rfl) (Nat.le_of_ble_eq_true rfl) dX10_unsell_6 (fun r G1 h => ok_X10_isHall  h) fun r6 G6 => ?_
  refine J_if_ne (tgt := 15) hX dX10_unsell_9 rfl ?_ ?_
  · refine J_aload_n 0 hX dX10_unsell_15 fz0 rfl ?_
    refine J_getR (b := 193) hX dX10_unsell_16 lf_X10_34 sk_186 rfl (by decide) rfl ?_
    refine J_iconst hX dX10_unsell_19 ci_4 ?_
    refine J_iald hX dX10_unsell_20 sk_193 ln_193 ?_
    refine J_if_ne (tgt := 26) hX dX10_unsell_21 rfl ?_ ?_
    · refine J_aload_n 0 hX dX10_unsell_26 fz0 rfl ?_
      refine J_getR (b := 193) hX dX10_unsell_27 lf_X10_34 sk_186 rfl (by decide) rfl ?_
      refine J_iconst hX dX10_unsell_30 ci_4 ?_
      refine J_dup2 hX dX10_unsell_31 rfl rfl ?_
      refine J_iald hX dX10_unsell_32 sk_193 ln_193 ?_
      refine J_iconst hX dX10_unsell_33 ci_1 ?_
      refine J_isub hX dX10_unsell_34 ?_
      refine J_iast hX dX10_unsell_35 sk_193 ln_193 fun G35 => ?_
      refine J_iconst hX dX10_unsell_36 ci_1 ?_
      exact J_retI hR dX10_unsell_37
    · refine J_iconst hX dX10_unsell_24 ci_0 ?_
      exact J_retI hR dX10_unsell_25
  · refine J_bipush hX dX10_unsell_12 cbm_2 ?_
    exact J_retI hR dX10_unsell_14
set_option maxHeartbeats 4000000 in
set_option maxRecDepth 100000 in
theorem ok_X10_sold {Y : DX} {v1 : Int32}  {G : GM} {r : Int32} {G' : GM} (hf : f_X10_sold v1 G = some (r, G')) : OkI Y 2 M_X10_sold [.ref (AD Y 186), .int v1] G r G' := by
  refine okI_of (lv0 := [(0, .ref (AD Y 186)), (1, .int v1)]) (by decide +kernel) rfl (Nat.le_of_ble_eq_true rfl) ?_
  intro X Q hX hR
  have hX : CXok X Y RX10 cX10_sold 2 _ := hX
  revert hf
  show J X Y 2 Q 0 [(0, .ref (AD Y 186)), (1, .int v1)] [] G (f_X10_sold v1 G = some (r, G'))
  unfold f_X10_sold
  refine J_aload_n 0 hX dX10_sold_0 fz0 rfl ?_
  refine J_iconst hX dX10_sold_1 ci_0 ?_
  refine J_putI hX dX10_sold_2 lf_X10_95 lpt_9_0 sk_186 rfl fun G2 => ?_
  refine J_iload_n 1 hX dX10_sold_5 fz1 rfl ?_
  refine J_i2l hX dX10_sold_6 ?_
  refine J_lconst hX dX10_sold_7 fy0 ?_
  refine J_aload_n 0 hX dX10_sold_8 fz0 rfl ?_
  refine J_getR (b := 193) hX dX10_sold_9 lf_X10_34 sk_186 rfl (by decide) rfl ?_
  refine J_iconst hX dX10_sold_12 ci_4 ?_
  refine J_iald hX dX10_sold_13 sk_193 ln_193 ?_
  refine J_iconst hX dX10_sold_14 ci_1 ?_
  refine J_isub hX dX10_sold_15 ?_
  refine J_i2l hX dX10_sold_16 ?_
  refine J_callSI (As := [.long (v1.toInt64), .long (0 : Int64), .long (((gI G2 193 (4 : Int32).toNatClampNeg) - (1 : Int32)).toInt64)]) (st := []) hX ms_X10_100 rfl rfl (Nat.le_of_ble_eq_true rfl) (Nat.le_of_ble_eq_true rfl) (Nat.le_of_ble_eq_true rfl) dX10_sold_17 (fun r G1 h => ok_X10_in  h) fun r17 G17 => ?_
  refine J_if_eq (tgt := 32) hX dX10_sold_20 rfl ?_ ?_
  · refine J_iconst hX dX10_sold_32 cim_1 ?_
    exact J_retI hR dX10_sold_33
  · refine J_aload_n 0 hX dX10_sold_23 fz0 rfl ?_
    refine J_getR (b := 196) hX dX10_sold_24 lf_X10_43 sk_186 rfl (by decide) rfl ?_
    refine J_iload_n 1 hX dX10_sold_27 fz1 rfl ?_
    refine J_iald hX dX10_sold_28 sk_196 ln_196 ?_
    refine J_goto (tgt := 33) hX dX10_sold_29 rfl ?_
    exact J_retI hR dX10_sold_33
set_option maxHeartbeats 4000000 in
set_option maxRecDepth 100000 in
theorem ok_X10_caller {Y : DX} {v1 : Int32}  {G : GM} {r : Int32} {G' : GM} (hf : f_X10_caller v1 G = some (r, G')) : OkI Y 4 M_X10_caller [.ref (AD Y 186), .int v1] G r G' := by
  refine okI_of (lv0 := [(0, .ref (AD Y 186)), (1, .int v1)]) (by decide +kernel) rfl (Nat.le_of_ble_eq_true rfl) ?_
  intro X Q hX hR
  have hX : CXok X Y RX10 cX10_caller 2 _ := hX
  revert hf
  show J X Y 2 Q 0 [(0, .ref (AD Y 186)), (1, .int v1)] [] G (f_X10_caller v1 G = some (r, G'))
  unfold f_X10_caller
  refine J_aload_n 0 hX dX10_caller_0 fz0 rfl ?_
  refine J_iconst hX dX10_caller_1 ci_0 ?_
  refine J_putI hX dX10_caller_2 lf_X10_95 lpt_9_0 sk_186 rfl fun G2 => ?_
  refine J_aload_n 0 hX dX10_caller_5 fz0 rfl ?_
  refine J_callVI (As := []) (st := []) (b := 186) hX mv_X10_324 sk_186 rfl rfl rfl (Nat.le_of_ble_eq_true rfl) (Nat.le_of_ble_eq_true rfl) (Nat.le_of_ble_eq_true rfl) dX10_caller_6 (fun r G1 h => ok_X10_isHall  h) fun r6 G6 => ?_
  refine J_if_eq (tgt := 24) hX dX10_caller_9 rfl ?_ ?_
  · refine J_bipush hX dX10_caller_24 cbm_2 ?_
    exact J_retI hR dX10_caller_26
  · refine J_iload_n 1 hX dX10_caller_12 fz1 rfl ?_
    refine J_i2l hX dX10_caller_13 ?_
    refine J_lconst hX dX10_caller_14 fy0 ?_
    refine J_ldc2 hX dX10_caller_15 ll_X10_348 ?_
    refine J_callSI (As := [.long (v1.toInt64), .long (0 : Int64), .long (2000000000 : Int64)]) (st := []) hX ms_X10_100 rfl rfl (Nat.le_of_ble_eq_true rfl) (Nat.le_of_ble_eq_true rfl) (Nat.le_of_ble_eq_true rfl) dX10_caller_18 (fun r G1 h => ok_X10_in  h) fun r18 G18 => ?_
    refine J_if_ne (tgt := 27) hX dX10_caller_21 rfl ?_ ?_
    · refine J_aload_n 0 hX dX10_caller_27 fz0 rfl ?_
      refine J_iconst hX dX10_caller_28 ci_0 ?_
      refine J_iload_n 1 hX dX10_caller_29 fz1 rfl ?_
      refine J_i2l hX dX10_caller_30 ?_
      refine J_callVV (As := [.int (0 : Int32), .long (v1.toInt64)]) (st := []) (b := 186) hX mv_X10_252 sk_186 rfl rfl rfl (Nat.le_of_ble_eq_true rfl) (Nat.le_of_ble_eq_true rfl) (Nat.le_of_ble_eq_true rfl) dX10_caller_31 (fun G1 h => ok_X10_callsBy  h) fun G31 => ?_
      refine J_iconst hX dX10_caller_34 ci_0 ?_
      exact J_retI hR dX10_caller_35
    · refine J_bipush hX dX10_caller_24 cbm_2 ?_
      exact J_retI hR dX10_caller_26
set_option maxHeartbeats 4000000 in
set_option maxRecDepth 100000 in
theorem ok_X10_calls {Y : DX} {v1 : Int32}  {G : GM} {r : Int32} {G' : GM} (hf : f_X10_calls v1 G = some (r, G')) : OkI Y 5 M_X10_calls [.ref (AD Y 186), .int v1] G r G' := by
  refine okI_of (lv0 := [(0, .ref (AD Y 186)), (1, .int v1)]) (by decide +kernel) rfl (Nat.le_of_ble_eq_true rfl) ?_
  intro X Q hX hR
  have hX : CXok X Y RX10 cX10_calls 5 _ := hX
  revert hf
  show J X Y 5 Q 0 [(0, .ref (AD Y 186)), (1, .int v1)] [] G (f_X10_calls v1 G = some (r, G'))
  have K119 : ∀  (n : Nat) (v3 : Int32) (G : GM), J X Y 5 Q 119 [(0, .ref (AD Y 186)), (1, .int v1), (3, .int v3)] [] G (wl1 n (lp_X10_calls_119 v1) v3 G = some (r, G')) := by
    refine wl1_ind (R := fun v3 G φ => J X Y 5 Q 119 [(0, .ref (AD Y 186)), (1, .int v1), (3, .int v3)] [] G φ) (fun _ G φ h => J_no h) ?_
    intro kc119 hk119 v3 G
    unfold lp_X10_calls_119
    refine J_iload_n 2 hX dX10_calls_119 fz3 rfl ?_
    refine J_aload_n 0 hX dX10_calls_120 fz0 rfl ?_
    refine J_getR (b := 188) hX dX10_calls_121 lf_X10_13 sk_186 rfl (by decide) rfl ?_
    refine J_iload_n 1 hX dX10_calls_124 fz1 rfl ?_
    refine J_iald hX dX10_calls_125 sk_188 ln_188 ?_
    refine J_icmp_ge (tgt := 153) hX dX10_calls_126 rfl ?_ ?_
    · refine J_iconst hX dX10_calls_153 ci_0 ?_
      exact J_retI hR dX10_calls_154
    · refine J_aload_n 0 hX dX10_calls_129 fz0 rfl ?_
      refine J_getR (b := 197) hX dX10_calls_130 lf_X10_46 sk_186 rfl (by decide) rfl ?_
      refine J_iload_n 2 hX dX10_calls_133 fz3 rfl ?_
      refine J_aload_n 0 hX dX10_calls_134 fz0 rfl ?_
      refine J_getR (b := 189) hX dX10_calls_135 lf_X10_16 sk_186 rfl (by decide) rfl ?_
      refine J_bipush hX dX10_calls_138 cb_60 ?_
      refine J_iload_n 1 hX dX10_calls_140 fz1 rfl ?_
      refine J_imul hX dX10_calls_141 ?_
      refine J_iload_n 2 hX dX10_calls_142 fz3 rfl ?_
      refine J_iadd hX dX10_calls_143 ?_
      refine J_lald hX dX10_calls_144 sk_189 ln_189 ?_
      refine J_l2i hX dX10_calls_145 ?_
      refine J_iast hX dX10_calls_146 sk_197 ln_197 fun G146 => ?_
      refine J_iinc (lv' := [(3, .int (v3 + (1 : Int32))), (0, .ref (AD Y 186)), (1, .int v1)]) 2 hX dX10_calls_147 rfl ci_1 (Nat.le_of_ble_eq_true rfl) rfl ?_
      refine J_goto (tgt := 119) hX dX10_calls_150 rfl ?_
      refine J_sub (lv' := [(0, .ref (AD Y 186)), (1, .int v1), (3, .int (v3 + (1 : Int32)))]) [1, 2, 0] rfl ?_
      exact hk119 (v3 + (1 : Int32)) G146
  have K35 : ∀  (n : Nat) (v3 : Int32) (G : GM), J X Y 5 Q 35 [(0, .ref (AD Y 186)), (1, .int v1), (3, .int v3)] [] G (wl1 n (lp_X10_calls_35 v1) v3 G = some (r, G')) := by
    refine wl1_ind (R := fun v3 G φ => J X Y 5 Q 35 [(0, .ref (AD Y 186)), (1, .int v1), (3, .int v3)] [] G φ) (fun _ G φ h => J_no h) ?_
    intro kc35 hk35 v3 G
    unfold lp_X10_calls_35
    have K69 : ∀ (v3 : Int32) (n : Nat) (v4 : Int32) (G : GM), J X Y 5 Q 69 [(0, .ref (AD Y 186)), (1, .int v1), (3, .int v3), (4, .int v4)] [] G (wl1 n (lp_X10_calls_69 v1 v3 kc35) v4 G = some (r, G')) := by
      intro v3
      refine wl1_ind (R := fun v4 G φ => J X Y 5 Q 69 [(0, .ref (AD Y 186)), (1, .int v1), (3, .int v3), (4, .int v4)] [] G φ) (fun _ G φ h => J_no h) ?_
      intro kc69 hk69 v4 G
      unfold lp_X10_calls_69
      refine J_iload 3 hX dX10_calls_69 rfl ?_
      refine J_iload_n 2 hX dX10_calls_71 fz3 rfl ?_
      refine J_icmp_ge (tgt := 111) hX dX10_calls_72 rfl ?_ ?_
      · refine J_iinc (lv' := [(3, .int (v3 + (1 : Int32))), (0, .ref (AD Y 186)), (1, .int v1), (4, .int v4)]) 2 hX dX10_calls_111 rfl ci_1 (Nat.le_of_ble_eq_true rfl) rfl ?_
        refine J_goto (tgt := 35) hX dX10_calls_114 rfl ?_
        refine J_sub (lv' := [(0, .ref (AD Y 186)), (1, .int v1), (3, .int (v3 + (1 : Int32)))]) [1, 2, 0] rfl ?_
        exact hk35 (v3 + (1 : Int32)) G
      · refine J_aload_n 0 hX dX10_calls_75 fz0 rfl ?_
        refine J_getR (b := 189) hX dX10_calls_76 lf_X10_16 sk_186 rfl (by decide) rfl ?_
        refine J_bipush hX dX10_calls_79 cb_60 ?_
        refine J_iload_n 1 hX dX10_calls_81 fz1 rfl ?_
        refine J_imul hX dX10_calls_82 ?_
        refine J_iload 3 hX dX10_calls_83 rfl ?_
        refine J_iadd hX dX10_calls_85 ?_
        refine J_lald hX dX10_calls_86 sk_189 ln_189 ?_
        refine J_aload_n 0 hX dX10_calls_87 fz0 rfl ?_
        refine J_getR (b := 189) hX dX10_calls_88 lf_X10_16 sk_186 rfl (by decide) rfl ?_
        refine J_bipush hX dX10_calls_91 cb_60 ?_
        refine J_iload_n 1 hX dX10_calls_93 fz1 rfl ?_
        refine J_imul hX dX10_calls_94 ?_
        refine J_iload_n 2 hX dX10_calls_95 fz3 rfl ?_
        refine J_iadd hX dX10_calls_96 ?_
        refine J_lald hX dX10_calls_97 sk_189 ln_189 ?_
        refine J_lcmp hX dX10_calls_98 ?_
        refine J_if_ne (tgt := 105) hX dX10_calls_99 rfl ?_ ?_
        · refine J_iinc (lv' := [(4, .int (v4 + (1 : Int32))), (0, .ref (AD Y 186)), (1, .int v1), (3, .int v3)]) 3 hX dX10_calls_105 rfl ci_1 (Nat.le_of_ble_eq_true rfl) rfl ?_
          refine J_goto (tgt := 69) hX dX10_calls_108 rfl ?_
          refine J_sub (lv' := [(0, .ref (AD Y 186)), (1, .int v1), (3, .int v3), (4, .int (v4 + (1 : Int32)))]) [1, 2, 3, 0] rfl ?_
          exact hk69 (v4 + (1 : Int32)) G
        · refine J_bipush hX dX10_calls_102 cbm_2 ?_
          exact J_retI hR dX10_calls_104
    refine J_iload_n 2 hX dX10_calls_35 fz3 rfl ?_
    refine J_aload_n 0 hX dX10_calls_36 fz0 rfl ?_
    refine J_getR (b := 188) hX dX10_calls_37 lf_X10_13 sk_186 rfl (by decide) rfl ?_
    refine J_iload_n 1 hX dX10_calls_40 fz1 rfl ?_
    refine J_iald hX dX10_calls_41 sk_188 ln_188 ?_
    refine J_icmp_ge (tgt := 117) hX dX10_calls_42 rfl ?_ ?_
    · refine J_iconst hX dX10_calls_117 ci_0 ?_
      refine J_istore_n (lv' := [(3, .int (0 : Int32)), (0, .ref (AD Y 186)), (1, .int v1)]) hX dX10_calls_118 fz3 (Nat.le_of_ble_eq_true rfl) rfl ?_
      refine J_sub (lv' := [(0, .ref (AD Y 186)), (1, .int v1), (3, .int (0 : Int32))]) [1, 2, 0] rfl ?_
      exact K119  FU (0 : Int32) G
    · refine J_aload_n 0 hX dX10_calls_45 fz0 rfl ?_
      refine J_aload_n 0 hX dX10_calls_46 fz0 rfl ?_
      refine J_getR (b := 189) hX dX10_calls_47 lf_X10_16 sk_186 rfl (by decide) rfl ?_
      refine J_bipush hX dX10_calls_50 cb_60 ?_
      refine J_iload_n 1 hX dX10_calls_52 fz1 rfl ?_
      refine J_imul hX dX10_calls_53 ?_
      refine J_iload_n 2 hX dX10_calls_54 fz3 rfl ?_
      refine J_iadd hX dX10_calls_55 ?_
      refine J_lald hX dX10_calls_56 sk_189 ln_189 ?_
      refine J_callVI (As := [.long (gJ G 189 (((60 : Int32) * v1) + v3).toNatClampNeg)]) (st := []) (b := 186) hX mv_X10_345 sk_186 rfl rfl rfl (Nat.le_of_ble_eq_true rfl) (Nat.le_of_ble_eq_true rfl) (Nat.le_of_ble_eq_true rfl) dX10_calls_57 (fun r G1 h => ok_X10_isNumber  h) fun r57 G57 => ?_
      refine J_if_ne (tgt := 66) hX dX10_calls_60 rfl ?_ ?_
      · refine J_iconst hX dX10_calls_66 ci_0 ?_
        refine J_istore (lv' := [(4, .int (0 : Int32)), (0, .ref (AD Y 186)), (1, .int v1), (3, .int v3)]) hX dX10_calls_67 (Nat.le_of_ble_eq_true rfl) rfl ?_
        refine J_sub (lv' := [(0, .ref (AD Y 186)), (1, .int v1), (3, .int v3), (4, .int (0 : Int32))]) [1, 2, 3, 0] rfl ?_
        exact K69 v3 FU (0 : Int32) G57
      · refine J_bipush hX dX10_calls_63 cbm_2 ?_
        exact J_retI hR dX10_calls_65
  unfold f_X10_calls
  refine J_aload_n 0 hX dX10_calls_0 fz0 rfl ?_
  refine J_iconst hX dX10_calls_1 ci_0 ?_
  refine J_putI hX dX10_calls_2 lf_X10_95 lpt_9_0 sk_186 rfl fun G2 => ?_
  refine J_aload_n 0 hX dX10_calls_5 fz0 rfl ?_
  refine J_iload_n 1 hX dX10_calls_6 fz1 rfl ?_
  refine J_callVI (As := [.int v1]) (st := []) (b := 186) hX mv_X10_339 sk_186 rfl rfl rfl (Nat.le_of_ble_eq_true rfl) (Nat.le_of_ble_eq_true rfl) (Nat.le_of_ble_eq_true rfl) dX10_calls_7 (fun r G1 h => ok_X10_whyNot  h) fun r7 G7 => ?_
  refine J_istore_n (lv' := [(2, .int r7), (0, .ref (AD Y 186)), (1, .int v1)]) hX dX10_calls_10 fz2 (Nat.le_of_ble_eq_true rfl) rfl ?_
  refine J_iload_n 0 hX dX10_calls_11 fz2 rfl ?_
  refine J_if_eq (tgt := 17) hX dX10_calls_12 rfl ?_ ?_
  · refine J_aload_n 1 hX dX10_calls_17 fz0 rfl ?_
    refine J_getR (b := 188) hX dX10_calls_18 lf_X10_13 sk_186 rfl (by decide) rfl ?_
    refine J_iload_n 2 hX dX10_calls_21 fz1 rfl ?_
    refine J_iald hX dX10_calls_22 sk_188 ln_188 ?_
    refine J_aload_n 1 hX dX10_calls_23 fz0 rfl ?_
    refine J_callVI (As := []) (st := [.int (gI G7 188 v1.toNatClampNeg)]) (b := 186) hX mv_X10_332 sk_186 rfl rfl rfl (Nat.le_of_ble_eq_true rfl) (Nat.le_of_ble_eq_true rfl) (Nat.le_of_ble_eq_true rfl) dX10_calls_24 (fun r G1 h => ok_X10_all  h) fun r24 G24 => ?_
    refine J_icmp_eq (tgt := 33) hX dX10_calls_27 rfl ?_ ?_
    · refine J_iconst hX dX10_calls_33 ci_0 ?_
      refine J_istore_n (lv' := [(3, .int (0 : Int32)), (2, .int r7), (0, .ref (AD Y 186)), (1, .int v1)]) hX dX10_calls_34 fz3 (Nat.le_of_ble_eq_true rfl) rfl ?_
      refine J_sub (lv' := [(0, .ref (AD Y 186)), (1, .int v1), (3, .int (0 : Int32))]) [2, 3, 0] rfl ?_
      exact K35  FU (0 : Int32) G24
    · refine J_bipush hX dX10_calls_30 cbm_2 ?_
      exact J_retI hR dX10_calls_32
  · refine J_iload_n 0 hX dX10_calls_15 fz2 rfl ?_
    exact J_retI hR dX10_calls_16
set_option maxHeartbeats 4000000 in
set_option maxRecDepth 100000 in
theorem ok_X10_call {Y : DX} {v1 : Int32}  {G : GM} {r : Int32} {G' : GM} (hf : f_X10_call v1 G = some (r, G')) : OkI Y 4 M_X10_call [.ref (AD Y 186), .int v1] G r G' := by
  refine okI_of (lv0 := [(0, .ref (AD Y 186)), (1, .int v1)]) (by decide +kernel) rfl (Nat.le_of_ble_eq_true rfl) ?_
  intro X Q hX hR
  have hX : CXok X Y RX10 cX10_call 2 _ := hX
  revert hf
  show J X Y 2 Q 0 [(0, .ref (AD Y 186)), (1, .int v1)] [] G (f_X10_call v1 G = some (r, G'))
  unfold f_X10_call
  refine J_aload_n 0 hX dX10_call_0 fz0 rfl ?_
  refine J_iconst hX dX10_call_1 ci_0 ?_
  refine J_putI hX dX10_call_2 lf_X10_95 lpt_9_0 sk_186 rfl fun G2 => ?_
  refine J_iload_n 1 hX dX10_call_5 fz1 rfl ?_
  refine J_i2l hX dX10_call_6 ?_
  refine J_lconst hX dX10_call_7 fy0 ?_
  refine J_aload_n 0 hX dX10_call_8 fz0 rfl ?_
  refine J_callVI (As := []) (st := [.long (0 : Int64), .long (v1.toInt64)]) (b := 186) hX mv_X10_332 sk_186 rfl rfl rfl (Nat.le_of_ble_eq_true rfl) (Nat.le_of_ble_eq_true rfl) (Nat.le_of_ble_eq_true rfl) dX10_call_9 (fun r G1 h => ok_X10_all  h) fun r9 G9 => ?_
  refine J_iconst hX dX10_call_12 ci_1 ?_
  refine J_isub hX dX10_call_13 ?_
  refine J_i2l hX dX10_call_14 ?_
  refine J_callSI (As := [.long (v1.toInt64), .long (0 : Int64), .long ((r9 - (1 : Int32)).toInt64)]) (st := []) hX ms_X10_100 rfl rfl (Nat.le_of_ble_eq_true rfl) (Nat.le_of_ble_eq_true rfl) (Nat.le_of_ble_eq_true rfl) dX10_call_15 (fun r G1 h => ok_X10_in  h) fun r15 G15 => ?_
  refine J_if_eq (tgt := 30) hX dX10_call_18 rfl ?_ ?_
  · refine J_iconst hX dX10_call_30 cim_1 ?_
    exact J_retI hR dX10_call_31
  · refine J_aload_n 0 hX dX10_call_21 fz0 rfl ?_
    refine J_getR (b := 197) hX dX10_call_22 lf_X10_46 sk_186 rfl (by decide) rfl ?_
    refine J_iload_n 1 hX dX10_call_25 fz1 rfl ?_
    refine J_iald hX dX10_call_26 sk_197 ln_197 ?_
    refine J_goto (tgt := 31) hX dX10_call_27 rfl ?_
    exact J_retI hR dX10_call_31
set_option maxHeartbeats 4000000 in
set_option maxRecDepth 100000 in
theorem ok_X10_calledIn {Y : DX} {v1 : Int32} {v2 : Int32}  {G : GM} {r : Int32} {G' : GM} (hf : f_X10_calledIn v1 v2 G = some (r, G')) : OkI Y 4 M_X10_calledIn [.ref (AD Y 186), .int v1, .int v2] G r G' := by
  refine okI_of (lv0 := [(0, .ref (AD Y 186)), (1, .int v1), (2, .int v2)]) (by decide +kernel) rfl (Nat.le_of_ble_eq_true rfl) ?_
  intro X Q hX hR
  have hX : CXok X Y RX10 cX10_calledIn 4 _ := hX
  revert hf
  show J X Y 4 Q 0 [(0, .ref (AD Y 186)), (1, .int v1), (2, .int v2)] [] G (f_X10_calledIn v1 v2 G = some (r, G'))
  have K2 : ∀  (n : Nat) (v3 : Int32) (G : GM), J X Y 4 Q 2 [(0, .ref (AD Y 186)), (1, .int v1), (2, .int v2), (3, .int v3)] [] G (wl1 n (lp_X10_calledIn_2 v1 v2) v3 G = some (r, G')) := by
    refine wl1_ind (R := fun v3 G φ => J X Y 4 Q 2 [(0, .ref (AD Y 186)), (1, .int v1), (2, .int v2), (3, .int v3)] [] G φ) (fun _ G φ h => J_no h) ?_
    intro kc2 hk2 v3 G
    unfold lp_X10_calledIn_2
    refine J_iload_n 3 hX dX10_calledIn_2 fz3 rfl ?_
    refine J_aload_n 0 hX dX10_calledIn_3 fz0 rfl ?_
    refine J_callVI (As := []) (st := [.int v3]) (b := 186) hX mv_X10_332 sk_186 rfl rfl rfl (Nat.le_of_ble_eq_true rfl) (Nat.le_of_ble_eq_true rfl) (Nat.le_of_ble_eq_true rfl) dX10_calledIn_4 (fun r G1 h => ok_X10_all  h) fun r4 G4 => ?_
    refine J_icmp_ge (tgt := 35) hX dX10_calledIn_7 rfl ?_ ?_
    · refine J_iconst hX dX10_calledIn_35 cim_1 ?_
      exact J_retI hR dX10_calledIn_36
    · refine J_aload_n 0 hX dX10_calledIn_10 fz0 rfl ?_
      refine J_getR (b := 197) hX dX10_calledIn_11 lf_X10_46 sk_186 rfl (by decide) rfl ?_
      refine J_bipush hX dX10_calledIn_14 cb_45 ?_
      refine J_iload_n 1 hX dX10_calledIn_16 fz1 rfl ?_
      refine J_imul hX dX10_calledIn_17 ?_
      refine J_iload_n 3 hX dX10_calledIn_18 fz3 rfl ?_
      refine J_iadd hX dX10_calledIn_19 ?_
      refine J_iald hX dX10_calledIn_20 sk_197 ln_197 ?_
      refine J_iload_n 2 hX dX10_calledIn_21 fz2 rfl ?_
      refine J_icmp_ne (tgt := 29) hX dX10_calledIn_22 rfl ?_ ?_
      · refine J_iinc (lv' := [(3, .int (v3 + (1 : Int32))), (0, .ref (AD Y 186)), (1, .int v1), (2, .int v2)]) 3 hX dX10_calledIn_29 rfl ci_1 (Nat.le_of_ble_eq_true rfl) rfl ?_
        refine J_goto (tgt := 2) hX dX10_calledIn_32 rfl ?_
        refine J_sub (lv' := [(0, .ref (AD Y 186)), (1, .int v1), (2, .int v2), (3, .int (v3 + (1 : Int32)))]) [1, 2, 3, 0] rfl ?_
        exact hk2 (v3 + (1 : Int32)) G4
      · refine J_iload_n 3 hX dX10_calledIn_25 fz3 rfl ?_
        refine J_iconst hX dX10_calledIn_26 ci_1 ?_
        refine J_iadd hX dX10_calledIn_27 ?_
        exact J_retI hR dX10_calledIn_28
  unfold f_X10_calledIn
  refine J_iconst hX dX10_calledIn_0 ci_0 ?_
  refine J_istore_n (lv' := [(3, .int (0 : Int32)), (0, .ref (AD Y 186)), (1, .int v1), (2, .int v2)]) hX dX10_calledIn_1 fz3 (Nat.le_of_ble_eq_true rfl) rfl ?_
  refine J_sub (lv' := [(0, .ref (AD Y 186)), (1, .int v1), (2, .int v2), (3, .int (0 : Int32))]) [1, 2, 3, 0] rfl ?_
  exact K2  FU (0 : Int32) G
set_option maxHeartbeats 4000000 in
set_option maxRecDepth 100000 in
theorem ok_X10_called {Y : DX} {v1 : Int32}  {G : GM} {r : Int32} {G' : GM} (hf : f_X10_called v1 G = some (r, G')) : OkI Y 5 M_X10_called [.ref (AD Y 186), .int v1] G r G' := by
  refine okI_of (lv0 := [(0, .ref (AD Y 186)), (1, .int v1)]) (by decide +kernel) rfl (Nat.le_of_ble_eq_true rfl) ?_
  intro X Q hX hR
  have hX : CXok X Y RX10 cX10_called 2 _ := hX
  revert hf
  show J X Y 2 Q 0 [(0, .ref (AD Y 186)), (1, .int v1)] [] G (f_X10_called v1 G = some (r, G'))
  unfold f_X10_called
  refine J_aload_n 0 hX dX10_called_0 fz0 rfl ?_
  refine J_iconst hX dX10_called_1 ci_0 ?_
  refine J_putI hX dX10_called_2 lf_X10_95 lpt_9_0 sk_186 rfl fun G2 => ?_
  refine J_aload_n 0 hX dX10_called_5 fz0 rfl ?_
  refine J_iload_n 1 hX dX10_called_6 fz1 rfl ?_
  refine J_i2l hX dX10_called_7 ?_
  refine J_callVI (As := [.long (v1.toInt64)]) (st := []) (b := 186) hX mv_X10_345 sk_186 rfl rfl rfl (Nat.le_of_ble_eq_true rfl) (Nat.le_of_ble_eq_true rfl) (Nat.le_of_ble_eq_true rfl) dX10_called_8 (fun r G1 h => ok_X10_isNumber  h) fun r8 G8 => ?_
  refine J_if_eq (tgt := 23) hX dX10_called_11 rfl ?_ ?_
  · refine J_bipush hX dX10_called_23 cbm_2 ?_
    exact J_retI hR dX10_called_25
  · refine J_aload_n 0 hX dX10_called_14 fz0 rfl ?_
    refine J_iconst hX dX10_called_15 ci_0 ?_
    refine J_iload_n 1 hX dX10_called_16 fz1 rfl ?_
    refine J_callVI (As := [.int (0 : Int32), .int v1]) (st := []) (b := 186) hX mv_X10_350 sk_186 rfl rfl rfl (Nat.le_of_ble_eq_true rfl) (Nat.le_of_ble_eq_true rfl) (Nat.le_of_ble_eq_true rfl) dX10_called_17 (fun r G1 h => ok_X10_calledIn  h) fun r17 G17 => ?_
    refine J_goto (tgt := 25) hX dX10_called_20 rfl ?_
    exact J_retI hR dX10_called_25
set_option maxHeartbeats 4000000 in
set_option maxRecDepth 100000 in
theorem ok_X10_lackOf {Y : DX} {v1 : Int32} {v2 : Int32} {v3 : Int32} {v4 : Int32}  {G : GM} {r : Int32} {G' : GM} (hf : f_X10_lackOf v1 v2 v3 v4 G = some (r, G')) : OkI Y 5 M_X10_lackOf [.ref (AD Y 186), .int v1, .int v2, .int v3, .int v4] G r G' := by
  refine okI_of (lv0 := [(0, .ref (AD Y 186)), (1, .int v1), (2, .int v2), (3, .int v3), (4, .int v4)]) (by decide +kernel) rfl (Nat.le_of_ble_eq_true rfl) ?_
  intro X Q hX hR
  have hX : CXok X Y RX10 cX10_lackOf 7 _ := hX
  revert hf
  show J X Y 7 Q 0 [(0, .ref (AD Y 186)), (1, .int v1), (2, .int v2), (3, .int v3), (4, .int v4)] [] G (f_X10_lackOf v1 v2 v3 v4 G = some (r, G'))
  have K6 : ∀  (n : Nat) (v5 : Int32) (v6 : Int32) (G : GM), J X Y 7 Q 6 [(0, .ref (AD Y 186)), (1, .int v1), (2, .int v2), (3, .int v3), (4, .int v4), (5, .int v5), (6, .int v6)] [] G (wl2 n (lp_X10_lackOf_6 v1 v2 v3 v4) v5 v6 G = some (r, G')) := by
    refine wl2_ind (R := fun v5 v6 G φ => J X Y 7 Q 6 [(0, .ref (AD Y 186)), (1, .int v1), (2, .int v2), (3, .int v3), (4, .int v4), (5, .int v5), (6, .int v6)] [] G φ) (fun _ _ G φ h => J_no h) ?_
    intro kc6 hk6 v5 v6 G
    unfold lp_X10_lackOf_6
    have K60 : ∀ (v6 : Int32) (s0 : Int32) (s1 : Int32) (G : GM), J X Y 7 Q 60 [(0, .ref (AD Y 186)), (1, .int v1), (2, .int v2), (3, .int v3), (4, .int v4), (6, .int v6)] [.int s0, .int s1] G (k_X10_lackOf_60 v1 v2 v3 v4 v6 s0 s1 kc6 G = some (r, G')) := by
      intro v6 s0 s1 G
      unfold k_X10_lackOf_60
      refine J_iadd hX dX10_lackOf_60 ?_
      refine J_lt (mk := Value.int) fun x61 => ?_
      refine J_istore (lv' := [(5, .int x61), (0, .ref (AD Y 186)), (1, .int v1), (2, .int v2), (3, .int v3), (4, .int v4), (6, .int v6)]) hX dX10_lackOf_61 (Nat.le_of_ble_eq_true rfl) rfl ?_
      refine J_iinc (lv' := [(6, .int (v6 + (1 : Int32))), (5, .int x61), (0, .ref (AD Y 186)), (1, .int v1), (2, .int v2), (3, .int v3), (4, .int v4)]) 6 hX dX10_lackOf_63 rfl ci_1 (Nat.le_of_ble_eq_true rfl) rfl ?_
      refine J_goto (tgt := 6) hX dX10_lackOf_66 rfl ?_
      refine J_sub (lv' := [(0, .ref (AD Y 186)), (1, .int v1), (2, .int v2), (3, .int v3), (4, .int v4), (5, .int x61), (6, .int (v6 + (1 : Int32)))]) [2, 3, 4, 5, 6, 1, 0] rfl ?_
      exact hk6 x61 (v6 + (1 : Int32)) G
    have K59 : ∀ (v6 : Int32) (s0 : Int32) (G : GM), J X Y 7 Q 59 [(0, .ref (AD Y 186)), (1, .int v1), (2, .int v2), (3, .int v3), (4, .int v4), (6, .int v6)] [.int s0] G (k_X10_lackOf_59 v1 v2 v3 v4 v6 s0 kc6 G = some (r, G')) := by
      intro v6 s0 G
      unfold k_X10_lackOf_59
      refine J_iconst hX dX10_lackOf_59 ci_0 ?_
      exact K60 v6 (0 : Int32) s0 G
    refine J_iload 6 hX dX10_lackOf_6 rfl ?_
    refine J_iconst hX dX10_lackOf_8 ci_5 ?_
    refine J_icmp_ge (tgt := 69) hX dX10_lackOf_9 rfl ?_ ?_
    · refine J_iload 5 hX dX10_lackOf_69 rfl ?_
      exact J_retI hR dX10_lackOf_71
    · refine J_iload 5 hX dX10_lackOf_12 rfl ?_
      refine J_aload_n 0 hX dX10_lackOf_14 fz0 rfl ?_
      refine J_getR (b := 206) hX dX10_lackOf_15 lf_X10_74 sk_186 rfl (by decide) rfl ?_
      refine J_aload_n 0 hX dX10_lackOf_18 fz0 rfl ?_
      refine J_iconst hX dX10_lackOf_19 ci_0 ?_
      refine J_iload_n 2 hX dX10_lackOf_20 fz2 rfl ?_
      refine J_iload_n 3 hX dX10_lackOf_21 fz3 rfl ?_
      refine J_iload 6 hX dX10_lackOf_22 rfl ?_
      refine J_callVI (As := [.int (0 : Int32), .int v2, .int v3, .int v6]) (st := [.ref (AD Y 206), .int v5]) (b := 186) hX mv_X10_314 sk_186 rfl rfl rfl (Nat.le_of_ble_eq_true rfl) (Nat.le_of_ble_eq_true rfl) (Nat.le_of_ble_eq_true rfl) dX10_lackOf_24 (fun r G1 h => ok_X10_at  h) fun r24 G24 => ?_
      refine J_iald hX dX10_lackOf_27 sk_206 ln_206 ?_
      refine J_if_le (tgt := 59) hX dX10_lackOf_28 rfl ?_ ?_
      · refine J_sub (lv' := [(0, .ref (AD Y 186)), (1, .int v1), (2, .int v2), (3, .int v3), (4, .int v4), (6, .int v6)]) [0, 1, 2, 3, 4, 6] rfl ?_
        exact K59 v6 v5 G24
      · refine J_aload_n 0 hX dX10_lackOf_31 fz0 rfl ?_
        refine J_iload_n 1 hX dX10_lackOf_32 fz1 rfl ?_
        refine J_aload_n 0 hX dX10_lackOf_33 fz0 rfl ?_
        refine J_getR (b := 206) hX dX10_lackOf_34 lf_X10_74 sk_186 rfl (by decide) rfl ?_
        refine J_aload_n 0 hX dX10_lackOf_37 fz0 rfl ?_
        refine J_iconst hX dX10_lackOf_38 ci_0 ?_
        refine J_iload_n 2 hX dX10_lackOf_39 fz2 rfl ?_
        refine J_iload_n 3 hX dX10_lackOf_40 fz3 rfl ?_
        refine J_iload 6 hX dX10_lackOf_41 rfl ?_
        refine J_callVI (As := [.int (0 : Int32), .int v2, .int v3, .int v6]) (st := [.ref (AD Y 206), .int v1, .ref (AD Y 186), .int v5]) (b := 186) hX mv_X10_314 sk_186 rfl rfl rfl (Nat.le_of_ble_eq_true rfl) (Nat.le_of_ble_eq_true rfl) (Nat.le_of_ble_eq_true rfl) dX10_lackOf_43 (fun r G1 h => ok_X10_at  h) fun r43 G43 => ?_
        refine J_iald hX dX10_lackOf_46 sk_206 ln_206 ?_
        refine J_callVI (As := [.int v1, .int (gI G43 206 r43.toNatClampNeg)]) (st := [.int v5]) (b := 186) hX mv_X10_350 sk_186 rfl rfl rfl (Nat.le_of_ble_eq_true rfl) (Nat.le_of_ble_eq_true rfl) (Nat.le_of_ble_eq_true rfl) dX10_lackOf_47 (fun r G1 h => ok_X10_calledIn  h) fun r47 G47 => ?_
        refine J_iload 4 hX dX10_lackOf_50 rfl ?_
        refine J_icmp_le (tgt := 59) hX dX10_lackOf_52 rfl ?_ ?_
        · refine J_sub (lv' := [(0, .ref (AD Y 186)), (1, .int v1), (2, .int v2), (3, .int v3), (4, .int v4), (6, .int v6)]) [0, 1, 2, 3, 4, 6] rfl ?_
          exact K59 v6 v5 G47
        · refine J_iconst hX dX10_lackOf_55 ci_1 ?_
          refine J_goto (tgt := 60) hX dX10_lackOf_56 rfl ?_
          refine J_sub (lv' := [(0, .ref (AD Y 186)), (1, .int v1), (2, .int v2), (3, .int v3), (4, .int v4), (6, .int v6)]) [0, 1, 2, 3, 4, 6] rfl ?_
          exact K60 v6 (1 : Int32) v5 G47
  unfold f_X10_lackOf
  refine J_iconst hX dX10_lackOf_0 ci_0 ?_
  refine J_istore (lv' := [(5, .int (0 : Int32)), (0, .ref (AD Y 186)), (1, .int v1), (2, .int v2), (3, .int v3), (4, .int v4)]) hX dX10_lackOf_1 (Nat.le_of_ble_eq_true rfl) rfl ?_
  refine J_iconst hX dX10_lackOf_3 ci_0 ?_
  refine J_istore (lv' := [(6, .int (0 : Int32)), (5, .int (0 : Int32)), (0, .ref (AD Y 186)), (1, .int v1), (2, .int v2), (3, .int v3), (4, .int v4)]) hX dX10_lackOf_4 (Nat.le_of_ble_eq_true rfl) rfl ?_
  refine J_sub (lv' := [(0, .ref (AD Y 186)), (1, .int v1), (2, .int v2), (3, .int v3), (4, .int v4), (5, .int (0 : Int32)), (6, .int (0 : Int32))]) [2, 3, 4, 5, 6, 1, 0] rfl ?_
  exact K6  FU (0 : Int32) (0 : Int32) G
set_option maxHeartbeats 4000000 in
set_option maxRecDepth 100000 in
theorem ok_X10_isAsked {Y : DX} {v1 : Int32} {v2 : Int32} {v3 : Int32}  {G : GM} {r : Int32} {G' : GM} (hf : f_X10_isAsked v1 v2 v3 G = some (r, G')) : OkI Y 4 M_X10_isAsked [.ref (AD Y 186), .int v1, .int v2, .int v3] G r G' := by
  refine okZ_of (lv0 := [(0, .ref (AD Y 186)), (1, .int v1), (2, .int v2), (3, .int v3)]) (by decide +kernel) rfl (Nat.le_of_ble_eq_true rfl) ?_
  intro X Q hX hR
  have hX : CXok X Y RX10 cX10_isAsked 4 _ := hX
  revert hf
  show J X Y 4 Q 0 [(0, .ref (AD Y 186)), (1, .int v1), (2, .int v2), (3, .int v3)] [] G (f_X10_isAsked v1 v2 v3 G = some (r, G'))
  unfold f_X10_isAsked
  refine J_aload_n 0 hX dX10_isAsked_0 fz0 rfl ?_
  refine J_iload_n 1 hX dX10_isAsked_1 fz1 rfl ?_
  refine J_callVI (As := [.int v1]) (st := []) (b := 186) hX mv_X10_342 sk_186 rfl rfl rfl (Nat.le_of_ble_eq_true rfl) (Nat.le_of_ble_eq_true rfl) (Nat.le_of_ble_eq_true rfl) dX10_isAsked_2 (fun r G1 h => ok_X10_isSerial  h) fun r2 G2 => ?_
  refine J_if_eq (tgt := 34) hX dX10_isAsked_5 rfl ?_ ?_
  · refine J_iconst hX dX10_isAsked_34 ci_0 ?_
    exact J_retZ hR (by decide) dX10_isAsked_35
  · refine J_aload_n 0 hX dX10_isAsked_8 fz0 rfl ?_
    refine J_iload_n 2 hX dX10_isAsked_9 fz2 rfl ?_
    refine J_callVI (As := [.int v2]) (st := []) (b := 186) hX mv_X10_336 sk_186 rfl rfl rfl (Nat.le_of_ble_eq_true rfl) (Nat.le_of_ble_eq_true rfl) (Nat.le_of_ble_eq_true rfl) dX10_isAsked_10 (fun r G1 h => ok_X10_isCard  h) fun r10 G10 => ?_
    refine J_if_eq (tgt := 34) hX dX10_isAsked_13 rfl ?_ ?_
    · refine J_iconst hX dX10_isAsked_34 ci_0 ?_
      exact J_retZ hR (by decide) dX10_isAsked_35
    · refine J_iload_n 3 hX dX10_isAsked_16 fz3 rfl ?_
      refine J_i2l hX dX10_isAsked_17 ?_
      refine J_lconst hX dX10_isAsked_18 fy0 ?_
      refine J_aload_n 0 hX dX10_isAsked_19 fz0 rfl ?_
      refine J_callVI (As := []) (st := [.long (0 : Int64), .long (v3.toInt64)]) (b := 186) hX mv_X10_332 sk_186 rfl rfl rfl (Nat.le_of_ble_eq_true rfl) (Nat.le_of_ble_eq_true rfl) (Nat.le_of_ble_eq_true rfl) dX10_isAsked_20 (fun r G1 h => ok_X10_all  h) fun r20 G20 => ?_
      refine J_i2l hX dX10_isAsked_23 ?_
      refine J_callSI (As := [.long (v3.toInt64), .long (0 : Int64), .long (r20.toInt64)]) (st := []) hX ms_X10_100 rfl rfl (Nat.le_of_ble_eq_true rfl) (Nat.le_of_ble_eq_true rfl) (Nat.le_of_ble_eq_true rfl) dX10_isAsked_24 (fun r G1 h => ok_X10_in  h) fun r24 G24 => ?_
      refine J_if_eq (tgt := 34) hX dX10_isAsked_27 rfl ?_ ?_
      · refine J_iconst hX dX10_isAsked_34 ci_0 ?_
        exact J_retZ hR (by decide) dX10_isAsked_35
      · refine J_iconst hX dX10_isAsked_30 ci_1 ?_
        refine J_goto (tgt := 35) hX dX10_isAsked_31 rfl ?_
        exact J_retZ hR (by decide) dX10_isAsked_35
set_option maxHeartbeats 4000000 in
set_option maxRecDepth 100000 in
theorem ok_X10_daubs {Y : DX} {v1 : Int32} {v2 : Int32} {v3 : Int32}  {G : GM} {r : Int32} {G' : GM} (hf : f_X10_daubs v1 v2 v3 G = some (r, G')) : OkI Y 30 M_X10_daubs [.ref (AD Y 186), .int v1, .int v2, .int v3] G r G' := by
  refine okI_of (lv0 := [(0, .ref (AD Y 186)), (1, .int v1), (2, .int v2), (3, .int v3)]) (by decide +kernel) rfl (Nat.le_of_ble_eq_true rfl) ?_
  intro X Q hX hR
  have hX : CXok X Y RX10 cX10_daubs 6 _ := hX
  revert hf
  show J X Y 6 Q 0 [(0, .ref (AD Y 186)), (1, .int v1), (2, .int v2), (3, .int v3)] [] G (f_X10_daubs v1 v2 v3 G = some (r, G'))
  have K43 : ∀  (n : Nat) (v4 : Int32) (v5 : Int32) (G : GM), J X Y 6 Q 43 [(0, .ref (AD Y 186)), (2, .int v2), (3, .int v3), (4, .int v4), (5, .int v5)] [] G (wl2 n (lp_X10_daubs_43 v1 v2 v3) v4 v5 G = some (r, G')) := by
    refine wl2_ind (R := fun v4 v5 G φ => J X Y 6 Q 43 [(0, .ref (AD Y 186)), (2, .int v2), (3, .int v3), (4, .int v4), (5, .int v5)] [] G φ) (fun _ _ G φ h => J_no h) ?_
    intro kc43 hk43 v4 v5 G
    unfold lp_X10_daubs_43
    refine J_iload 4 hX dX10_daubs_43 rfl ?_
    refine J_aload_n 0 hX dX10_daubs_45 fz0 rfl ?_
    refine J_getR (b := 193) hX dX10_daubs_46 lf_X10_34 sk_186 rfl (by decide) rfl ?_
    refine J_iconst hX dX10_daubs_49 ci_1 ?_
    refine J_iald hX dX10_daubs_50 sk_193 ln_193 ?_
    refine J_icmp_ge (tgt := 74) hX dX10_daubs_51 rfl ?_ ?_
    · refine J_iload 3 hX dX10_daubs_74 rfl ?_
      exact J_retI hR dX10_daubs_76
    · refine J_iload 3 hX dX10_daubs_54 rfl ?_
      refine J_aload_n 0 hX dX10_daubs_56 fz0 rfl ?_
      refine J_iconst hX dX10_daubs_57 ci_0 ?_
      refine J_iload_n 1 hX dX10_daubs_58 fz2 rfl ?_
      refine J_iload 4 hX dX10_daubs_59 rfl ?_
      refine J_iload_n 2 hX dX10_daubs_61 fz3 rfl ?_
      refine J_callVI (As := [.int (0 : Int32), .int v2, .int v5, .int v3]) (st := [.int v4]) (b := 186) hX mv_X10_356 sk_186 rfl rfl rfl (Nat.le_of_ble_eq_true rfl) (Nat.le_of_ble_eq_true rfl) (Nat.le_of_ble_eq_true rfl) dX10_daubs_62 (fun r G1 h => ok_X10_lackOf  h) fun r62 G62 => ?_
      refine J_isub hX dX10_daubs_65 ?_
      refine J_lt (mk := Value.int) fun x66 => ?_
      refine J_istore (lv' := [(4, .int x66), (0, .ref (AD Y 186)), (2, .int v2), (3, .int v3), (5, .int v5)]) hX dX10_daubs_66 (Nat.le_of_ble_eq_true rfl) rfl ?_
      refine J_iinc (lv' := [(5, .int (v5 + (1 : Int32))), (4, .int x66), (0, .ref (AD Y 186)), (2, .int v2), (3, .int v3)]) 4 hX dX10_daubs_68 rfl ci_1 (Nat.le_of_ble_eq_true rfl) rfl ?_
      refine J_goto (tgt := 43) hX dX10_daubs_71 rfl ?_
      refine J_sub (lv' := [(0, .ref (AD Y 186)), (2, .int v2), (3, .int v3), (4, .int x66), (5, .int (v5 + (1 : Int32)))]) [2, 3, 4, 1, 0] rfl ?_
      exact hk43 x66 (v5 + (1 : Int32)) G62
  unfold f_X10_daubs
  refine J_aload_n 0 hX dX10_daubs_0 fz0 rfl ?_
  refine J_iconst hX dX10_daubs_1 ci_0 ?_
  refine J_putI hX dX10_daubs_2 lf_X10_95 lpt_9_0 sk_186 rfl fun G2 => ?_
  refine J_aload_n 0 hX dX10_daubs_5 fz0 rfl ?_
  refine J_iload_n 1 hX dX10_daubs_6 fz1 rfl ?_
  refine J_iload_n 2 hX dX10_daubs_7 fz2 rfl ?_
  refine J_iload_n 3 hX dX10_daubs_8 fz3 rfl ?_
  refine J_callVI (As := [.int v1, .int v2, .int v3]) (st := []) (b := 186) hX mv_X10_353 sk_186 rfl rfl rfl (Nat.le_of_ble_eq_true rfl) (Nat.le_of_ble_eq_true rfl) (Nat.le_of_ble_eq_true rfl) dX10_daubs_9 (fun r G1 h => ok_X10_isAsked  h) fun r9 G9 => ?_
  refine J_if_ne (tgt := 18) hX dX10_daubs_12 rfl ?_ ?_
  · refine J_aload_n 0 hX dX10_daubs_18 fz0 rfl ?_
    refine J_iconst hX dX10_daubs_19 ci_0 ?_
    refine J_iload_n 1 hX dX10_daubs_20 fz1 rfl ?_
    refine J_iconst hX dX10_daubs_21 ci_0 ?_
    refine J_callVV (As := [.int (0 : Int32), .int v1, .int (0 : Int32)]) (st := []) (b := 186) hX mv_X10_317 sk_186 rfl rfl rfl (Nat.le_of_ble_eq_true rfl) (Nat.le_of_ble_eq_true rfl) (Nat.le_of_ble_eq_true rfl) dX10_daubs_22 (fun G1 h => ok_X10_makes  h) fun G22 => ?_
    refine J_aload_n 0 hX dX10_daubs_25 fz0 rfl ?_
    refine J_getR (b := 193) hX dX10_daubs_26 lf_X10_34 sk_186 rfl (by decide) rfl ?_
    refine J_iconst hX dX10_daubs_29 ci_1 ?_
    refine J_iald hX dX10_daubs_30 sk_193 ln_193 ?_
    refine J_aload_n 0 hX dX10_daubs_31 fz0 rfl ?_
    refine J_getR (b := 193) hX dX10_daubs_32 lf_X10_34 sk_186 rfl (by decide) rfl ?_
    refine J_iconst hX dX10_daubs_35 ci_2 ?_
    refine J_iald hX dX10_daubs_36 sk_193 ln_193 ?_
    refine J_imul hX dX10_daubs_37 ?_
    refine J_lt (mk := Value.int) fun x38 => ?_
    refine J_istore (lv' := [(4, .int x38), (0, .ref (AD Y 186)), (1, .int v1), (2, .int v2), (3, .int v3)]) hX dX10_daubs_38 (Nat.le_of_ble_eq_true rfl) rfl ?_
    refine J_iconst hX dX10_daubs_40 ci_0 ?_
    refine J_istore (lv' := [(5, .int (0 : Int32)), (4, .int x38), (0, .ref (AD Y 186)), (1, .int v1), (2, .int v2), (3, .int v3)]) hX dX10_daubs_41 (Nat.le_of_ble_eq_true rfl) rfl ?_
    refine J_sub (lv' := [(0, .ref (AD Y 186)), (2, .int v2), (3, .int v3), (4, .int x38), (5, .int (0 : Int32))]) [2, 4, 5, 1, 0] rfl ?_
    exact K43  FU x38 (0 : Int32) G22
  · refine J_bipush hX dX10_daubs_15 cbm_2 ?_
    exact J_retI hR dX10_daubs_17
set_option maxHeartbeats 4000000 in
set_option maxRecDepth 100000 in
theorem ok_X10_full {Y : DX} {v1 : Int32} {v2 : Int32} {v3 : Int32}  {G : GM} {r : Int32} {G' : GM} (hf : f_X10_full v1 v2 v3 G = some (r, G')) : OkI Y 30 M_X10_full [.ref (AD Y 186), .int v1, .int v2, .int v3] G r G' := by
  refine okI_of (lv0 := [(0, .ref (AD Y 186)), (1, .int v1), (2, .int v2), (3, .int v3)]) (by decide +kernel) rfl (Nat.le_of_ble_eq_true rfl) ?_
  intro X Q hX hR
  have hX : CXok X Y RX10 cX10_full 6 _ := hX
  revert hf
  show J X Y 6 Q 0 [(0, .ref (AD Y 186)), (1, .int v1), (2, .int v2), (3, .int v3)] [] G (f_X10_full v1 v2 v3 G = some (r, G'))
  have K31 : ∀  (n : Nat) (v4 : Int32) (v5 : Int32) (G : GM), J X Y 6 Q 31 [(0, .ref (AD Y 186)), (2, .int v2), (3, .int v3), (4, .int v4), (5, .int v5)] [] G (wl2 n (lp_X10_full_31 v1 v2 v3) v4 v5 G = some (r, G')) := by
    refine wl2_ind (R := fun v4 v5 G φ => J X Y 6 Q 31 [(0, .ref (AD Y 186)), (2, .int v2), (3, .int v3), (4, .int v4), (5, .int v5)] [] G φ) (fun _ _ G φ h => J_no h) ?_
    intro kc31 hk31 v4 v5 G
    unfold lp_X10_full_31
    have K61 : ∀ (v5 : Int32) (s0 : Int32) (s1 : Int32) (G : GM), J X Y 6 Q 61 [(0, .ref (AD Y 186)), (2, .int v2), (3, .int v3), (5, .int v5)] [.int s0, .int s1] G (k_X10_full_61 v1 v2 v3 v5 s0 s1 kc31 G = some (r, G')) := by
      intro v5 s0 s1 G
      unfold k_X10_full_61
      refine J_iadd hX dX10_full_61 ?_
      refine J_lt (mk := Value.int) fun x62 => ?_
      refine J_istore (lv' := [(4, .int x62), (0, .ref (AD Y 186)), (2, .int v2), (3, .int v3), (5, .int v5)]) hX dX10_full_62 (Nat.le_of_ble_eq_true rfl) rfl ?_
      refine J_iinc (lv' := [(5, .int (v5 + (1 : Int32))), (4, .int x62), (0, .ref (AD Y 186)), (2, .int v2), (3, .int v3)]) 4 hX dX10_full_64 rfl ci_1 (Nat.le_of_ble_eq_true rfl) rfl ?_
      refine J_goto (tgt := 31) hX dX10_full_67 rfl ?_
      refine J_sub (lv' := [(0, .ref (AD Y 186)), (2, .int v2), (3, .int v3), (4, .int x62), (5, .int (v5 + (1 : Int32)))]) [2, 3, 4, 1, 0] rfl ?_
      exact hk31 x62 (v5 + (1 : Int32)) G
    refine J_iload 4 hX dX10_full_31 rfl ?_
    refine J_aload_n 0 hX dX10_full_33 fz0 rfl ?_
    refine J_getR (b := 193) hX dX10_full_34 lf_X10_34 sk_186 rfl (by decide) rfl ?_
    refine J_iconst hX dX10_full_37 ci_1 ?_
    refine J_iald hX dX10_full_38 sk_193 ln_193 ?_
    refine J_icmp_ge (tgt := 70) hX dX10_full_39 rfl ?_ ?_
    · refine J_iload 3 hX dX10_full_70 rfl ?_
      exact J_retI hR dX10_full_72
    · refine J_iload 3 hX dX10_full_42 rfl ?_
      refine J_aload_n 0 hX dX10_full_44 fz0 rfl ?_
      refine J_iconst hX dX10_full_45 ci_0 ?_
      refine J_iload_n 1 hX dX10_full_46 fz2 rfl ?_
      refine J_iload 4 hX dX10_full_47 rfl ?_
      refine J_iload_n 2 hX dX10_full_49 fz3 rfl ?_
      refine J_callVI (As := [.int (0 : Int32), .int v2, .int v5, .int v3]) (st := [.int v4]) (b := 186) hX mv_X10_356 sk_186 rfl rfl rfl (Nat.le_of_ble_eq_true rfl) (Nat.le_of_ble_eq_true rfl) (Nat.le_of_ble_eq_true rfl) dX10_full_50 (fun r G1 h => ok_X10_lackOf  h) fun r50 G50 => ?_
      refine J_if_ne (tgt := 60) hX dX10_full_53 rfl ?_ ?_
      · refine J_iconst hX dX10_full_60 ci_0 ?_
        refine J_sub (lv' := [(0, .ref (AD Y 186)), (2, .int v2), (3, .int v3), (5, .int v5)]) [0, 1, 2, 4] rfl ?_
        exact K61 v5 (0 : Int32) v4 G50
      · refine J_iconst hX dX10_full_56 ci_1 ?_
        refine J_goto (tgt := 61) hX dX10_full_57 rfl ?_
        refine J_sub (lv' := [(0, .ref (AD Y 186)), (2, .int v2), (3, .int v3), (5, .int v5)]) [0, 1, 2, 4] rfl ?_
        exact K61 v5 (1 : Int32) v4 G50
  unfold f_X10_full
  refine J_aload_n 0 hX dX10_full_0 fz0 rfl ?_
  refine J_iconst hX dX10_full_1 ci_0 ?_
  refine J_putI hX dX10_full_2 lf_X10_95 lpt_9_0 sk_186 rfl fun G2 => ?_
  refine J_aload_n 0 hX dX10_full_5 fz0 rfl ?_
  refine J_iload_n 1 hX dX10_full_6 fz1 rfl ?_
  refine J_iload_n 2 hX dX10_full_7 fz2 rfl ?_
  refine J_iload_n 3 hX dX10_full_8 fz3 rfl ?_
  refine J_callVI (As := [.int v1, .int v2, .int v3]) (st := []) (b := 186) hX mv_X10_353 sk_186 rfl rfl rfl (Nat.le_of_ble_eq_true rfl) (Nat.le_of_ble_eq_true rfl) (Nat.le_of_ble_eq_true rfl) dX10_full_9 (fun r G1 h => ok_X10_isAsked  h) fun r9 G9 => ?_
  refine J_if_ne (tgt := 18) hX dX10_full_12 rfl ?_ ?_
  · refine J_aload_n 0 hX dX10_full_18 fz0 rfl ?_
    refine J_iconst hX dX10_full_19 ci_0 ?_
    refine J_iload_n 1 hX dX10_full_20 fz1 rfl ?_
    refine J_iconst hX dX10_full_21 ci_0 ?_
    refine J_callVV (As := [.int (0 : Int32), .int v1, .int (0 : Int32)]) (st := []) (b := 186) hX mv_X10_317 sk_186 rfl rfl rfl (Nat.le_of_ble_eq_true rfl) (Nat.le_of_ble_eq_true rfl) (Nat.le_of_ble_eq_true rfl) dX10_full_22 (fun G1 h => ok_X10_makes  h) fun G22 => ?_
    refine J_iconst hX dX10_full_25 ci_0 ?_
    refine J_istore (lv' := [(4, .int (0 : Int32)), (0, .ref (AD Y 186)), (1, .int v1), (2, .int v2), (3, .int v3)]) hX dX10_full_26 (Nat.le_of_ble_eq_true rfl) rfl ?_
    refine J_iconst hX dX10_full_28 ci_0 ?_
    refine J_istore (lv' := [(5, .int (0 : Int32)), (4, .int (0 : Int32)), (0, .ref (AD Y 186)), (1, .int v1), (2, .int v2), (3, .int v3)]) hX dX10_full_29 (Nat.le_of_ble_eq_true rfl) rfl ?_
    refine J_sub (lv' := [(0, .ref (AD Y 186)), (2, .int v2), (3, .int v3), (4, .int (0 : Int32)), (5, .int (0 : Int32))]) [2, 4, 5, 1, 0] rfl ?_
    exact K31  FU (0 : Int32) (0 : Int32) G22
  · refine J_bipush hX dX10_full_15 cbm_2 ?_
    exact J_retI hR dX10_full_17
set_option maxHeartbeats 4000000 in
set_option maxRecDepth 100000 in
theorem ok_X10_lacksOf {Y : DX} {v1 : Int32} {v2 : Int32} {v3 : Int32} {v4 : Int32}  {G : GM} {r : Int32} {G' : GM} (hf : f_X10_lacksOf v1 v2 v3 v4 G = some (r, G')) : OkI Y 6 M_X10_lacksOf [.ref (AD Y 186), .int v1, .int v2, .int v3, .int v4] G r G' := by
  refine okI_of (lv0 := [(0, .ref (AD Y 186)), (1, .int v1), (2, .int v2), (3, .int v3), (4, .int v4)]) (by decide +kernel) rfl (Nat.le_of_ble_eq_true rfl) ?_
  intro X Q hX hR
  have hX : CXok X Y RX10 cX10_lacksOf 10 _ := hX
  revert hf
  show J X Y 10 Q 0 [(0, .ref (AD Y 186)), (1, .int v1), (2, .int v2), (3, .int v3), (4, .int v4)] [] G (f_X10_lacksOf v1 v2 v3 v4 G = some (r, G'))
  have K27 : ∀ (v5 : Int32) (n : Nat) (v6 : Int32) (v7 : Int32) (G : GM), J X Y 10 Q 27 [(0, .ref (AD Y 186)), (1, .int v1), (2, .int v2), (3, .int v3), (4, .int v4), (5, .int v5), (6, .int v6), (7, .int v7)] [] G (wl2 n (lp_X10_lacksOf_27 v1 v2 v3 v4 v5) v6 v7 G = some (r, G')) := by
    intro v5
    refine wl2_ind (R := fun v6 v7 G φ => J X Y 10 Q 27 [(0, .ref (AD Y 186)), (1, .int v1), (2, .int v2), (3, .int v3), (4, .int v4), (5, .int v5), (6, .int v6), (7, .int v7)] [] G φ) (fun _ _ G φ h => J_no h) ?_
    intro kc27 hk27 v6 v7 G
    unfold lp_X10_lacksOf_27
    have K98 : ∀ (v6 : Int32) (v7 : Int32) (v8 : Int32) (v9 : Int32) (G : GM), J X Y 10 Q 98 [(0, .ref (AD Y 186)), (1, .int v1), (2, .int v2), (3, .int v3), (4, .int v4), (5, .int v5), (6, .int v6), (7, .int v7), (8, .int v8), (9, .int v9)] [] G (k_X10_lacksOf_98 v1 v2 v3 v4 v5 v6 v7 v8 v9 kc27 G = some (r, G')) := by
      intro v6 v7 v8 v9 G
      unfold k_X10_lacksOf_98
      refine J_aload_n 0 hX dX10_lacksOf_98 fz0 rfl ?_
      refine J_getR (b := 208) hX dX10_lacksOf_99 lf_X10_80 sk_186 rfl (by decide) rfl ?_
      refine J_iload 9 hX dX10_lacksOf_102 rfl ?_
      refine J_iload 8 hX dX10_lacksOf_104 rfl ?_
      refine J_iast hX dX10_lacksOf_106 sk_208 ln_208 fun G106 => ?_
      refine J_iinc (lv' := [(7, .int (v7 + (1 : Int32))), (0, .ref (AD Y 186)), (1, .int v1), (2, .int v2), (3, .int v3), (4, .int v4), (5, .int v5), (6, .int v6), (8, .int v8), (9, .int v9)]) 7 hX dX10_lacksOf_107 rfl ci_1 (Nat.le_of_ble_eq_true rfl) rfl ?_
      refine J_goto (tgt := 27) hX dX10_lacksOf_110 rfl ?_
      refine J_sub (lv' := [(0, .ref (AD Y 186)), (1, .int v1), (2, .int v2), (3, .int v3), (4, .int v4), (5, .int v5), (6, .int v6), (7, .int (v7 + (1 : Int32)))]) [1, 2, 3, 4, 5, 6, 7, 0] rfl ?_
      exact hk27 v6 (v7 + (1 : Int32)) G106
    have K57 : ∀ (v6 : Int32) (v7 : Int32) (v8 : Int32) (n : Nat) (v9 : Int32) (G : GM), J X Y 10 Q 57 [(0, .ref (AD Y 186)), (1, .int v1), (2, .int v2), (3, .int v3), (4, .int v4), (5, .int v5), (6, .int v6), (7, .int v7), (8, .int v8), (9, .int v9)] [] G (wl1 n (lp_X10_lacksOf_57 v1 v2 v3 v4 v5 v6 v7 v8 kc27) v9 G = some (r, G')) := by
      intro v6 v7 v8
      refine wl1_ind (R := fun v9 G φ => J X Y 10 Q 57 [(0, .ref (AD Y 186)), (1, .int v1), (2, .int v2), (3, .int v3), (4, .int v4), (5, .int v5), (6, .int v6), (7, .int v7), (8, .int v8), (9, .int v9)] [] G φ) (fun _ G φ h => J_no h) ?_
      intro kc57 hk57 v9 G
      unfold lp_X10_lacksOf_57
      refine J_iload 9 hX dX10_lacksOf_57 rfl ?_
      refine J_if_le (tgt := 98) hX dX10_lacksOf_59 rfl ?_ ?_
      · exact K98 v6 v7 v8 v9 G
      · refine J_aload_n 0 hX dX10_lacksOf_62 fz0 rfl ?_
        refine J_getR (b := 208) hX dX10_lacksOf_63 lf_X10_80 sk_186 rfl (by decide) rfl ?_
        refine J_iload 9 hX dX10_lacksOf_66 rfl ?_
        refine J_iconst hX dX10_lacksOf_68 ci_1 ?_
        refine J_isub hX dX10_lacksOf_69 ?_
        refine J_iald hX dX10_lacksOf_70 sk_208 ln_208 ?_
        refine J_iload 8 hX dX10_lacksOf_71 rfl ?_
        refine J_icmp_le (tgt := 98) hX dX10_lacksOf_73 rfl ?_ ?_
        · exact K98 v6 v7 v8 v9 G
        · refine J_aload_n 0 hX dX10_lacksOf_76 fz0 rfl ?_
          refine J_getR (b := 208) hX dX10_lacksOf_77 lf_X10_80 sk_186 rfl (by decide) rfl ?_
          refine J_iload 9 hX dX10_lacksOf_80 rfl ?_
          refine J_aload_n 0 hX dX10_lacksOf_82 fz0 rfl ?_
          refine J_getR (b := 208) hX dX10_lacksOf_83 lf_X10_80 sk_186 rfl (by decide) rfl ?_
          refine J_iload 9 hX dX10_lacksOf_86 rfl ?_
          refine J_iconst hX dX10_lacksOf_88 ci_1 ?_
          refine J_isub hX dX10_lacksOf_89 ?_
          refine J_iald hX dX10_lacksOf_90 sk_208 ln_208 ?_
          refine J_iast hX dX10_lacksOf_91 sk_208 ln_208 fun G91 => ?_
          refine J_iinc (lv' := [(9, .int (v9 + (-1 : Int32))), (0, .ref (AD Y 186)), (1, .int v1), (2, .int v2), (3, .int v3), (4, .int v4), (5, .int v5), (6, .int v6), (7, .int v7), (8, .int v8)]) 9 hX dX10_lacksOf_92 rfl cim_1 (Nat.le_of_ble_eq_true rfl) rfl ?_
          refine J_goto (tgt := 57) hX dX10_lacksOf_95 rfl ?_
          refine J_sub (lv' := [(0, .ref (AD Y 186)), (1, .int v1), (2, .int v2), (3, .int v3), (4, .int v4), (5, .int v5), (6, .int v6), (7, .int v7), (8, .int v8), (9, .int (v9 + (-1 : Int32)))]) [1, 2, 3, 4, 5, 6, 7, 8, 9, 0] rfl ?_
          exact hk57 (v9 + (-1 : Int32)) G91
    refine J_iload 7 hX dX10_lacksOf_27 rfl ?_
    refine J_iload 5 hX dX10_lacksOf_29 rfl ?_
    refine J_icmp_ge (tgt := 113) hX dX10_lacksOf_31 rfl ?_ ?_
    · refine J_iload_n 3 hX dX10_lacksOf_113 fz3 rfl ?_
      refine J_if_ne (tgt := 126) hX dX10_lacksOf_114 rfl ?_ ?_
      · refine J_iload_n 3 hX dX10_lacksOf_126 fz3 rfl ?_
        refine J_iconst hX dX10_lacksOf_127 ci_1 ?_
        refine J_icmp_ne (tgt := 147) hX dX10_lacksOf_128 rfl ?_ ?_
        · refine J_iload 6 hX dX10_lacksOf_147 rfl ?_
          exact J_retI hR dX10_lacksOf_149
        · refine J_aload_n 0 hX dX10_lacksOf_131 fz0 rfl ?_
          refine J_getR (b := 208) hX dX10_lacksOf_132 lf_X10_80 sk_186 rfl (by decide) rfl ?_
          refine J_iconst hX dX10_lacksOf_135 ci_0 ?_
          refine J_iald hX dX10_lacksOf_136 sk_208 ln_208 ?_
          refine J_aload_n 0 hX dX10_lacksOf_137 fz0 rfl ?_
          refine J_getR (b := 208) hX dX10_lacksOf_138 lf_X10_80 sk_186 rfl (by decide) rfl ?_
          refine J_iconst hX dX10_lacksOf_141 ci_1 ?_
          refine J_iald hX dX10_lacksOf_142 sk_208 ln_208 ?_
          refine J_iadd hX dX10_lacksOf_143 ?_
          refine J_goto (tgt := 149) hX dX10_lacksOf_144 rfl ?_
          exact J_retI hR dX10_lacksOf_149
      · refine J_aload_n 0 hX dX10_lacksOf_117 fz0 rfl ?_
        refine J_getR (b := 208) hX dX10_lacksOf_118 lf_X10_80 sk_186 rfl (by decide) rfl ?_
        refine J_iconst hX dX10_lacksOf_121 ci_0 ?_
        refine J_iald hX dX10_lacksOf_122 sk_208 ln_208 ?_
        refine J_goto (tgt := 149) hX dX10_lacksOf_123 rfl ?_
        exact J_retI hR dX10_lacksOf_149
    · refine J_aload_n 0 hX dX10_lacksOf_34 fz0 rfl ?_
      refine J_iload_n 1 hX dX10_lacksOf_35 fz1 rfl ?_
      refine J_iload_n 2 hX dX10_lacksOf_36 fz2 rfl ?_
      refine J_iload 7 hX dX10_lacksOf_37 rfl ?_
      refine J_iload 4 hX dX10_lacksOf_39 rfl ?_
      refine J_callVI (As := [.int v1, .int v2, .int v7, .int v4]) (st := []) (b := 186) hX mv_X10_356 sk_186 rfl rfl rfl (Nat.le_of_ble_eq_true rfl) (Nat.le_of_ble_eq_true rfl) (Nat.le_of_ble_eq_true rfl) dX10_lacksOf_41 (fun r G1 h => ok_X10_lackOf  h) fun r41 G41 => ?_
      refine J_istore (lv' := [(8, .int r41), (0, .ref (AD Y 186)), (1, .int v1), (2, .int v2), (3, .int v3), (4, .int v4), (5, .int v5), (6, .int v6), (7, .int v7)]) hX dX10_lacksOf_44 (Nat.le_of_ble_eq_true rfl) rfl ?_
      refine J_iload 7 hX dX10_lacksOf_46 rfl ?_
      refine J_iload 0 hX dX10_lacksOf_48 rfl ?_
      refine J_iadd hX dX10_lacksOf_50 ?_
      refine J_lt (mk := Value.int) fun x51 => ?_
      refine J_istore (lv' := [(6, .int x51), (8, .int r41), (0, .ref (AD Y 186)), (1, .int v1), (2, .int v2), (3, .int v3), (4, .int v4), (5, .int v5), (7, .int v7)]) hX dX10_lacksOf_51 (Nat.le_of_ble_eq_true rfl) rfl ?_
      refine J_iload 8 hX dX10_lacksOf_53 rfl ?_
      refine J_istore (lv' := [(9, .int v7), (6, .int x51), (8, .int r41), (0, .ref (AD Y 186)), (1, .int v1), (2, .int v2), (3, .int v3), (4, .int v4), (5, .int v5), (7, .int v7)]) hX dX10_lacksOf_55 (Nat.le_of_ble_eq_true rfl) rfl ?_
      refine J_sub (lv' := [(0, .ref (AD Y 186)), (1, .int v1), (2, .int v2), (3, .int v3), (4, .int v4), (5, .int v5), (6, .int x51), (7, .int v7), (8, .int r41), (9, .int v7)]) [3, 4, 5, 6, 7, 8, 1, 9, 2, 0] rfl ?_
      exact K57 x51 v7 r41 FU v7 G41
  have K21 : ∀ (v5 : Int32) (G : GM), J X Y 10 Q 21 [(0, .ref (AD Y 186)), (1, .int v1), (2, .int v2), (3, .int v3), (4, .int v4), (5, .int v5)] [] G (k_X10_lacksOf_21 v1 v2 v3 v4 v5 G = some (r, G')) := by
    intro v5 G
    unfold k_X10_lacksOf_21
    refine J_iconst hX dX10_lacksOf_21 ci_0 ?_
    refine J_istore (lv' := [(6, .int (0 : Int32)), (0, .ref (AD Y 186)), (1, .int v1), (2, .int v2), (3, .int v3), (4, .int v4), (5, .int v5)]) hX dX10_lacksOf_22 (Nat.le_of_ble_eq_true rfl) rfl ?_
    refine J_iconst hX dX10_lacksOf_24 ci_0 ?_
    refine J_istore (lv' := [(7, .int (0 : Int32)), (6, .int (0 : Int32)), (0, .ref (AD Y 186)), (1, .int v1), (2, .int v2), (3, .int v3), (4, .int v4), (5, .int v5)]) hX dX10_lacksOf_25 (Nat.le_of_ble_eq_true rfl) rfl ?_
    refine J_sub (lv' := [(0, .ref (AD Y 186)), (1, .int v1), (2, .int v2), (3, .int v3), (4, .int v4), (5, .int v5), (6, .int (0 : Int32)), (7, .int (0 : Int32))]) [2, 3, 4, 5, 6, 7, 1, 0] rfl ?_
    exact K27 v5 FU (0 : Int32) (0 : Int32) G
  unfold f_X10_lacksOf
  refine J_aload_n 0 hX dX10_lacksOf_0 fz0 rfl ?_
  refine J_getR (b := 193) hX dX10_lacksOf_1 lf_X10_34 sk_186 rfl (by decide) rfl ?_
  refine J_iconst hX dX10_lacksOf_4 ci_1 ?_
  refine J_iald hX dX10_lacksOf_5 sk_193 ln_193 ?_
  refine J_lt (mk := Value.int) fun x6 => ?_
  refine J_istore (lv' := [(5, .int x6), (0, .ref (AD Y 186)), (1, .int v1), (2, .int v2), (3, .int v3), (4, .int v4)]) hX dX10_lacksOf_6 (Nat.le_of_ble_eq_true rfl) rfl ?_
  refine J_iload_n 4 hX dX10_lacksOf_8 fz3 rfl ?_
  refine J_iconst hX dX10_lacksOf_9 ci_1 ?_
  refine J_icmp_ne (tgt := 21) hX dX10_lacksOf_10 rfl ?_ ?_
  · refine J_sub (lv' := [(0, .ref (AD Y 186)), (1, .int v1), (2, .int v2), (3, .int v3), (4, .int v4), (5, .int x6)]) [1, 2, 3, 4, 5, 0] rfl ?_
    exact K21 x6 G
  · refine J_iload 0 hX dX10_lacksOf_13 rfl ?_
    refine J_iconst hX dX10_lacksOf_15 ci_2 ?_
    refine J_icmp_ge (tgt := 21) hX dX10_lacksOf_16 rfl ?_ ?_
    · refine J_sub (lv' := [(0, .ref (AD Y 186)), (1, .int v1), (2, .int v2), (3, .int v3), (4, .int v4), (5, .int x6)]) [1, 2, 3, 4, 5, 0] rfl ?_
      exact K21 x6 G
    · refine J_iconst hX dX10_lacksOf_19 cim_1 ?_
      exact J_retI hR dX10_lacksOf_20
set_option maxHeartbeats 4000000 in
set_option maxRecDepth 100000 in
theorem ok_X10_isKind {Y : DX} {v0 : Int32}  {G : GM} {r : Int32} {G' : GM} (hf : f_X10_isKind v0 G = some (r, G')) : OkI Y 2 M_X10_isKind [.int v0] G r G' := by
  refine okZ_of (lv0 := [(0, .int v0)]) (by decide +kernel) rfl (Nat.le_of_ble_eq_true rfl) ?_
  intro X Q hX hR
  have hX : CXok X Y RX10 cX10_isKind 1 _ := hX
  revert hf
  show J X Y 1 Q 0 [(0, .int v0)] [] G (f_X10_isKind v0 G = some (r, G'))
  unfold f_X10_isKind
  refine J_iload_n 0 hX dX10_isKind_0 fz0 rfl ?_
  refine J_i2l hX dX10_isKind_1 ?_
  refine J_lconst hX dX10_isKind_2 fy0 ?_
  refine J_ldc2 hX dX10_isKind_3 ll_X10_359 ?_
  refine J_callSI (As := [.long (v0.toInt64), .long (0 : Int64), .long (2 : Int64)]) (st := []) hX ms_X10_100 rfl rfl (Nat.le_of_ble_eq_true rfl) (Nat.le_of_ble_eq_true rfl) (Nat.le_of_ble_eq_true rfl) dX10_isKind_6 (fun r G1 h => ok_X10_in  h) fun r6 G6 => ?_
  exact J_retZg hR dX10_isKind_9
set_option maxHeartbeats 4000000 in
set_option maxRecDepth 100000 in
theorem ok_X10_lacks {Y : DX} {v1 : Int32} {v2 : Int32} {v3 : Int32} {v4 : Int32}  {G : GM} {r : Int32} {G' : GM} (hf : f_X10_lacks v1 v2 v3 v4 G = some (r, G')) : OkI Y 30 M_X10_lacks [.ref (AD Y 186), .int v1, .int v2, .int v3, .int v4] G r G' := by
  refine okI_of (lv0 := [(0, .ref (AD Y 186)), (1, .int v1), (2, .int v2), (3, .int v3), (4, .int v4)]) (by decide +kernel) rfl (Nat.le_of_ble_eq_true rfl) ?_
  intro X Q hX hR
  have hX : CXok X Y RX10 cX10_lacks 5 _ := hX
  revert hf
  show J X Y 5 Q 0 [(0, .ref (AD Y 186)), (1, .int v1), (2, .int v2), (3, .int v3), (4, .int v4)] [] G (f_X10_lacks v1 v2 v3 v4 G = some (r, G'))
  unfold f_X10_lacks
  refine J_aload_n 0 hX dX10_lacks_0 fz0 rfl ?_
  refine J_iconst hX dX10_lacks_1 ci_0 ?_
  refine J_putI hX dX10_lacks_2 lf_X10_95 lpt_9_0 sk_186 rfl fun G2 => ?_
  refine J_aload_n 0 hX dX10_lacks_5 fz0 rfl ?_
  refine J_iload_n 1 hX dX10_lacks_6 fz1 rfl ?_
  refine J_iload_n 2 hX dX10_lacks_7 fz2 rfl ?_
  refine J_iload 4 hX dX10_lacks_8 rfl ?_
  refine J_callVI (As := [.int v1, .int v2, .int v4]) (st := []) (b := 186) hX mv_X10_353 sk_186 rfl rfl rfl (Nat.le_of_ble_eq_true rfl) (Nat.le_of_ble_eq_true rfl) (Nat.le_of_ble_eq_true rfl) dX10_lacks_10 (fun r G1 h => ok_X10_isAsked  h) fun r10 G10 => ?_
  refine J_if_eq (tgt := 23) hX dX10_lacks_13 rfl ?_ ?_
  · refine J_bipush hX dX10_lacks_23 cbm_2 ?_
    exact J_retI hR dX10_lacks_25
  · refine J_iload_n 3 hX dX10_lacks_16 fz3 rfl ?_
    refine J_callSI (As := [.int v3]) (st := []) hX ms_X10_361 rfl rfl (Nat.le_of_ble_eq_true rfl) (Nat.le_of_ble_eq_true rfl) (Nat.le_of_ble_eq_true rfl) dX10_lacks_17 (fun r G1 h => ok_X10_isKind  h) fun r17 G17 => ?_
    refine J_if_ne (tgt := 26) hX dX10_lacks_20 rfl ?_ ?_
    · refine J_aload_n 0 hX dX10_lacks_26 fz0 rfl ?_
      refine J_iconst hX dX10_lacks_27 ci_0 ?_
      refine J_iload_n 1 hX dX10_lacks_28 fz1 rfl ?_
      refine J_iconst hX dX10_lacks_29 ci_0 ?_
      refine J_callVV (As := [.int (0 : Int32), .int v1, .int (0 : Int32)]) (st := []) (b := 186) hX mv_X10_317 sk_186 rfl rfl rfl (Nat.le_of_ble_eq_true rfl) (Nat.le_of_ble_eq_true rfl) (Nat.le_of_ble_eq_true rfl) dX10_lacks_30 (fun G1 h => ok_X10_makes  h) fun G30 => ?_
      refine J_aload_n 0 hX dX10_lacks_33 fz0 rfl ?_
      refine J_iconst hX dX10_lacks_34 ci_0 ?_
      refine J_iload_n 2 hX dX10_lacks_35 fz2 rfl ?_
      refine J_iload_n 3 hX dX10_lacks_36 fz3 rfl ?_
      refine J_iload 4 hX dX10_lacks_37 rfl ?_
      refine J_callVI (As := [.int (0 : Int32), .int v2, .int v3, .int v4]) (st := []) (b := 186) hX mv_X10_364 sk_186 rfl rfl rfl (Nat.le_of_ble_eq_true rfl) (Nat.le_of_ble_eq_true rfl) (Nat.le_of_ble_eq_true rfl) dX10_lacks_39 (fun r G1 h => ok_X10_lacksOf  h) fun r39 G39 => ?_
      exact J_retI hR dX10_lacks_42
    · refine J_bipush hX dX10_lacks_23 cbm_2 ?_
      exact J_retI hR dX10_lacks_25
set_option maxHeartbeats 4000000 in
set_option maxRecDepth 100000 in
theorem ok_X10_doneOf {Y : DX} {v1 : Int32} {v2 : Int32} {v3 : Int32}  {G : GM} {r : Int32} {G' : GM} (hf : f_X10_doneOf v1 v2 v3 G = some (r, G')) : OkI Y 7 M_X10_doneOf [.ref (AD Y 186), .int v1, .int v2, .int v3] G r G' := by
  refine okI_of (lv0 := [(0, .ref (AD Y 186)), (1, .int v1), (2, .int v2), (3, .int v3)]) (by decide +kernel) rfl (Nat.le_of_ble_eq_true rfl) ?_
  intro X Q hX hR
  have hX : CXok X Y RX10 cX10_doneOf 5 _ := hX
  revert hf
  show J X Y 5 Q 0 [(0, .ref (AD Y 186)), (1, .int v1), (2, .int v2), (3, .int v3)] [] G (f_X10_doneOf v1 v2 v3 G = some (r, G'))
  have K3 : ∀  (n : Nat) (v4 : Int32) (G : GM), J X Y 5 Q 3 [(0, .ref (AD Y 186)), (1, .int v1), (2, .int v2), (3, .int v3), (4, .int v4)] [] G (wl1 n (lp_X10_doneOf_3 v1 v2 v3) v4 G = some (r, G')) := by
    refine wl1_ind (R := fun v4 G φ => J X Y 5 Q 3 [(0, .ref (AD Y 186)), (1, .int v1), (2, .int v2), (3, .int v3), (4, .int v4)] [] G φ) (fun _ G φ h => J_no h) ?_
    intro kc3 hk3 v4 G
    unfold lp_X10_doneOf_3
    refine J_iload 4 hX dX10_doneOf_3 rfl ?_
    refine J_aload_n 0 hX dX10_doneOf_5 fz0 rfl ?_
    refine J_callVI (As := []) (st := [.int v4]) (b := 186) hX mv_X10_332 sk_186 rfl rfl rfl (Nat.le_of_ble_eq_true rfl) (Nat.le_of_ble_eq_true rfl) (Nat.le_of_ble_eq_true rfl) dX10_doneOf_6 (fun r G1 h => ok_X10_all  h) fun r6 G6 => ?_
    refine J_icmp_gt (tgt := 33) hX dX10_doneOf_9 rfl ?_ ?_
    · refine J_iconst hX dX10_doneOf_33 cim_1 ?_
      exact J_retI hR dX10_doneOf_34
    · refine J_aload_n 0 hX dX10_doneOf_12 fz0 rfl ?_
      refine J_iload_n 1 hX dX10_doneOf_13 fz1 rfl ?_
      refine J_iload_n 2 hX dX10_doneOf_14 fz2 rfl ?_
      refine J_iload_n 3 hX dX10_doneOf_15 fz3 rfl ?_
      refine J_iload 4 hX dX10_doneOf_16 rfl ?_
      refine J_callVI (As := [.int v1, .int v2, .int v3, .int v4]) (st := []) (b := 186) hX mv_X10_364 sk_186 rfl rfl rfl (Nat.le_of_ble_eq_true rfl) (Nat.le_of_ble_eq_true rfl) (Nat.le_of_ble_eq_true rfl) dX10_doneOf_18 (fun r G1 h => ok_X10_lacksOf  h) fun r18 G18 => ?_
      refine J_if_ne (tgt := 27) hX dX10_doneOf_21 rfl ?_ ?_
      · refine J_iinc (lv' := [(4, .int (v4 + (1 : Int32))), (0, .ref (AD Y 186)), (1, .int v1), (2, .int v2), (3, .int v3)]) 4 hX dX10_doneOf_27 rfl ci_1 (Nat.le_of_ble_eq_true rfl) rfl ?_
        refine J_goto (tgt := 3) hX dX10_doneOf_30 rfl ?_
        refine J_sub (lv' := [(0, .ref (AD Y 186)), (1, .int v1), (2, .int v2), (3, .int v3), (4, .int (v4 + (1 : Int32)))]) [1, 2, 3, 4, 0] rfl ?_
        exact hk3 (v4 + (1 : Int32)) G18
      · refine J_iload 4 hX dX10_doneOf_24 rfl ?_
        exact J_retI hR dX10_doneOf_26
  unfold f_X10_doneOf
  refine J_iconst hX dX10_doneOf_0 ci_0 ?_
  refine J_istore (lv' := [(4, .int (0 : Int32)), (0, .ref (AD Y 186)), (1, .int v1), (2, .int v2), (3, .int v3)]) hX dX10_doneOf_1 (Nat.le_of_ble_eq_true rfl) rfl ?_
  refine J_sub (lv' := [(0, .ref (AD Y 186)), (1, .int v1), (2, .int v2), (3, .int v3), (4, .int (0 : Int32))]) [1, 2, 3, 4, 0] rfl ?_
  exact K3  FU (0 : Int32) G
set_option maxHeartbeats 4000000 in
set_option maxRecDepth 100000 in
theorem ok_X10_done {Y : DX} {v1 : Int32} {v2 : Int32} {v3 : Int32}  {G : GM} {r : Int32} {G' : GM} (hf : f_X10_done v1 v2 v3 G = some (r, G')) : OkI Y 30 M_X10_done [.ref (AD Y 186), .int v1, .int v2, .int v3] G r G' := by
  refine okI_of (lv0 := [(0, .ref (AD Y 186)), (1, .int v1), (2, .int v2), (3, .int v3)]) (by decide +kernel) rfl (Nat.le_of_ble_eq_true rfl) ?_
  intro X Q hX hR
  have hX : CXok X Y RX10 cX10_done 4 _ := hX
  revert hf
  show J X Y 4 Q 0 [(0, .ref (AD Y 186)), (1, .int v1), (2, .int v2), (3, .int v3)] [] G (f_X10_done v1 v2 v3 G = some (r, G'))
  unfold f_X10_done
  refine J_aload_n 0 hX dX10_done_0 fz0 rfl ?_
  refine J_iconst hX dX10_done_1 ci_0 ?_
  refine J_putI hX dX10_done_2 lf_X10_95 lpt_9_0 sk_186 rfl fun G2 => ?_
  refine J_aload_n 0 hX dX10_done_5 fz0 rfl ?_
  refine J_iload_n 1 hX dX10_done_6 fz1 rfl ?_
  refine J_callVI (As := [.int v1]) (st := []) (b := 186) hX mv_X10_342 sk_186 rfl rfl rfl (Nat.le_of_ble_eq_true rfl) (Nat.le_of_ble_eq_true rfl) (Nat.le_of_ble_eq_true rfl) dX10_done_7 (fun r G1 h => ok_X10_isSerial  h) fun r7 G7 => ?_
  refine J_if_eq (tgt := 28) hX dX10_done_10 rfl ?_ ?_
  · refine J_bipush hX dX10_done_28 cbm_2 ?_
    exact J_retI hR dX10_done_30
  · refine J_aload_n 0 hX dX10_done_13 fz0 rfl ?_
    refine J_iload_n 2 hX dX10_done_14 fz2 rfl ?_
    refine J_callVI (As := [.int v2]) (st := []) (b := 186) hX mv_X10_336 sk_186 rfl rfl rfl (Nat.le_of_ble_eq_true rfl) (Nat.le_of_ble_eq_true rfl) (Nat.le_of_ble_eq_true rfl) dX10_done_15 (fun r G1 h => ok_X10_isCard  h) fun r15 G15 => ?_
    refine J_if_eq (tgt := 28) hX dX10_done_18 rfl ?_ ?_
    · refine J_bipush hX dX10_done_28 cbm_2 ?_
      exact J_retI hR dX10_done_30
    · refine J_iload_n 3 hX dX10_done_21 fz3 rfl ?_
      refine J_callSI (As := [.int v3]) (st := []) hX ms_X10_361 rfl rfl (Nat.le_of_ble_eq_true rfl) (Nat.le_of_ble_eq_true rfl) (Nat.le_of_ble_eq_true rfl) dX10_done_22 (fun r G1 h => ok_X10_isKind  h) fun r22 G22 => ?_
      refine J_if_ne (tgt := 31) hX dX10_done_25 rfl ?_ ?_
      · refine J_aload_n 0 hX dX10_done_31 fz0 rfl ?_
        refine J_iconst hX dX10_done_32 ci_0 ?_
        refine J_iload_n 1 hX dX10_done_33 fz1 rfl ?_
        refine J_iconst hX dX10_done_34 ci_0 ?_
        refine J_callVV (As := [.int (0 : Int32), .int v1, .int (0 : Int32)]) (st := []) (b := 186) hX mv_X10_317 sk_186 rfl rfl rfl (Nat.le_of_ble_eq_true rfl) (Nat.le_of_ble_eq_true rfl) (Nat.le_of_ble_eq_true rfl) dX10_done_35 (fun G1 h => ok_X10_makes  h) fun G35 => ?_
        refine J_aload_n 0 hX dX10_done_38 fz0 rfl ?_
        refine J_iconst hX dX10_done_39 ci_0 ?_
        refine J_iload_n 2 hX dX10_done_40 fz2 rfl ?_
        refine J_iload_n 3 hX dX10_done_41 fz3 rfl ?_
        refine J_callVI (As := [.int (0 : Int32), .int v2, .int v3]) (st := []) (b := 186) hX mv_X10_367 sk_186 rfl rfl rfl (Nat.le_of_ble_eq_true rfl) (Nat.le_of_ble_eq_true rfl) (Nat.le_of_ble_eq_true rfl) dX10_done_42 (fun r G1 h => ok_X10_doneOf  h) fun r42 G42 => ?_
        exact J_retI hR dX10_done_45
      · refine J_bipush hX dX10_done_28 cbm_2 ?_
        exact J_retI hR dX10_done_30
set_option maxHeartbeats 4000000 in
set_option maxRecDepth 100000 in
theorem ok_X10_claim {Y : DX} {v1 : Int32} {v2 : Int32} {v3 : Int32} {v4 : Int32}  {G : GM} {r : Int32} {G' : GM} (hf : f_X10_claim v1 v2 v3 v4 G = some (r, G')) : OkI Y 30 M_X10_claim [.ref (AD Y 186), .int v1, .int v2, .int v3, .int v4] G r G' := by
  refine okI_of (lv0 := [(0, .ref (AD Y 186)), (1, .int v1), (2, .int v2), (3, .int v3), (4, .int v4)]) (by decide +kernel) rfl (Nat.le_of_ble_eq_true rfl) ?_
  intro X Q hX hR
  have hX : CXok X Y RX10 cX10_claim 6 _ := hX
  revert hf
  show J X Y 6 Q 0 [(0, .ref (AD Y 186)), (1, .int v1), (2, .int v2), (3, .int v3), (4, .int v4)] [] G (f_X10_claim v1 v2 v3 v4 G = some (r, G'))
  unfold f_X10_claim
  refine J_aload_n 0 hX dX10_claim_0 fz0 rfl ?_
  refine J_iconst hX dX10_claim_1 ci_0 ?_
  refine J_putI hX dX10_claim_2 lf_X10_95 lpt_9_0 sk_186 rfl fun G2 => ?_
  refine J_aload_n 0 hX dX10_claim_5 fz0 rfl ?_
  refine J_iload_n 1 hX dX10_claim_6 fz1 rfl ?_
  refine J_callVI (As := [.int v1]) (st := []) (b := 186) hX mv_X10_342 sk_186 rfl rfl rfl (Nat.le_of_ble_eq_true rfl) (Nat.le_of_ble_eq_true rfl) (Nat.le_of_ble_eq_true rfl) dX10_claim_7 (fun r G1 h => ok_X10_isSerial  h) fun r7 G7 => ?_
  refine J_if_eq (tgt := 43) hX dX10_claim_10 rfl ?_ ?_
  · refine J_bipush hX dX10_claim_43 cbm_2 ?_
    exact J_retI hR dX10_claim_45
  · refine J_aload_n 0 hX dX10_claim_13 fz0 rfl ?_
    refine J_iload_n 2 hX dX10_claim_14 fz2 rfl ?_
    refine J_callVI (As := [.int v2]) (st := []) (b := 186) hX mv_X10_336 sk_186 rfl rfl rfl (Nat.le_of_ble_eq_true rfl) (Nat.le_of_ble_eq_true rfl) (Nat.le_of_ble_eq_true rfl) dX10_claim_15 (fun r G1 h => ok_X10_isCard  h) fun r15 G15 => ?_
    refine J_if_eq (tgt := 43) hX dX10_claim_18 rfl ?_ ?_
    · refine J_bipush hX dX10_claim_43 cbm_2 ?_
      exact J_retI hR dX10_claim_45
    · refine J_iload_n 3 hX dX10_claim_21 fz3 rfl ?_
      refine J_callSI (As := [.int v3]) (st := []) hX ms_X10_361 rfl rfl (Nat.le_of_ble_eq_true rfl) (Nat.le_of_ble_eq_true rfl) (Nat.le_of_ble_eq_true rfl) dX10_claim_22 (fun r G1 h => ok_X10_isKind  h) fun r22 G22 => ?_
      refine J_if_eq (tgt := 43) hX dX10_claim_25 rfl ?_ ?_
      · refine J_bipush hX dX10_claim_43 cbm_2 ?_
        exact J_retI hR dX10_claim_45
      · refine J_iload 4 hX dX10_claim_28 rfl ?_
        refine J_i2l hX dX10_claim_30 ?_
        refine J_lconst hX dX10_claim_31 fy1 ?_
        refine J_aload_n 0 hX dX10_claim_32 fz0 rfl ?_
        refine J_callVI (As := []) (st := [.long (1 : Int64), .long (v4.toInt64)]) (b := 186) hX mv_X10_332 sk_186 rfl rfl rfl (Nat.le_of_ble_eq_true rfl) (Nat.le_of_ble_eq_true rfl) (Nat.le_of_ble_eq_true rfl) dX10_claim_33 (fun r G1 h => ok_X10_all  h) fun r33 G33 => ?_
        refine J_i2l hX dX10_claim_36 ?_
        refine J_callSI (As := [.long (v4.toInt64), .long (1 : Int64), .long (r33.toInt64)]) (st := []) hX ms_X10_100 rfl rfl (Nat.le_of_ble_eq_true rfl) (Nat.le_of_ble_eq_true rfl) (Nat.le_of_ble_eq_true rfl) dX10_claim_37 (fun r G1 h => ok_X10_in  h) fun r37 G37 => ?_
        refine J_if_ne (tgt := 46) hX dX10_claim_40 rfl ?_ ?_
        · refine J_aload_n 0 hX dX10_claim_46 fz0 rfl ?_
          refine J_iconst hX dX10_claim_47 ci_0 ?_
          refine J_iload_n 1 hX dX10_claim_48 fz1 rfl ?_
          refine J_iconst hX dX10_claim_49 ci_0 ?_
          refine J_callVV (As := [.int (0 : Int32), .int v1, .int (0 : Int32)]) (st := []) (b := 186) hX mv_X10_317 sk_186 rfl rfl rfl (Nat.le_of_ble_eq_true rfl) (Nat.le_of_ble_eq_true rfl) (Nat.le_of_ble_eq_true rfl) dX10_claim_50 (fun G1 h => ok_X10_makes  h) fun G50 => ?_
          refine J_aload_n 0 hX dX10_claim_53 fz0 rfl ?_
          refine J_iconst hX dX10_claim_54 ci_0 ?_
          refine J_iload_n 2 hX dX10_claim_55 fz2 rfl ?_
          refine J_iload_n 3 hX dX10_claim_56 fz3 rfl ?_
          refine J_callVI (As := [.int (0 : Int32), .int v2, .int v3]) (st := []) (b := 186) hX mv_X10_367 sk_186 rfl rfl rfl (Nat.le_of_ble_eq_true rfl) (Nat.le_of_ble_eq_true rfl) (Nat.le_of_ble_eq_true rfl) dX10_claim_57 (fun r G1 h => ok_X10_doneOf  h) fun r57 G57 => ?_
          refine J_istore (lv' := [(5, .int r57), (0, .ref (AD Y 186)), (1, .int v1), (2, .int v2), (3, .int v3), (4, .int v4)]) hX dX10_claim_60 (Nat.le_of_ble_eq_true rfl) rfl ?_
          refine J_iload 0 hX dX10_claim_62 rfl ?_
          refine J_iload 5 hX dX10_claim_64 rfl ?_
          refine J_icmp_ne (tgt := 73) hX dX10_claim_66 rfl ?_ ?_
          · refine J_iload 0 hX dX10_claim_73 rfl ?_
            refine J_iconst hX dX10_claim_75 cim_1 ?_
            refine J_icmp_eq (tgt := 90) hX dX10_claim_76 rfl ?_ ?_
            · refine J_iconst hX dX10_claim_90 ci_1 ?_
              exact J_retI hR dX10_claim_91
            · refine J_iload 0 hX dX10_claim_79 rfl ?_
              refine J_iload 5 hX dX10_claim_81 rfl ?_
              refine J_icmp_ge (tgt := 90) hX dX10_claim_83 rfl ?_ ?_
              · refine J_iconst hX dX10_claim_90 ci_1 ?_
                exact J_retI hR dX10_claim_91
              · refine J_iconst hX dX10_claim_86 ci_2 ?_
                refine J_goto (tgt := 91) hX dX10_claim_87 rfl ?_
                exact J_retI hR dX10_claim_91
          · refine J_iconst hX dX10_claim_69 ci_0 ?_
            refine J_goto (tgt := 91) hX dX10_claim_70 rfl ?_
            exact J_retI hR dX10_claim_91
        · refine J_bipush hX dX10_claim_43 cbm_2 ?_
          exact J_retI hR dX10_claim_45
set_option maxHeartbeats 4000000 in
set_option maxRecDepth 100000 in
theorem ok_X10_races {Y : DX} {v1 : Int32} {v2 : Int32}  {G : GM} {G' : GM} (hf : f_X10_races v1 v2 G = some G') : OkV Y 30 M_X10_races [.ref (AD Y 186), .int v1, .int v2] G G' := by
  refine okV_of (lv0 := [(0, .ref (AD Y 186)), (1, .int v1), (2, .int v2)]) (by decide +kernel) rfl (Nat.le_of_ble_eq_true rfl) ?_
  intro X Q hX hR
  have hX : CXok X Y RX10 cX10_races 6 _ := hX
  revert hf
  show J X Y 6 Q 0 [(0, .ref (AD Y 186)), (1, .int v1), (2, .int v2)] [] G (f_X10_races v1 v2 G = some G')
  have K12 : ∀  (n : Nat) (v3 : Int32) (G : GM), J X Y 6 Q 12 [(0, .ref (AD Y 186)), (1, .int v1), (2, .int v2), (3, .int v3)] [] G (wl1 n (lp_X10_races_12 v1 v2) v3 G = some G') := by
    refine wl1_ind (R := fun v3 G φ => J X Y 6 Q 12 [(0, .ref (AD Y 186)), (1, .int v1), (2, .int v2), (3, .int v3)] [] G φ) (fun _ G φ h => J_no h) ?_
    intro kc12 hk12 v3 G
    unfold lp_X10_races_12
    have K37 : ∀ (v3 : Int32) (n : Nat) (v4 : Int32) (G : GM), J X Y 6 Q 37 [(0, .ref (AD Y 186)), (1, .int v1), (2, .int v2), (3, .int v3), (4, .int v4)] [] G (wl1 n (lp_X10_races_37 v1 v2 v3 kc12) v4 G = some G') := by
      intro v3
      refine wl1_ind (R := fun v4 G φ => J X Y 6 Q 37 [(0, .ref (AD Y 186)), (1, .int v1), (2, .int v2), (3, .int v3), (4, .int v4)] [] G φ) (fun _ G φ h => J_no h) ?_
      intro kc37 hk37 v4 G
      unfold lp_X10_races_37
      have K117 : ∀ (v4 : Int32) (v5 : Int32) (s0 : Int32) (G : GM), J X Y 6 Q 117 [(0, .ref (AD Y 186)), (1, .int v1), (2, .int v2), (3, .int v3), (4, .int v4), (5, .int v5)] [.int s0, .ref (AD Y 186)] G (k_X10_races_117 v1 v2 v3 v4 v5 s0 kc12 kc37 G = some G') := by
        intro v4 v5 s0 G
        unfold k_X10_races_117
        refine J_putI hX dX10_races_117 lf_X10_374 lpt_9_41 sk_186 rfl fun G117 => ?_
        refine J_aload_n 0 hX dX10_races_120 fz0 rfl ?_
        refine J_iload 5 hX dX10_races_121 rfl ?_
        refine J_putI hX dX10_races_123 lf_X10_371 lpt_9_40 sk_186 rfl fun G123 => ?_
        refine J_iinc (lv' := [(4, .int (v4 + (1 : Int32))), (0, .ref (AD Y 186)), (1, .int v1), (2, .int v2), (3, .int v3), (5, .int v5)]) 4 hX dX10_races_126 rfl ci_1 (Nat.le_of_ble_eq_true rfl) rfl ?_
        refine J_goto (tgt := 37) hX dX10_races_129 rfl ?_
        refine J_sub (lv' := [(0, .ref (AD Y 186)), (1, .int v1), (2, .int v2), (3, .int v3), (4, .int (v4 + (1 : Int32)))]) [1, 2, 3, 4, 0] rfl ?_
        exact hk37 (v4 + (1 : Int32)) G123
      have K97 : ∀ (v4 : Int32) (v5 : Int32) (G : GM), J X Y 6 Q 97 [(0, .ref (AD Y 186)), (1, .int v1), (2, .int v2), (3, .int v3), (4, .int v4), (5, .int v5)] [] G (k_X10_races_97 v1 v2 v3 v4 v5 kc12 kc37 G = some G') := by
        intro v4 v5 G
        unfold k_X10_races_97
        refine J_aload_n 0 hX dX10_races_97 fz0 rfl ?_
        refine J_iload 5 hX dX10_races_98 rfl ?_
        refine J_aload_n 0 hX dX10_races_100 fz0 rfl ?_
        refine J_getI hX dX10_races_101 lf_X10_371 sk_186 rfl ?_
        refine J_icmp_ne (tgt := 116) hX dX10_races_104 rfl ?_ ?_
        · refine J_iconst hX dX10_races_116 ci_1 ?_
          exact K117 v4 v5 (1 : Int32) G
        · refine J_aload_n 0 hX dX10_races_107 fz0 rfl ?_
          refine J_getI hX dX10_races_108 lf_X10_374 sk_186 rfl ?_
          refine J_iconst hX dX10_races_111 ci_1 ?_
          refine J_iadd hX dX10_races_112 ?_
          refine J_goto (tgt := 117) hX dX10_races_113 rfl ?_
          exact K117 v4 v5 ((gI G 186 41) + (1 : Int32)) G
      refine J_iload 4 hX dX10_races_37 rfl ?_
      refine J_aload_n 0 hX dX10_races_39 fz0 rfl ?_
      refine J_getR (b := 193) hX dX10_races_40 lf_X10_34 sk_186 rfl (by decide) rfl ?_
      refine J_iconst hX dX10_races_43 ci_0 ?_
      refine J_iald hX dX10_races_44 sk_193 ln_193 ?_
      refine J_icmp_ge (tgt := 132) hX dX10_races_45 rfl ?_ ?_
      · refine J_iinc (lv' := [(3, .int (v3 + (1 : Int32))), (0, .ref (AD Y 186)), (1, .int v1), (2, .int v2), (4, .int v4)]) 3 hX dX10_races_132 rfl ci_1 (Nat.le_of_ble_eq_true rfl) rfl ?_
        refine J_goto (tgt := 12) hX dX10_races_135 rfl ?_
        refine J_sub (lv' := [(0, .ref (AD Y 186)), (1, .int v1), (2, .int v2), (3, .int (v3 + (1 : Int32)))]) [1, 2, 3, 0] rfl ?_
        exact hk12 (v3 + (1 : Int32)) G
      · refine J_aload_n 0 hX dX10_races_48 fz0 rfl ?_
        refine J_iload_n 1 hX dX10_races_49 fz1 rfl ?_
        refine J_iload 4 hX dX10_races_50 rfl ?_
        refine J_iload_n 2 hX dX10_races_52 fz2 rfl ?_
        refine J_callVI (As := [.int v1, .int v4, .int v2]) (st := []) (b := 186) hX mv_X10_367 sk_186 rfl rfl rfl (Nat.le_of_ble_eq_true rfl) (Nat.le_of_ble_eq_true rfl) (Nat.le_of_ble_eq_true rfl) dX10_races_53 (fun r G1 h => ok_X10_doneOf  h) fun r53 G53 => ?_
        refine J_istore (lv' := [(5, .int r53), (0, .ref (AD Y 186)), (1, .int v1), (2, .int v2), (3, .int v3), (4, .int v4)]) hX dX10_races_56 (Nat.le_of_ble_eq_true rfl) rfl ?_
        refine J_aload_n 1 hX dX10_races_58 fz0 rfl ?_
        refine J_getR (b := 209) hX dX10_races_59 lf_X10_83 sk_186 rfl (by decide) rfl ?_
        refine J_iconst hX dX10_races_62 ci_3 ?_
        refine J_iload_n 4 hX dX10_races_63 fz3 rfl ?_
        refine J_imul hX dX10_races_64 ?_
        refine J_iload 5 hX dX10_races_65 rfl ?_
        refine J_iadd hX dX10_races_67 ?_
        refine J_iload 0 hX dX10_races_68 rfl ?_
        refine J_iast hX dX10_races_70 sk_209 ln_209 fun G70 => ?_
        refine J_iload 0 hX dX10_races_71 rfl ?_
        refine J_iconst hX dX10_races_73 cim_1 ?_
        refine J_icmp_eq (tgt := 126) hX dX10_races_74 rfl ?_ ?_
        · refine J_iinc (lv' := [(4, .int (v4 + (1 : Int32))), (5, .int r53), (0, .ref (AD Y 186)), (1, .int v1), (2, .int v2), (3, .int v3)]) 5 hX dX10_races_126 rfl ci_1 (Nat.le_of_ble_eq_true rfl) rfl ?_
          refine J_goto (tgt := 37) hX dX10_races_129 rfl ?_
          refine J_sub (lv' := [(0, .ref (AD Y 186)), (1, .int v1), (2, .int v2), (3, .int v3), (4, .int (v4 + (1 : Int32)))]) [2, 3, 4, 5, 0] rfl ?_
          exact hk37 (v4 + (1 : Int32)) G70
        · refine J_aload_n 1 hX dX10_races_77 fz0 rfl ?_
          refine J_getI hX dX10_races_78 lf_X10_371 sk_186 rfl ?_
          refine J_iconst hX dX10_races_81 cim_1 ?_
          refine J_icmp_eq (tgt := 97) hX dX10_races_82 rfl ?_ ?_
          · refine J_sub (lv' := [(0, .ref (AD Y 186)), (1, .int v1), (2, .int v2), (3, .int v3), (4, .int v4), (5, .int r53)]) [1, 2, 3, 4, 5, 0] rfl ?_
            exact K97 v4 r53 G70
          · refine J_iload 0 hX dX10_races_85 rfl ?_
            refine J_aload_n 1 hX dX10_races_87 fz0 rfl ?_
            refine J_getI hX dX10_races_88 lf_X10_371 sk_186 rfl ?_
            refine J_icmp_le (tgt := 97) hX dX10_races_91 rfl ?_ ?_
            · refine J_sub (lv' := [(0, .ref (AD Y 186)), (1, .int v1), (2, .int v2), (3, .int v3), (4, .int v4), (5, .int r53)]) [1, 2, 3, 4, 5, 0] rfl ?_
              exact K97 v4 r53 G70
            · refine J_goto (tgt := 126) hX dX10_races_94 rfl ?_
              refine J_iinc (lv' := [(4, .int (v4 + (1 : Int32))), (5, .int r53), (0, .ref (AD Y 186)), (1, .int v1), (2, .int v2), (3, .int v3)]) 5 hX dX10_races_126 rfl ci_1 (Nat.le_of_ble_eq_true rfl) rfl ?_
              refine J_goto (tgt := 37) hX dX10_races_129 rfl ?_
              refine J_sub (lv' := [(0, .ref (AD Y 186)), (1, .int v1), (2, .int v2), (3, .int v3), (4, .int (v4 + (1 : Int32)))]) [2, 3, 4, 5, 0] rfl ?_
              exact hk37 (v4 + (1 : Int32)) G70
    refine J_iload_n 3 hX dX10_races_12 fz3 rfl ?_
    refine J_aload_n 0 hX dX10_races_13 fz0 rfl ?_
    refine J_getR (b := 193) hX dX10_races_14 lf_X10_34 sk_186 rfl (by decide) rfl ?_
    refine J_iconst hX dX10_races_17 ci_4 ?_
    refine J_iald hX dX10_races_18 sk_193 ln_193 ?_
    refine J_icmp_ge (tgt := 138) hX dX10_races_19 rfl ?_ ?_
    · exact J_retV hR dX10_races_138
    · refine J_aload_n 0 hX dX10_races_22 fz0 rfl ?_
      refine J_iconst hX dX10_races_23 ci_0 ?_
      refine J_aload_n 0 hX dX10_races_24 fz0 rfl ?_
      refine J_getR (b := 196) hX dX10_races_25 lf_X10_43 sk_186 rfl (by decide) rfl ?_
      refine J_iload_n 3 hX dX10_races_28 fz3 rfl ?_
      refine J_iald hX dX10_races_29 sk_196 ln_196 ?_
      refine J_iconst hX dX10_races_30 ci_0 ?_
      refine J_callVV (As := [.int (0 : Int32), .int (gI G 196 v3.toNatClampNeg), .int (0 : Int32)]) (st := []) (b := 186) hX mv_X10_317 sk_186 rfl rfl rfl (Nat.le_of_ble_eq_true rfl) (Nat.le_of_ble_eq_true rfl) (Nat.le_of_ble_eq_true rfl) dX10_races_31 (fun G1 h => ok_X10_makes  h) fun G31 => ?_
      refine J_iconst hX dX10_races_34 ci_0 ?_
      refine J_istore (lv' := [(4, .int (0 : Int32)), (0, .ref (AD Y 186)), (1, .int v1), (2, .int v2), (3, .int v3)]) hX dX10_races_35 (Nat.le_of_ble_eq_true rfl) rfl ?_
      refine J_sub (lv' := [(0, .ref (AD Y 186)), (1, .int v1), (2, .int v2), (3, .int v3), (4, .int (0 : Int32))]) [1, 2, 3, 4, 0] rfl ?_
      exact K37 v3 FU (0 : Int32) G31
  unfold f_X10_races
  refine J_aload_n 0 hX dX10_races_0 fz0 rfl ?_
  refine J_iconst hX dX10_races_1 cim_1 ?_
  refine J_putI hX dX10_races_2 lf_X10_371 lpt_9_40 sk_186 rfl fun G2 => ?_
  refine J_aload_n 0 hX dX10_races_5 fz0 rfl ?_
  refine J_iconst hX dX10_races_6 ci_0 ?_
  refine J_putI hX dX10_races_7 lf_X10_374 lpt_9_41 sk_186 rfl fun G7 => ?_
  refine J_iconst hX dX10_races_10 ci_0 ?_
  refine J_istore_n (lv' := [(3, .int (0 : Int32)), (0, .ref (AD Y 186)), (1, .int v1), (2, .int v2)]) hX dX10_races_11 fz3 (Nat.le_of_ble_eq_true rfl) rfl ?_
  refine J_sub (lv' := [(0, .ref (AD Y 186)), (1, .int v1), (2, .int v2), (3, .int (0 : Int32))]) [1, 2, 3, 0] rfl ?_
  exact K12  FU (0 : Int32) G7
set_option maxHeartbeats 4000000 in
set_option maxRecDepth 100000 in
theorem ok_X10_isWinner {Y : DX} {v1 : Int32} {v2 : Int32}  {G : GM} {r : Int32} {G' : GM} (hf : f_X10_isWinner v1 v2 G = some (r, G')) : OkI Y 1 M_X10_isWinner [.ref (AD Y 186), .int v1, .int v2] G r G' := by
  refine okZ_of (lv0 := [(0, .ref (AD Y 186)), (1, .int v1), (2, .int v2)]) (by decide +kernel) rfl (Nat.le_of_ble_eq_true rfl) ?_
  intro X Q hX hR
  have hX : CXok X Y RX10 cX10_isWinner 3 _ := hX
  revert hf
  show J X Y 3 Q 0 [(0, .ref (AD Y 186)), (1, .int v1), (2, .int v2)] [] G (f_X10_isWinner v1 v2 G = some (r, G'))
  unfold f_X10_isWinner
  refine J_aload_n 0 hX dX10_isWinner_0 fz0 rfl ?_
  refine J_getI hX dX10_isWinner_1 lf_X10_371 sk_186 rfl ?_
  refine J_iconst hX dX10_isWinner_4 cim_1 ?_
  refine J_icmp_eq (tgt := 29) hX dX10_isWinner_5 rfl ?_ ?_
  · refine J_iconst hX dX10_isWinner_29 ci_0 ?_
    exact J_retZ hR (by decide) dX10_isWinner_30
  · refine J_aload_n 0 hX dX10_isWinner_8 fz0 rfl ?_
    refine J_getR (b := 209) hX dX10_isWinner_9 lf_X10_83 sk_186 rfl (by decide) rfl ?_
    refine J_iconst hX dX10_isWinner_12 ci_3 ?_
    refine J_iload_n 1 hX dX10_isWinner_13 fz1 rfl ?_
    refine J_imul hX dX10_isWinner_14 ?_
    refine J_iload_n 2 hX dX10_isWinner_15 fz2 rfl ?_
    refine J_iadd hX dX10_isWinner_16 ?_
    refine J_iald hX dX10_isWinner_17 sk_209 ln_209 ?_
    refine J_aload_n 0 hX dX10_isWinner_18 fz0 rfl ?_
    refine J_getI hX dX10_isWinner_19 lf_X10_371 sk_186 rfl ?_
    refine J_icmp_ne (tgt := 29) hX dX10_isWinner_22 rfl ?_ ?_
    · refine J_iconst hX dX10_isWinner_29 ci_0 ?_
      exact J_retZ hR (by decide) dX10_isWinner_30
    · refine J_iconst hX dX10_isWinner_25 ci_1 ?_
      refine J_goto (tgt := 30) hX dX10_isWinner_26 rfl ?_
      exact J_retZ hR (by decide) dX10_isWinner_30
set_option maxHeartbeats 4000000 in
set_option maxRecDepth 100000 in
theorem ok_X10_first_ {Y : DX} {v1 : Int32}  {G : GM} {r : Int32} {G' : GM} (hf : f_X10_first_ v1 G = some (r, G')) : OkI Y 31 M_X10_first_ [.ref (AD Y 186), .int v1] G r G' := by
  refine okI_of (lv0 := [(0, .ref (AD Y 186)), (1, .int v1)]) (by decide +kernel) rfl (Nat.le_of_ble_eq_true rfl) ?_
  intro X Q hX hR
  have hX : CXok X Y RX10 cX10_first_ 2 _ := hX
  revert hf
  show J X Y 2 Q 0 [(0, .ref (AD Y 186)), (1, .int v1)] [] G (f_X10_first_ v1 G = some (r, G'))
  unfold f_X10_first_
  refine J_aload_n 0 hX dX10_first__0 fz0 rfl ?_
  refine J_iconst hX dX10_first__1 ci_0 ?_
  refine J_putI hX dX10_first__2 lf_X10_95 lpt_9_0 sk_186 rfl fun G2 => ?_
  refine J_aload_n 0 hX dX10_first__5 fz0 rfl ?_
  refine J_callVI (As := []) (st := []) (b := 186) hX mv_X10_324 sk_186 rfl rfl rfl (Nat.le_of_ble_eq_true rfl) (Nat.le_of_ble_eq_true rfl) (Nat.le_of_ble_eq_true rfl) dX10_first__6 (fun r G1 h => ok_X10_isHall  h) fun r6 G6 => ?_
  refine J_if_eq (tgt := 19) hX dX10_first__9 rfl ?_ ?_
  · refine J_bipush hX dX10_first__19 cbm_2 ?_
    exact J_retI hR dX10_first__21
  · refine J_iload_n 1 hX dX10_first__12 fz1 rfl ?_
    refine J_callSI (As := [.int v1]) (st := []) hX ms_X10_361 rfl rfl (Nat.le_of_ble_eq_true rfl) (Nat.le_of_ble_eq_true rfl) (Nat.le_of_ble_eq_true rfl) dX10_first__13 (fun r G1 h => ok_X10_isKind  h) fun r13 G13 => ?_
    refine J_if_ne (tgt := 22) hX dX10_first__16 rfl ?_ ?_
    · refine J_aload_n 0 hX dX10_first__22 fz0 rfl ?_
      refine J_iconst hX dX10_first__23 ci_0 ?_
      refine J_iload_n 1 hX dX10_first__24 fz1 rfl ?_
      refine J_callVV (As := [.int (0 : Int32), .int v1]) (st := []) (b := 186) hX mv_X10_377 sk_186 rfl rfl rfl (Nat.le_of_ble_eq_true rfl) (Nat.le_of_ble_eq_true rfl) (Nat.le_of_ble_eq_true rfl) dX10_first__25 (fun G1 h => ok_X10_races  h) fun G25 => ?_
      refine J_aload_n 0 hX dX10_first__28 fz0 rfl ?_
      refine J_getI hX dX10_first__29 lf_X10_371 sk_186 rfl ?_
      exact J_retI hR dX10_first__32
    · refine J_bipush hX dX10_first__19 cbm_2 ?_
      exact J_retI hR dX10_first__21
set_option maxHeartbeats 4000000 in
set_option maxRecDepth 100000 in
theorem ok_X10_winner {Y : DX} {v1 : Int32} {v2 : Int32}  {G : GM} {r : Int32} {G' : GM} (hf : f_X10_winner v1 v2 G = some (r, G')) : OkI Y 31 M_X10_winner [.ref (AD Y 186), .int v1, .int v2] G r G' := by
  refine okI_of (lv0 := [(0, .ref (AD Y 186)), (1, .int v1), (2, .int v2)]) (by decide +kernel) rfl (Nat.le_of_ble_eq_true rfl) ?_
  intro X Q hX hR
  have hX : CXok X Y RX10 cX10_winner 6 _ := hX
  revert hf
  show J X Y 6 Q 0 [(0, .ref (AD Y 186)), (1, .int v1), (2, .int v2)] [] G (f_X10_winner v1 v2 G = some (r, G'))
  have K48 : ∀  (n : Nat) (v3 : Int32) (v4 : Int32) (G : GM), J X Y 6 Q 48 [(0, .ref (AD Y 186)), (3, .int v3), (4, .int v4)] [] G (wl2 n (lp_X10_winner_48 v1 v2) v3 v4 G = some (r, G')) := by
    refine wl2_ind (R := fun v3 v4 G φ => J X Y 6 Q 48 [(0, .ref (AD Y 186)), (3, .int v3), (4, .int v4)] [] G φ) (fun _ _ G φ h => J_no h) ?_
    intro kc48 hk48 v3 v4 G
    unfold lp_X10_winner_48
    have K62 : ∀ (v4 : Int32) (n : Nat) (v3 : Int32) (v5 : Int32) (G : GM), J X Y 6 Q 62 [(0, .ref (AD Y 186)), (3, .int v3), (4, .int v4), (5, .int v5)] [] G (wl2 n (lp_X10_winner_62 v1 v2 v4 kc48) v3 v5 G = some (r, G')) := by
      intro v4
      refine wl2_ind (R := fun v3 v5 G φ => J X Y 6 Q 62 [(0, .ref (AD Y 186)), (3, .int v3), (4, .int v4), (5, .int v5)] [] G φ) (fun _ _ G φ h => J_no h) ?_
      intro kc62 hk62 v3 v5 G
      unfold lp_X10_winner_62
      refine J_iload 3 hX dX10_winner_62 rfl ?_
      refine J_aload_n 0 hX dX10_winner_64 fz0 rfl ?_
      refine J_getR (b := 193) hX dX10_winner_65 lf_X10_34 sk_186 rfl (by decide) rfl ?_
      refine J_iconst hX dX10_winner_68 ci_0 ?_
      refine J_iald hX dX10_winner_69 sk_193 ln_193 ?_
      refine J_icmp_ge (tgt := 109) hX dX10_winner_70 rfl ?_ ?_
      · refine J_iinc (lv' := [(4, .int (v4 + (1 : Int32))), (0, .ref (AD Y 186)), (3, .int v3), (5, .int v5)]) 2 hX dX10_winner_109 rfl ci_1 (Nat.le_of_ble_eq_true rfl) rfl ?_
        refine J_goto (tgt := 48) hX dX10_winner_112 rfl ?_
        refine J_sub (lv' := [(0, .ref (AD Y 186)), (3, .int v3), (4, .int (v4 + (1 : Int32)))]) [1, 2, 0] rfl ?_
        exact hk48 v3 (v4 + (1 : Int32)) G
      · refine J_aload_n 0 hX dX10_winner_73 fz0 rfl ?_
        refine J_iload 2 hX dX10_winner_74 rfl ?_
        refine J_iload 3 hX dX10_winner_76 rfl ?_
        refine J_callVI (As := [.int v4, .int v5]) (st := []) (b := 186) hX mv_X10_380 sk_186 rfl rfl rfl (Nat.le_of_ble_eq_true rfl) (Nat.le_of_ble_eq_true rfl) (Nat.le_of_ble_eq_true rfl) dX10_winner_78 (fun r G1 h => ok_X10_isWinner  h) fun r78 G78 => ?_
        refine J_if_ne (tgt := 87) hX dX10_winner_81 rfl ?_ ?_
        · refine J_iload_n 1 hX dX10_winner_87 fz3 rfl ?_
          refine J_if_ne (tgt := 100) hX dX10_winner_88 rfl ?_ ?_
          · refine J_iinc (lv' := [(3, .int (v3 + (-1 : Int32))), (0, .ref (AD Y 186)), (4, .int v4), (5, .int v5)]) 1 hX dX10_winner_100 rfl cim_1 (Nat.le_of_ble_eq_true rfl) rfl ?_
            refine J_iinc (lv' := [(5, .int (v5 + (1 : Int32))), (3, .int (v3 + (-1 : Int32))), (0, .ref (AD Y 186)), (4, .int v4)]) 3 hX dX10_winner_103 rfl ci_1 (Nat.le_of_ble_eq_true rfl) rfl ?_
            refine J_goto (tgt := 62) hX dX10_winner_106 rfl ?_
            refine J_sub (lv' := [(0, .ref (AD Y 186)), (3, .int (v3 + (-1 : Int32))), (4, .int v4), (5, .int (v5 + (1 : Int32)))]) [2, 1, 3, 0] rfl ?_
            exact hk62 (v3 + (-1 : Int32)) (v5 + (1 : Int32)) G78
          · refine J_bipush hX dX10_winner_91 cb_10 ?_
            refine J_iload 2 hX dX10_winner_93 rfl ?_
            refine J_imul hX dX10_winner_95 ?_
            refine J_iload 3 hX dX10_winner_96 rfl ?_
            refine J_iadd hX dX10_winner_98 ?_
            exact J_retI hR dX10_winner_99
        · refine J_goto (tgt := 103) hX dX10_winner_84 rfl ?_
          refine J_iinc (lv' := [(5, .int (v5 + (1 : Int32))), (0, .ref (AD Y 186)), (3, .int v3), (4, .int v4)]) 3 hX dX10_winner_103 rfl ci_1 (Nat.le_of_ble_eq_true rfl) rfl ?_
          refine J_goto (tgt := 62) hX dX10_winner_106 rfl ?_
          refine J_sub (lv' := [(0, .ref (AD Y 186)), (3, .int v3), (4, .int v4), (5, .int (v5 + (1 : Int32)))]) [1, 2, 3, 0] rfl ?_
          exact hk62 v3 (v5 + (1 : Int32)) G78
    refine J_iload 2 hX dX10_winner_48 rfl ?_
    refine J_aload_n 0 hX dX10_winner_50 fz0 rfl ?_
    refine J_getR (b := 193) hX dX10_winner_51 lf_X10_34 sk_186 rfl (by decide) rfl ?_
    refine J_iconst hX dX10_winner_54 ci_4 ?_
    refine J_iald hX dX10_winner_55 sk_193 ln_193 ?_
    refine J_icmp_ge (tgt := 115) hX dX10_winner_56 rfl ?_ ?_
    · refine J_iconst hX dX10_winner_115 cim_1 ?_
      exact J_retI hR dX10_winner_116
    · refine J_iconst hX dX10_winner_59 ci_0 ?_
      refine J_istore (lv' := [(5, .int (0 : Int32)), (0, .ref (AD Y 186)), (3, .int v3), (4, .int v4)]) hX dX10_winner_60 (Nat.le_of_ble_eq_true rfl) rfl ?_
      refine J_sub (lv' := [(0, .ref (AD Y 186)), (3, .int v3), (4, .int v4), (5, .int (0 : Int32))]) [1, 2, 3, 0] rfl ?_
      exact K62 v4 FU v3 (0 : Int32) G
  unfold f_X10_winner
  refine J_aload_n 0 hX dX10_winner_0 fz0 rfl ?_
  refine J_iconst hX dX10_winner_1 ci_0 ?_
  refine J_putI hX dX10_winner_2 lf_X10_95 lpt_9_0 sk_186 rfl fun G2 => ?_
  refine J_aload_n 0 hX dX10_winner_5 fz0 rfl ?_
  refine J_callVI (As := []) (st := []) (b := 186) hX mv_X10_324 sk_186 rfl rfl rfl (Nat.le_of_ble_eq_true rfl) (Nat.le_of_ble_eq_true rfl) (Nat.le_of_ble_eq_true rfl) dX10_winner_6 (fun r G1 h => ok_X10_isHall  h) fun r6 G6 => ?_
  refine J_if_eq (tgt := 24) hX dX10_winner_9 rfl ?_ ?_
  · refine J_bipush hX dX10_winner_24 cbm_2 ?_
    exact J_retI hR dX10_winner_26
  · refine J_iload_n 1 hX dX10_winner_12 fz1 rfl ?_
    refine J_callSI (As := [.int v1]) (st := []) hX ms_X10_361 rfl rfl (Nat.le_of_ble_eq_true rfl) (Nat.le_of_ble_eq_true rfl) (Nat.le_of_ble_eq_true rfl) dX10_winner_13 (fun r G1 h => ok_X10_isKind  h) fun r13 G13 => ?_
    refine J_if_eq (tgt := 24) hX dX10_winner_16 rfl ?_ ?_
    · refine J_bipush hX dX10_winner_24 cbm_2 ?_
      exact J_retI hR dX10_winner_26
    · refine J_iload_n 2 hX dX10_winner_19 fz2 rfl ?_
      refine J_iconst hX dX10_winner_20 cim_1 ?_
      refine J_icmp_ge (tgt := 27) hX dX10_winner_21 rfl ?_ ?_
      · refine J_aload_n 0 hX dX10_winner_27 fz0 rfl ?_
        refine J_iconst hX dX10_winner_28 ci_0 ?_
        refine J_iload_n 1 hX dX10_winner_29 fz1 rfl ?_
        refine J_callVV (As := [.int (0 : Int32), .int v1]) (st := []) (b := 186) hX mv_X10_377 sk_186 rfl rfl rfl (Nat.le_of_ble_eq_true rfl) (Nat.le_of_ble_eq_true rfl) (Nat.le_of_ble_eq_true rfl) dX10_winner_30 (fun G1 h => ok_X10_races  h) fun G30 => ?_
        refine J_iload_n 2 hX dX10_winner_33 fz2 rfl ?_
        refine J_iconst hX dX10_winner_34 cim_1 ?_
        refine J_icmp_ne (tgt := 43) hX dX10_winner_35 rfl ?_ ?_
        · refine J_iload_n 2 hX dX10_winner_43 fz2 rfl ?_
          refine J_istore_n (lv' := [(3, .int v2), (0, .ref (AD Y 186)), (1, .int v1), (2, .int v2)]) hX dX10_winner_44 fz3 (Nat.le_of_ble_eq_true rfl) rfl ?_
          refine J_iconst hX dX10_winner_45 ci_0 ?_
          refine J_istore (lv' := [(4, .int (0 : Int32)), (3, .int v2), (0, .ref (AD Y 186)), (1, .int v1), (2, .int v2)]) hX dX10_winner_46 (Nat.le_of_ble_eq_true rfl) rfl ?_
          refine J_sub (lv' := [(0, .ref (AD Y 186)), (3, .int v2), (4, .int (0 : Int32))]) [2, 1, 0] rfl ?_
          exact K48  FU v2 (0 : Int32) G30
        · refine J_aload_n 0 hX dX10_winner_38 fz0 rfl ?_
          refine J_getI hX dX10_winner_39 lf_X10_374 sk_186 rfl ?_
          exact J_retI hR dX10_winner_42
      · refine J_bipush hX dX10_winner_24 cbm_2 ?_
        exact J_retI hR dX10_winner_26
set_option maxHeartbeats 4000000 in
set_option maxRecDepth 100000 in
theorem ok_X10_eachOf {Y : DX} {v1 : Int32}  {G : GM} {r : Int32} {G' : GM} (hf : f_X10_eachOf v1 G = some (r, G')) : OkI Y 1 M_X10_eachOf [.ref (AD Y 186), .int v1] G r G' := by
  refine okI_of (lv0 := [(0, .ref (AD Y 186)), (1, .int v1)]) (by decide +kernel) rfl (Nat.le_of_ble_eq_true rfl) ?_
  intro X Q hX hR
  have hX : CXok X Y RX10 cX10_eachOf 2 _ := hX
  revert hf
  show J X Y 2 Q 0 [(0, .ref (AD Y 186)), (1, .int v1)] [] G (f_X10_eachOf v1 G = some (r, G'))
  unfold f_X10_eachOf
  refine J_aload_n 0 hX dX10_eachOf_0 fz0 rfl ?_
  refine J_getI hX dX10_eachOf_1 lf_X10_374 sk_186 rfl ?_
  refine J_if_ne (tgt := 11) hX dX10_eachOf_4 rfl ?_ ?_
  · refine J_iload_n 1 hX dX10_eachOf_11 fz1 rfl ?_
    refine J_aload_n 0 hX dX10_eachOf_12 fz0 rfl ?_
    refine J_getI hX dX10_eachOf_13 lf_X10_374 sk_186 rfl ?_
    refine J_idiv hX dX10_eachOf_16 ?_
    exact J_retI hR dX10_eachOf_17
  · refine J_iconst hX dX10_eachOf_7 ci_0 ?_
    refine J_goto (tgt := 17) hX dX10_eachOf_8 rfl ?_
    exact J_retI hR dX10_eachOf_17
set_option maxHeartbeats 4000000 in
set_option maxRecDepth 100000 in
theorem ok_X10_prize {Y : DX} {v1 : Int32} {v2 : Int32}  {G : GM} {r : Int32} {G' : GM} (hf : f_X10_prize v1 v2 G = some (r, G')) : OkI Y 31 M_X10_prize [.ref (AD Y 186), .int v1, .int v2] G r G' := by
  refine okI_of (lv0 := [(0, .ref (AD Y 186)), (1, .int v1), (2, .int v2)]) (by decide +kernel) rfl (Nat.le_of_ble_eq_true rfl) ?_
  intro X Q hX hR
  have hX : CXok X Y RX10 cX10_prize 4 _ := hX
  revert hf
  show J X Y 4 Q 0 [(0, .ref (AD Y 186)), (1, .int v1), (2, .int v2)] [] G (f_X10_prize v1 v2 G = some (r, G'))
  unfold f_X10_prize
  refine J_aload_n 0 hX dX10_prize_0 fz0 rfl ?_
  refine J_iconst hX dX10_prize_1 ci_0 ?_
  refine J_putI hX dX10_prize_2 lf_X10_95 lpt_9_0 sk_186 rfl fun G2 => ?_
  refine J_aload_n 0 hX dX10_prize_5 fz0 rfl ?_
  refine J_callVI (As := []) (st := []) (b := 186) hX mv_X10_324 sk_186 rfl rfl rfl (Nat.le_of_ble_eq_true rfl) (Nat.le_of_ble_eq_true rfl) (Nat.le_of_ble_eq_true rfl) dX10_prize_6 (fun r G1 h => ok_X10_isHall  h) fun r6 G6 => ?_
  refine J_if_eq (tgt := 29) hX dX10_prize_9 rfl ?_ ?_
  · refine J_bipush hX dX10_prize_29 cbm_2 ?_
    exact J_retI hR dX10_prize_31
  · refine J_iload_n 1 hX dX10_prize_12 fz1 rfl ?_
    refine J_callSI (As := [.int v1]) (st := []) hX ms_X10_361 rfl rfl (Nat.le_of_ble_eq_true rfl) (Nat.le_of_ble_eq_true rfl) (Nat.le_of_ble_eq_true rfl) dX10_prize_13 (fun r G1 h => ok_X10_isKind  h) fun r13 G13 => ?_
    refine J_if_eq (tgt := 29) hX dX10_prize_16 rfl ?_ ?_
    · refine J_bipush hX dX10_prize_29 cbm_2 ?_
      exact J_retI hR dX10_prize_31
    · refine J_iload_n 2 hX dX10_prize_19 fz2 rfl ?_
      refine J_i2l hX dX10_prize_20 ?_
      refine J_lconst hX dX10_prize_21 fy0 ?_
      refine J_lconst hX dX10_prize_22 fy1 ?_
      refine J_callSI (As := [.long (v2.toInt64), .long (0 : Int64), .long (1 : Int64)]) (st := []) hX ms_X10_100 rfl rfl (Nat.le_of_ble_eq_true rfl) (Nat.le_of_ble_eq_true rfl) (Nat.le_of_ble_eq_true rfl) dX10_prize_23 (fun r G1 h => ok_X10_in  h) fun r23 G23 => ?_
      refine J_if_ne (tgt := 32) hX dX10_prize_26 rfl ?_ ?_
      · refine J_aload_n 0 hX dX10_prize_32 fz0 rfl ?_
        refine J_iconst hX dX10_prize_33 ci_0 ?_
        refine J_iload_n 1 hX dX10_prize_34 fz1 rfl ?_
        refine J_callVV (As := [.int (0 : Int32), .int v1]) (st := []) (b := 186) hX mv_X10_377 sk_186 rfl rfl rfl (Nat.le_of_ble_eq_true rfl) (Nat.le_of_ble_eq_true rfl) (Nat.le_of_ble_eq_true rfl) dX10_prize_35 (fun G1 h => ok_X10_races  h) fun G35 => ?_
        refine J_aload_n 0 hX dX10_prize_38 fz0 rfl ?_
        refine J_aload_n 0 hX dX10_prize_39 fz0 rfl ?_
        refine J_getR (b := 195) hX dX10_prize_40 lf_X10_40 sk_186 rfl (by decide) rfl ?_
        refine J_iload_n 1 hX dX10_prize_43 fz1 rfl ?_
        refine J_iald hX dX10_prize_44 sk_195 ln_195 ?_
        refine J_callVI (As := [.int (gI G35 195 v1.toNatClampNeg)]) (st := []) (b := 186) hX mv_X10_383 sk_186 rfl rfl rfl (Nat.le_of_ble_eq_true rfl) (Nat.le_of_ble_eq_true rfl) (Nat.le_of_ble_eq_true rfl) dX10_prize_45 (fun r G1 h => ok_X10_eachOf  h) fun r45 G45 => ?_
        refine J_istore_n (lv' := [(3, .int r45), (0, .ref (AD Y 186)), (1, .int v1), (2, .int v2)]) hX dX10_prize_48 fz3 (Nat.le_of_ble_eq_true rfl) rfl ?_
        refine J_iload_n 3 hX dX10_prize_49 fz2 rfl ?_
        refine J_if_ne (tgt := 57) hX dX10_prize_50 rfl ?_ ?_
        · refine J_aload_n 1 hX dX10_prize_57 fz0 rfl ?_
          refine J_getR (b := 195) hX dX10_prize_58 lf_X10_40 sk_186 rfl (by decide) rfl ?_
          refine J_iload_n 2 hX dX10_prize_61 fz1 rfl ?_
          refine J_iald hX dX10_prize_62 sk_195 ln_195 ?_
          refine J_iload_n 0 hX dX10_prize_63 fz3 rfl ?_
          refine J_aload_n 1 hX dX10_prize_64 fz0 rfl ?_
          refine J_getI hX dX10_prize_65 lf_X10_374 sk_186 rfl ?_
          refine J_imul hX dX10_prize_68 ?_
          refine J_isub hX dX10_prize_69 ?_
          exact J_retI hR dX10_prize_70
        · refine J_iload_n 0 hX dX10_prize_53 fz3 rfl ?_
          refine J_goto (tgt := 70) hX dX10_prize_54 rfl ?_
          exact J_retI hR dX10_prize_70
      · refine J_bipush hX dX10_prize_29 cbm_2 ?_
        exact J_retI hR dX10_prize_31
set_option maxHeartbeats 4000000 in
set_option maxRecDepth 100000 in
theorem ok_X10_jackpotEach {Y : DX}   {G : GM} {r : Int32} {G' : GM} (hf : f_X10_jackpotEach  G = some (r, G')) : OkI Y 2 M_X10_jackpotEach [.ref (AD Y 186)] G r G' := by
  refine okI_of (lv0 := [(0, .ref (AD Y 186))]) (by decide +kernel) rfl (Nat.le_of_ble_eq_true rfl) ?_
  intro X Q hX hR
  have hX : CXok X Y RX10 cX10_jackpotEach 1 _ := hX
  revert hf
  show J X Y 1 Q 0 [(0, .ref (AD Y 186))] [] G (f_X10_jackpotEach  G = some (r, G'))
  unfold f_X10_jackpotEach
  refine J_aload_n 0 hX dX10_jackpotEach_0 fz0 rfl ?_
  refine J_getR (b := 193) hX dX10_jackpotEach_1 lf_X10_34 sk_186 rfl (by decide) rfl ?_
  refine J_bipush hX dX10_jackpotEach_4 cb_6 ?_
  refine J_iald hX dX10_jackpotEach_6 sk_193 ln_193 ?_
  refine J_if_le (tgt := 45) hX dX10_jackpotEach_7 rfl ?_ ?_
  · refine J_iconst hX dX10_jackpotEach_45 ci_0 ?_
    exact J_retI hR dX10_jackpotEach_46
  · refine J_aload_n 0 hX dX10_jackpotEach_10 fz0 rfl ?_
    refine J_getI hX dX10_jackpotEach_11 lf_X10_371 sk_186 rfl ?_
    refine J_iconst hX dX10_jackpotEach_14 cim_1 ?_
    refine J_icmp_eq (tgt := 45) hX dX10_jackpotEach_15 rfl ?_ ?_
    · refine J_iconst hX dX10_jackpotEach_45 ci_0 ?_
      exact J_retI hR dX10_jackpotEach_46
    · refine J_aload_n 0 hX dX10_jackpotEach_18 fz0 rfl ?_
      refine J_getI hX dX10_jackpotEach_19 lf_X10_371 sk_186 rfl ?_
      refine J_aload_n 0 hX dX10_jackpotEach_22 fz0 rfl ?_
      refine J_getR (b := 193) hX dX10_jackpotEach_23 lf_X10_34 sk_186 rfl (by decide) rfl ?_
      refine J_bipush hX dX10_jackpotEach_26 cb_6 ?_
      refine J_iald hX dX10_jackpotEach_28 sk_193 ln_193 ?_
      refine J_icmp_gt (tgt := 45) hX dX10_jackpotEach_29 rfl ?_ ?_
      · refine J_iconst hX dX10_jackpotEach_45 ci_0 ?_
        exact J_retI hR dX10_jackpotEach_46
      · refine J_aload_n 0 hX dX10_jackpotEach_32 fz0 rfl ?_
        refine J_aload_n 0 hX dX10_jackpotEach_33 fz0 rfl ?_
        refine J_getR (b := 193) hX dX10_jackpotEach_34 lf_X10_34 sk_186 rfl (by decide) rfl ?_
        refine J_iconst hX dX10_jackpotEach_37 ci_5 ?_
        refine J_iald hX dX10_jackpotEach_38 sk_193 ln_193 ?_
        refine J_callVI (As := [.int (gI G 193 (5 : Int32).toNatClampNeg)]) (st := []) (b := 186) hX mv_X10_383 sk_186 rfl rfl rfl (Nat.le_of_ble_eq_true rfl) (Nat.le_of_ble_eq_true rfl) (Nat.le_of_ble_eq_true rfl) dX10_jackpotEach_39 (fun r G1 h => ok_X10_eachOf  h) fun r39 G39 => ?_
        refine J_goto (tgt := 46) hX dX10_jackpotEach_42 rfl ?_
        exact J_retI hR dX10_jackpotEach_46
set_option maxHeartbeats 4000000 in
set_option maxRecDepth 100000 in
theorem ok_X10_jackpot {Y : DX} {v1 : Int32}  {G : GM} {r : Int32} {G' : GM} (hf : f_X10_jackpot v1 G = some (r, G')) : OkI Y 31 M_X10_jackpot [.ref (AD Y 186), .int v1] G r G' := by
  refine okI_of (lv0 := [(0, .ref (AD Y 186)), (1, .int v1)]) (by decide +kernel) rfl (Nat.le_of_ble_eq_true rfl) ?_
  intro X Q hX hR
  have hX : CXok X Y RX10 cX10_jackpot 2 _ := hX
  revert hf
  show J X Y 2 Q 0 [(0, .ref (AD Y 186)), (1, .int v1)] [] G (f_X10_jackpot v1 G = some (r, G'))
  unfold f_X10_jackpot
  refine J_aload_n 0 hX dX10_jackpot_0 fz0 rfl ?_
  refine J_iconst hX dX10_jackpot_1 ci_0 ?_
  refine J_putI hX dX10_jackpot_2 lf_X10_95 lpt_9_0 sk_186 rfl fun G2 => ?_
  refine J_aload_n 0 hX dX10_jackpot_5 fz0 rfl ?_
  refine J_callVI (As := []) (st := []) (b := 186) hX mv_X10_324 sk_186 rfl rfl rfl (Nat.le_of_ble_eq_true rfl) (Nat.le_of_ble_eq_true rfl) (Nat.le_of_ble_eq_true rfl) dX10_jackpot_6 (fun r G1 h => ok_X10_isHall  h) fun r6 G6 => ?_
  refine J_if_eq (tgt := 22) hX dX10_jackpot_9 rfl ?_ ?_
  · refine J_bipush hX dX10_jackpot_22 cbm_2 ?_
    exact J_retI hR dX10_jackpot_24
  · refine J_iload_n 1 hX dX10_jackpot_12 fz1 rfl ?_
    refine J_i2l hX dX10_jackpot_13 ?_
    refine J_lconst hX dX10_jackpot_14 fy0 ?_
    refine J_lconst hX dX10_jackpot_15 fy1 ?_
    refine J_callSI (As := [.long (v1.toInt64), .long (0 : Int64), .long (1 : Int64)]) (st := []) hX ms_X10_100 rfl rfl (Nat.le_of_ble_eq_true rfl) (Nat.le_of_ble_eq_true rfl) (Nat.le_of_ble_eq_true rfl) dX10_jackpot_16 (fun r G1 h => ok_X10_in  h) fun r16 G16 => ?_
    refine J_if_ne (tgt := 25) hX dX10_jackpot_19 rfl ?_ ?_
    · refine J_aload_n 0 hX dX10_jackpot_25 fz0 rfl ?_
      refine J_iconst hX dX10_jackpot_26 ci_0 ?_
      refine J_iconst hX dX10_jackpot_27 ci_2 ?_
      refine J_callVV (As := [.int (0 : Int32), .int (2 : Int32)]) (st := []) (b := 186) hX mv_X10_377 sk_186 rfl rfl rfl (Nat.le_of_ble_eq_true rfl) (Nat.le_of_ble_eq_true rfl) (Nat.le_of_ble_eq_true rfl) dX10_jackpot_28 (fun G1 h => ok_X10_races  h) fun G28 => ?_
      refine J_iload_n 1 hX dX10_jackpot_31 fz1 rfl ?_
      refine J_if_ne (tgt := 45) hX dX10_jackpot_32 rfl ?_ ?_
      · refine J_aload_n 0 hX dX10_jackpot_45 fz0 rfl ?_
        refine J_getR (b := 193) hX dX10_jackpot_46 lf_X10_34 sk_186 rfl (by decide) rfl ?_
        refine J_bipush hX dX10_jackpot_49 cb_6 ?_
        refine J_iald hX dX10_jackpot_51 sk_193 ln_193 ?_
        refine J_if_eq (tgt := 63) hX dX10_jackpot_52 rfl ?_ ?_
        · refine J_iconst hX dX10_jackpot_63 cim_1 ?_
          refine J_goto (tgt := 97) hX dX10_jackpot_64 rfl ?_
          exact J_retI hR dX10_jackpot_97
        · refine J_aload_n 0 hX dX10_jackpot_55 fz0 rfl ?_
          refine J_getI hX dX10_jackpot_56 lf_X10_371 sk_186 rfl ?_
          refine J_iconst hX dX10_jackpot_59 cim_1 ?_
          refine J_icmp_ne (tgt := 67) hX dX10_jackpot_60 rfl ?_ ?_
          · refine J_aload_n 0 hX dX10_jackpot_67 fz0 rfl ?_
            refine J_getI hX dX10_jackpot_68 lf_X10_371 sk_186 rfl ?_
            refine J_aload_n 0 hX dX10_jackpot_71 fz0 rfl ?_
            refine J_getR (b := 193) hX dX10_jackpot_72 lf_X10_34 sk_186 rfl (by decide) rfl ?_
            refine J_bipush hX dX10_jackpot_75 cb_6 ?_
            refine J_iald hX dX10_jackpot_77 sk_193 ln_193 ?_
            refine J_icmp_le (tgt := 96) hX dX10_jackpot_78 rfl ?_ ?_
            · refine J_iconst hX dX10_jackpot_96 ci_0 ?_
              exact J_retI hR dX10_jackpot_97
            · refine J_aload_n 0 hX dX10_jackpot_81 fz0 rfl ?_
              refine J_getI hX dX10_jackpot_82 lf_X10_371 sk_186 rfl ?_
              refine J_aload_n 0 hX dX10_jackpot_85 fz0 rfl ?_
              refine J_getR (b := 193) hX dX10_jackpot_86 lf_X10_34 sk_186 rfl (by decide) rfl ?_
              refine J_bipush hX dX10_jackpot_89 cb_6 ?_
              refine J_iald hX dX10_jackpot_91 sk_193 ln_193 ?_
              refine J_isub hX dX10_jackpot_92 ?_
              refine J_goto (tgt := 97) hX dX10_jackpot_93 rfl ?_
              exact J_retI hR dX10_jackpot_97
          · refine J_iconst hX dX10_jackpot_63 cim_1 ?_
            refine J_goto (tgt := 97) hX dX10_jackpot_64 rfl ?_
            exact J_retI hR dX10_jackpot_97
      · refine J_aload_n 0 hX dX10_jackpot_35 fz0 rfl ?_
        refine J_getI hX dX10_jackpot_36 lf_X10_374 sk_186 rfl ?_
        refine J_aload_n 0 hX dX10_jackpot_39 fz0 rfl ?_
        refine J_callVI (As := []) (st := [.int (gI G28 186 41)]) (b := 186) hX mv_X10_386 sk_186 rfl rfl rfl (Nat.le_of_ble_eq_true rfl) (Nat.le_of_ble_eq_true rfl) (Nat.le_of_ble_eq_true rfl) dX10_jackpot_40 (fun r G1 h => ok_X10_jackpotEach  h) fun r40 G40 => ?_
        refine J_imul hX dX10_jackpot_43 ?_
        exact J_retI hR dX10_jackpot_44
    · refine J_bipush hX dX10_jackpot_22 cbm_2 ?_
      exact J_retI hR dX10_jackpot_24
set_option maxHeartbeats 4000000 in
set_option maxRecDepth 100000 in
theorem ok_X10_wins {Y : DX} {v1 : Int32}  {G : GM} {r : Int32} {G' : GM} (hf : f_X10_wins v1 G = some (r, G')) : OkI Y 31 M_X10_wins [.ref (AD Y 186), .int v1] G r G' := by
  refine okI_of (lv0 := [(0, .ref (AD Y 186)), (1, .int v1)]) (by decide +kernel) rfl (Nat.le_of_ble_eq_true rfl) ?_
  intro X Q hX hR
  have hX : CXok X Y RX10 cX10_wins 5 _ := hX
  revert hf
  show J X Y 5 Q 0 [(0, .ref (AD Y 186)), (1, .int v1)] [] G (f_X10_wins v1 G = some (r, G'))
  have K30 : ∀  (n : Nat) (v2 : Int32) (v3 : Int32) (G : GM), J X Y 5 Q 30 [(0, .ref (AD Y 186)), (1, .int v1), (2, .int v2), (3, .int v3)] [] G (wl2 n (lp_X10_wins_30 v1) v2 v3 G = some (r, G')) := by
    refine wl2_ind (R := fun v2 v3 G φ => J X Y 5 Q 30 [(0, .ref (AD Y 186)), (1, .int v1), (2, .int v2), (3, .int v3)] [] G φ) (fun _ _ G φ h => J_no h) ?_
    intro kc30 hk30 v2 v3 G
    unfold lp_X10_wins_30
    have K44 : ∀ (v3 : Int32) (n : Nat) (v2 : Int32) (v4 : Int32) (G : GM), J X Y 5 Q 44 [(0, .ref (AD Y 186)), (1, .int v1), (2, .int v2), (3, .int v3), (4, .int v4)] [] G (wl2 n (lp_X10_wins_44 v1 v3 kc30) v2 v4 G = some (r, G')) := by
      intro v3
      refine wl2_ind (R := fun v2 v4 G φ => J X Y 5 Q 44 [(0, .ref (AD Y 186)), (1, .int v1), (2, .int v2), (3, .int v3), (4, .int v4)] [] G φ) (fun _ _ G φ h => J_no h) ?_
      intro kc44 hk44 v2 v4 G
      unfold lp_X10_wins_44
      have K89 : ∀ (v4 : Int32) (s0 : Int32) (s1 : Int32) (s2 : Int32) (G : GM), J X Y 5 Q 89 [(0, .ref (AD Y 186)), (1, .int v1), (3, .int v3), (4, .int v4)] [.int s0, .int s1, .int s2] G (k_X10_wins_89 v1 v3 v4 s0 s1 s2 kc30 kc44 G = some (r, G')) := by
        intro v4 s0 s1 s2 G
        unfold k_X10_wins_89
        refine J_iadd hX dX10_wins_89 ?_
        refine J_iadd hX dX10_wins_90 ?_
        refine J_lt (mk := Value.int) fun x91 => ?_
        refine J_istore_n (lv' := [(2, .int x91), (0, .ref (AD Y 186)), (1, .int v1), (3, .int v3), (4, .int v4)]) hX dX10_wins_91 fz2 (Nat.le_of_ble_eq_true rfl) rfl ?_
        refine J_iinc (lv' := [(4, .int (v4 + (1 : Int32))), (2, .int x91), (0, .ref (AD Y 186)), (1, .int v1), (3, .int v3)]) 4 hX dX10_wins_92 rfl ci_1 (Nat.le_of_ble_eq_true rfl) rfl ?_
        refine J_goto (tgt := 44) hX dX10_wins_95 rfl ?_
        refine J_sub (lv' := [(0, .ref (AD Y 186)), (1, .int v1), (2, .int x91), (3, .int v3), (4, .int (v4 + (1 : Int32)))]) [2, 3, 1, 4, 0] rfl ?_
        exact hk44 x91 (v4 + (1 : Int32)) G
      refine J_iload 4 hX dX10_wins_44 rfl ?_
      refine J_aload_n 0 hX dX10_wins_46 fz0 rfl ?_
      refine J_getR (b := 193) hX dX10_wins_47 lf_X10_34 sk_186 rfl (by decide) rfl ?_
      refine J_iconst hX dX10_wins_50 ci_0 ?_
      refine J_iald hX dX10_wins_51 sk_193 ln_193 ?_
      refine J_icmp_ge (tgt := 98) hX dX10_wins_52 rfl ?_ ?_
      · refine J_iinc (lv' := [(3, .int (v3 + (1 : Int32))), (0, .ref (AD Y 186)), (1, .int v1), (2, .int v2), (4, .int v4)]) 3 hX dX10_wins_98 rfl ci_1 (Nat.le_of_ble_eq_true rfl) rfl ?_
        refine J_goto (tgt := 30) hX dX10_wins_101 rfl ?_
        refine J_sub (lv' := [(0, .ref (AD Y 186)), (1, .int v1), (2, .int v2), (3, .int (v3 + (1 : Int32)))]) [1, 2, 3, 0] rfl ?_
        exact hk30 v2 (v3 + (1 : Int32)) G
      · refine J_aload_n 0 hX dX10_wins_55 fz0 rfl ?_
        refine J_iload_n 1 hX dX10_wins_56 fz1 rfl ?_
        refine J_iload 4 hX dX10_wins_57 rfl ?_
        refine J_callVI (As := [.int v1, .int v4]) (st := []) (b := 186) hX mv_X10_380 sk_186 rfl rfl rfl (Nat.le_of_ble_eq_true rfl) (Nat.le_of_ble_eq_true rfl) (Nat.le_of_ble_eq_true rfl) dX10_wins_59 (fun r G1 h => ok_X10_isWinner  h) fun r59 G59 => ?_
        refine J_if_eq (tgt := 92) hX dX10_wins_62 rfl ?_ ?_
        · refine J_iinc (lv' := [(4, .int (v4 + (1 : Int32))), (0, .ref (AD Y 186)), (1, .int v1), (2, .int v2), (3, .int v3)]) 4 hX dX10_wins_92 rfl ci_1 (Nat.le_of_ble_eq_true rfl) rfl ?_
          refine J_goto (tgt := 44) hX dX10_wins_95 rfl ?_
          refine J_sub (lv' := [(0, .ref (AD Y 186)), (1, .int v1), (2, .int v2), (3, .int v3), (4, .int (v4 + (1 : Int32)))]) [1, 2, 3, 4, 0] rfl ?_
          exact hk44 v2 (v4 + (1 : Int32)) G59
        · refine J_iload_n 2 hX dX10_wins_65 fz2 rfl ?_
          refine J_aload_n 0 hX dX10_wins_66 fz0 rfl ?_
          refine J_aload_n 0 hX dX10_wins_67 fz0 rfl ?_
          refine J_getR (b := 195) hX dX10_wins_68 lf_X10_40 sk_186 rfl (by decide) rfl ?_
          refine J_iload_n 3 hX dX10_wins_71 fz3 rfl ?_
          refine J_iald hX dX10_wins_72 sk_195 ln_195 ?_
          refine J_callVI (As := [.int (gI G59 195 v3.toNatClampNeg)]) (st := [.int v2]) (b := 186) hX mv_X10_383 sk_186 rfl rfl rfl (Nat.le_of_ble_eq_true rfl) (Nat.le_of_ble_eq_true rfl) (Nat.le_of_ble_eq_true rfl) dX10_wins_73 (fun r G1 h => ok_X10_eachOf  h) fun r73 G73 => ?_
          refine J_iload_n 3 hX dX10_wins_76 fz3 rfl ?_
          refine J_iconst hX dX10_wins_77 ci_2 ?_
          refine J_icmp_ne (tgt := 88) hX dX10_wins_78 rfl ?_ ?_
          · refine J_iconst hX dX10_wins_88 ci_0 ?_
            refine J_sub (lv' := [(0, .ref (AD Y 186)), (1, .int v1), (3, .int v3), (4, .int v4)]) [0, 1, 3, 4] rfl ?_
            exact K89 v4 (0 : Int32) r73 v2 G73
          · refine J_aload_n 0 hX dX10_wins_81 fz0 rfl ?_
            refine J_callVI (As := []) (st := [.int r73, .int v2]) (b := 186) hX mv_X10_386 sk_186 rfl rfl rfl (Nat.le_of_ble_eq_true rfl) (Nat.le_of_ble_eq_true rfl) (Nat.le_of_ble_eq_true rfl) dX10_wins_82 (fun r G1 h => ok_X10_jackpotEach  h) fun r82 G82 => ?_
            refine J_goto (tgt := 89) hX dX10_wins_85 rfl ?_
            refine J_sub (lv' := [(0, .ref (AD Y 186)), (1, .int v1), (3, .int v3), (4, .int v4)]) [0, 1, 3, 4] rfl ?_
            exact K89 v4 r82 r73 v2 G82
    refine J_iload_n 3 hX dX10_wins_30 fz3 rfl ?_
    refine J_iconst hX dX10_wins_31 ci_3 ?_
    refine J_icmp_ge (tgt := 104) hX dX10_wins_32 rfl ?_ ?_
    · refine J_iload_n 2 hX dX10_wins_104 fz2 rfl ?_
      exact J_retI hR dX10_wins_105
    · refine J_aload_n 0 hX dX10_wins_35 fz0 rfl ?_
      refine J_iconst hX dX10_wins_36 ci_0 ?_
      refine J_iload_n 3 hX dX10_wins_37 fz3 rfl ?_
      refine J_callVV (As := [.int (0 : Int32), .int v3]) (st := []) (b := 186) hX mv_X10_377 sk_186 rfl rfl rfl (Nat.le_of_ble_eq_true rfl) (Nat.le_of_ble_eq_true rfl) (Nat.le_of_ble_eq_true rfl) dX10_wins_38 (fun G1 h => ok_X10_races  h) fun G38 => ?_
      refine J_iconst hX dX10_wins_41 ci_0 ?_
      refine J_istore (lv' := [(4, .int (0 : Int32)), (0, .ref (AD Y 186)), (1, .int v1), (2, .int v2), (3, .int v3)]) hX dX10_wins_42 (Nat.le_of_ble_eq_true rfl) rfl ?_
      refine J_sub (lv' := [(0, .ref (AD Y 186)), (1, .int v1), (2, .int v2), (3, .int v3), (4, .int (0 : Int32))]) [1, 2, 3, 4, 0] rfl ?_
      exact K44 v3 FU v2 (0 : Int32) G38
  unfold f_X10_wins
  refine J_aload_n 0 hX dX10_wins_0 fz0 rfl ?_
  refine J_iconst hX dX10_wins_1 ci_0 ?_
  refine J_putI hX dX10_wins_2 lf_X10_95 lpt_9_0 sk_186 rfl fun G2 => ?_
  refine J_iload_n 1 hX dX10_wins_5 fz1 rfl ?_
  refine J_i2l hX dX10_wins_6 ?_
  refine J_lconst hX dX10_wins_7 fy0 ?_
  refine J_aload_n 0 hX dX10_wins_8 fz0 rfl ?_
  refine J_getR (b := 193) hX dX10_wins_9 lf_X10_34 sk_186 rfl (by decide) rfl ?_
  refine J_iconst hX dX10_wins_12 ci_4 ?_
  refine J_iald hX dX10_wins_13 sk_193 ln_193 ?_
  refine J_iconst hX dX10_wins_14 ci_1 ?_
  refine J_isub hX dX10_wins_15 ?_
  refine J_i2l hX dX10_wins_16 ?_
  refine J_callSI (As := [.long (v1.toInt64), .long (0 : Int64), .long (((gI G2 193 (4 : Int32).toNatClampNeg) - (1 : Int32)).toInt64)]) (st := []) hX ms_X10_100 rfl rfl (Nat.le_of_ble_eq_true rfl) (Nat.le_of_ble_eq_true rfl) (Nat.le_of_ble_eq_true rfl) dX10_wins_17 (fun r G1 h => ok_X10_in  h) fun r17 G17 => ?_
  refine J_if_ne (tgt := 26) hX dX10_wins_20 rfl ?_ ?_
  · refine J_iconst hX dX10_wins_26 ci_0 ?_
    refine J_istore_n (lv' := [(2, .int (0 : Int32)), (0, .ref (AD Y 186)), (1, .int v1)]) hX dX10_wins_27 fz2 (Nat.le_of_ble_eq_true rfl) rfl ?_
    refine J_iconst hX dX10_wins_28 ci_0 ?_
    refine J_istore_n (lv' := [(3, .int (0 : Int32)), (2, .int (0 : Int32)), (0, .ref (AD Y 186)), (1, .int v1)]) hX dX10_wins_29 fz3 (Nat.le_of_ble_eq_true rfl) rfl ?_
    refine J_sub (lv' := [(0, .ref (AD Y 186)), (1, .int v1), (2, .int (0 : Int32)), (3, .int (0 : Int32))]) [2, 3, 1, 0] rfl ?_
    exact K30  FU (0 : Int32) (0 : Int32) G17
  · refine J_bipush hX dX10_wins_23 cbm_2 ?_
    exact J_retI hR dX10_wins_25
set_option maxHeartbeats 4000000 in
set_option maxRecDepth 100000 in
theorem ok_X10_laysBook {Y : DX} {v1 : Int32}  {G : GM} {r : Int32} {G' : GM} (hf : f_X10_laysBook v1 G = some (r, G')) : OkI Y 30 M_X10_laysBook [.ref (AD Y 186), .int v1] G r G' := by
  refine okI_of (lv0 := [(0, .ref (AD Y 186)), (1, .int v1)]) (by decide +kernel) rfl (Nat.le_of_ble_eq_true rfl) ?_
  intro X Q hX hR
  have hX : CXok X Y RX10 cX10_laysBook 8 _ := hX
  revert hf
  show J X Y 8 Q 0 [(0, .ref (AD Y 186)), (1, .int v1)] [] G (f_X10_laysBook v1 G = some (r, G'))
  have K4 : ∀  (n : Nat) (v2 : Int32) (v3 : Int32) (G : GM), J X Y 8 Q 4 [(0, .ref (AD Y 186)), (1, .int v1), (2, .int v2), (3, .int v3)] [] G (wl2 n (lp_X10_laysBook_4 v1) v2 v3 G = some (r, G')) := by
    refine wl2_ind (R := fun v2 v3 G φ => J X Y 8 Q 4 [(0, .ref (AD Y 186)), (1, .int v1), (2, .int v2), (3, .int v3)] [] G φ) (fun _ _ G φ h => J_no h) ?_
    intro kc4 hk4 v2 v3 G
    unfold lp_X10_laysBook_4
    have K126 : ∀ (v2 : Int32) (v3 : Int32) (n : Nat) (v5 : Int32) (G : GM), J X Y 8 Q 126 [(0, .ref (AD Y 186)), (1, .int v1), (2, .int v2), (3, .int v3), (5, .int v5)] [] G (wl1 n (lp_X10_laysBook_126 v1 v2 v3 kc4) v5 G = some (r, G')) := by
      intro v2 v3
      refine wl1_ind (R := fun v5 G φ => J X Y 8 Q 126 [(0, .ref (AD Y 186)), (1, .int v1), (2, .int v2), (3, .int v3), (5, .int v5)] [] G φ) (fun _ G φ h => J_no h) ?_
      intro kc126 hk126 v5 G
      unfold lp_X10_laysBook_126
      refine J_iload 4 hX dX10_laysBook_126 rfl ?_
      refine J_bipush hX dX10_laysBook_128 cb_45 ?_
      refine J_icmp_ge (tgt := 158) hX dX10_laysBook_130 rfl ?_ ?_
      · refine J_aload_n 0 hX dX10_laysBook_158 fz0 rfl ?_
        refine J_getR (b := 211) hX dX10_laysBook_159 lf_X10_89 sk_186 rfl (by decide) rfl ?_
        refine J_iload_n 2 hX dX10_laysBook_162 fz2 rfl ?_
        refine J_iload_n 3 hX dX10_laysBook_163 fz3 rfl ?_
        refine J_iast hX dX10_laysBook_164 sk_211 ln_211 fun G164 => ?_
        refine J_iinc (lv' := [(2, .int (v2 + (1 : Int32))), (0, .ref (AD Y 186)), (1, .int v1), (3, .int v3), (5, .int v5)]) 2 hX dX10_laysBook_165 rfl ci_1 (Nat.le_of_ble_eq_true rfl) rfl ?_
        refine J_iinc (lv' := [(3, .int (v3 + (1 : Int32))), (2, .int (v2 + (1 : Int32))), (0, .ref (AD Y 186)), (1, .int v1), (5, .int v5)]) 3 hX dX10_laysBook_168 rfl ci_1 (Nat.le_of_ble_eq_true rfl) rfl ?_
        refine J_goto (tgt := 4) hX dX10_laysBook_171 rfl ?_
        refine J_sub (lv' := [(0, .ref (AD Y 186)), (1, .int v1), (2, .int (v2 + (1 : Int32))), (3, .int (v3 + (1 : Int32)))]) [2, 3, 1, 0] rfl ?_
        exact hk4 (v2 + (1 : Int32)) (v3 + (1 : Int32)) G164
      · refine J_aload_n 0 hX dX10_laysBook_133 fz0 rfl ?_
        refine J_getR (b := 210) hX dX10_laysBook_134 lf_X10_86 sk_186 rfl (by decide) rfl ?_
        refine J_bipush hX dX10_laysBook_137 cb_45 ?_
        refine J_iload_n 2 hX dX10_laysBook_139 fz2 rfl ?_
        refine J_imul hX dX10_laysBook_140 ?_
        refine J_iload 4 hX dX10_laysBook_141 rfl ?_
        refine J_iadd hX dX10_laysBook_143 ?_
        refine J_aload_n 0 hX dX10_laysBook_144 fz0 rfl ?_
        refine J_getR (b := 206) hX dX10_laysBook_145 lf_X10_74 sk_186 rfl (by decide) rfl ?_
        refine J_iload 4 hX dX10_laysBook_148 rfl ?_
        refine J_iald hX dX10_laysBook_150 sk_206 ln_206 ?_
        refine J_iast hX dX10_laysBook_151 sk_210 ln_210 fun G151 => ?_
        refine J_iinc (lv' := [(5, .int (v5 + (1 : Int32))), (0, .ref (AD Y 186)), (1, .int v1), (2, .int v2), (3, .int v3)]) 4 hX dX10_laysBook_152 rfl ci_1 (Nat.le_of_ble_eq_true rfl) rfl ?_
        refine J_goto (tgt := 126) hX dX10_laysBook_155 rfl ?_
        refine J_sub (lv' := [(0, .ref (AD Y 186)), (1, .int v1), (2, .int v2), (3, .int v3), (5, .int (v5 + (1 : Int32)))]) [1, 2, 3, 4, 0] rfl ?_
        exact hk126 (v5 + (1 : Int32)) G151
    have K115 : ∀ (v2 : Int32) (v3 : Int32) (v4 : Int32) (G : GM), J X Y 8 Q 115 [(0, .ref (AD Y 186)), (1, .int v1), (2, .int v2), (3, .int v3), (4, .int v4)] [] G (k_X10_laysBook_115 v1 v2 v3 v4 kc4 G = some (r, G')) := by
      intro v2 v3 v4 G
      unfold k_X10_laysBook_115
      refine J_iload 4 hX dX10_laysBook_115 rfl ?_
      refine J_if_ne (tgt := 123) hX dX10_laysBook_117 rfl ?_ ?_
      · refine J_iconst hX dX10_laysBook_123 ci_0 ?_
        refine J_istore (lv' := [(5, .int (0 : Int32)), (0, .ref (AD Y 186)), (1, .int v1), (2, .int v2), (3, .int v3), (4, .int v4)]) hX dX10_laysBook_124 (Nat.le_of_ble_eq_true rfl) rfl ?_
        refine J_sub (lv' := [(0, .ref (AD Y 186)), (1, .int v1), (2, .int v2), (3, .int v3), (5, .int (0 : Int32))]) [1, 2, 3, 4, 0] rfl ?_
        exact K126 v2 v3 FU (0 : Int32) G
      · refine J_goto (tgt := 168) hX dX10_laysBook_120 rfl ?_
        refine J_iinc (lv' := [(3, .int (v3 + (1 : Int32))), (0, .ref (AD Y 186)), (1, .int v1), (2, .int v2), (4, .int v4)]) 3 hX dX10_laysBook_168 rfl ci_1 (Nat.le_of_ble_eq_true rfl) rfl ?_
        refine J_goto (tgt := 4) hX dX10_laysBook_171 rfl ?_
        refine J_sub (lv' := [(0, .ref (AD Y 186)), (1, .int v1), (2, .int v2), (3, .int (v3 + (1 : Int32)))]) [1, 2, 3, 0] rfl ?_
        exact hk4 v2 (v3 + (1 : Int32)) G
    have K32 : ∀ (v2 : Int32) (v3 : Int32) (n : Nat) (v4 : Int32) (v5 : Int32) (G : GM), J X Y 8 Q 32 [(0, .ref (AD Y 186)), (1, .int v1), (2, .int v2), (3, .int v3), (4, .int v4), (5, .int v5)] [] G (wl2 n (lp_X10_laysBook_32 v1 v2 v3 kc4) v4 v5 G = some (r, G')) := by
      intro v2 v3
      refine wl2_ind (R := fun v4 v5 G φ => J X Y 8 Q 32 [(0, .ref (AD Y 186)), (1, .int v1), (2, .int v2), (3, .int v3), (4, .int v4), (5, .int v5)] [] G φ) (fun _ _ G φ h => J_no h) ?_
      intro kc32 hk32 v4 v5 G
      unfold lp_X10_laysBook_32
      have K107 : ∀ (v5 : Int32) (s0 : Int32) (G : GM), J X Y 8 Q 107 [(0, .ref (AD Y 186)), (1, .int v1), (2, .int v2), (3, .int v3), (5, .int v5)] [.int s0] G (k_X10_laysBook_107 v1 v2 v3 v5 s0 kc4 kc32 G = some (r, G')) := by
        intro v5 s0 G
        unfold k_X10_laysBook_107
        refine J_istore (lv' := [(4, .int s0), (0, .ref (AD Y 186)), (1, .int v1), (2, .int v2), (3, .int v3), (5, .int v5)]) hX dX10_laysBook_107 (Nat.le_of_ble_eq_true rfl) rfl ?_
        refine J_iinc (lv' := [(5, .int (v5 + (1 : Int32))), (4, .int s0), (0, .ref (AD Y 186)), (1, .int v1), (2, .int v2), (3, .int v3)]) 5 hX dX10_laysBook_109 rfl ci_1 (Nat.le_of_ble_eq_true rfl) rfl ?_
        refine J_goto (tgt := 32) hX dX10_laysBook_112 rfl ?_
        refine J_sub (lv' := [(0, .ref (AD Y 186)), (1, .int v1), (2, .int v2), (3, .int v3), (4, .int s0), (5, .int (v5 + (1 : Int32)))]) [2, 3, 4, 5, 1, 0] rfl ?_
        exact hk32 s0 (v5 + (1 : Int32)) G
      have K49 : ∀ (v5 : Int32) (n : Nat) (v6 : Int32) (v7 : Int32) (G : GM), J X Y 8 Q 49 [(0, .ref (AD Y 186)), (1, .int v1), (2, .int v2), (3, .int v3), (5, .int v5), (6, .int v6), (7, .int v7)] [] G (wl2 n (lp_X10_laysBook_49 v1 v2 v3 v5 kc4 kc32) v6 v7 G = some (r, G')) := by
        intro v5
        refine wl2_ind (R := fun v6 v7 G φ => J X Y 8 Q 49 [(0, .ref (AD Y 186)), (1, .int v1), (2, .int v2), (3, .int v3), (5, .int v5), (6, .int v6), (7, .int v7)] [] G φ) (fun _ _ G φ h => J_no h) ?_
        intro kc49 hk49 v6 v7 G
        unfold lp_X10_laysBook_49
        have K89 : ∀ (v7 : Int32) (s0 : Int32) (G : GM), J X Y 8 Q 89 [(0, .ref (AD Y 186)), (1, .int v1), (2, .int v2), (3, .int v3), (5, .int v5), (7, .int v7)] [.int s0] G (k_X10_laysBook_89 v1 v2 v3 v5 v7 s0 kc4 kc32 kc49 G = some (r, G')) := by
          intro v7 s0 G
          unfold k_X10_laysBook_89
          refine J_istore (lv' := [(6, .int s0), (0, .ref (AD Y 186)), (1, .int v1), (2, .int v2), (3, .int v3), (5, .int v5), (7, .int v7)]) hX dX10_laysBook_89 (Nat.le_of_ble_eq_true rfl) rfl ?_
          refine J_iinc (lv' := [(7, .int (v7 + (1 : Int32))), (6, .int s0), (0, .ref (AD Y 186)), (1, .int v1), (2, .int v2), (3, .int v3), (5, .int v5)]) 6 hX dX10_laysBook_91 rfl ci_1 (Nat.le_of_ble_eq_true rfl) rfl ?_
          refine J_goto (tgt := 49) hX dX10_laysBook_94 rfl ?_
          refine J_sub (lv' := [(0, .ref (AD Y 186)), (1, .int v1), (2, .int v2), (3, .int v3), (5, .int v5), (6, .int s0), (7, .int (v7 + (1 : Int32)))]) [2, 3, 4, 5, 6, 1, 0] rfl ?_
          exact hk49 s0 (v7 + (1 : Int32)) G
        have K88 : ∀ (v7 : Int32) (G : GM), J X Y 8 Q 88 [(0, .ref (AD Y 186)), (1, .int v1), (2, .int v2), (3, .int v3), (5, .int v5), (7, .int v7)] [] G (k_X10_laysBook_88 v1 v2 v3 v5 v7 kc4 kc32 kc49 G = some (r, G')) := by
          intro v7 G
          unfold k_X10_laysBook_88
          refine J_iconst hX dX10_laysBook_88 ci_0 ?_
          exact K89 v7 (0 : Int32) G
        refine J_iload 6 hX dX10_laysBook_49 rfl ?_
        refine J_bipush hX dX10_laysBook_51 cb_45 ?_
        refine J_icmp_ge (tgt := 97) hX dX10_laysBook_53 rfl ?_ ?_
        · refine J_iload 5 hX dX10_laysBook_97 rfl ?_
          refine J_if_ne (tgt := 106) hX dX10_laysBook_99 rfl ?_ ?_
          · refine J_iconst hX dX10_laysBook_106 ci_0 ?_
            refine J_sub (lv' := [(0, .ref (AD Y 186)), (1, .int v1), (2, .int v2), (3, .int v3), (5, .int v5)]) [0, 1, 2, 3, 4] rfl ?_
            exact K107 v5 (0 : Int32) G
          · refine J_iconst hX dX10_laysBook_102 ci_1 ?_
            refine J_goto (tgt := 107) hX dX10_laysBook_103 rfl ?_
            refine J_sub (lv' := [(0, .ref (AD Y 186)), (1, .int v1), (2, .int v2), (3, .int v3), (5, .int v5)]) [0, 1, 2, 3, 4] rfl ?_
            exact K107 v5 (1 : Int32) G
        · refine J_iload 5 hX dX10_laysBook_56 rfl ?_
          refine J_if_eq (tgt := 88) hX dX10_laysBook_58 rfl ?_ ?_
          · refine J_sub (lv' := [(0, .ref (AD Y 186)), (1, .int v1), (2, .int v2), (3, .int v3), (5, .int v5), (7, .int v7)]) [0, 1, 2, 3, 4, 6] rfl ?_
            exact K88 v7 G
          · refine J_aload_n 0 hX dX10_laysBook_61 fz0 rfl ?_
            refine J_getR (b := 210) hX dX10_laysBook_62 lf_X10_86 sk_186 rfl (by decide) rfl ?_
            refine J_bipush hX dX10_laysBook_65 cb_45 ?_
            refine J_iload 4 hX dX10_laysBook_67 rfl ?_
            refine J_imul hX dX10_laysBook_69 ?_
            refine J_iload 6 hX dX10_laysBook_70 rfl ?_
            refine J_iadd hX dX10_laysBook_72 ?_
            refine J_iald hX dX10_laysBook_73 sk_210 ln_210 ?_
            refine J_aload_n 0 hX dX10_laysBook_74 fz0 rfl ?_
            refine J_getR (b := 206) hX dX10_laysBook_75 lf_X10_74 sk_186 rfl (by decide) rfl ?_
            refine J_iload 6 hX dX10_laysBook_78 rfl ?_
            refine J_iald hX dX10_laysBook_80 sk_206 ln_206 ?_
            refine J_icmp_ne (tgt := 88) hX dX10_laysBook_81 rfl ?_ ?_
            · refine J_sub (lv' := [(0, .ref (AD Y 186)), (1, .int v1), (2, .int v2), (3, .int v3), (5, .int v5), (7, .int v7)]) [0, 1, 2, 3, 4, 6] rfl ?_
              exact K88 v7 G
            · refine J_iconst hX dX10_laysBook_84 ci_1 ?_
              refine J_goto (tgt := 89) hX dX10_laysBook_85 rfl ?_
              refine J_sub (lv' := [(0, .ref (AD Y 186)), (1, .int v1), (2, .int v2), (3, .int v3), (5, .int v5), (7, .int v7)]) [0, 1, 2, 3, 4, 6] rfl ?_
              exact K89 v7 (1 : Int32) G
      refine J_iload 5 hX dX10_laysBook_32 rfl ?_
      refine J_iload_n 2 hX dX10_laysBook_34 fz2 rfl ?_
      refine J_icmp_ge (tgt := 115) hX dX10_laysBook_35 rfl ?_ ?_
      · refine J_sub (lv' := [(0, .ref (AD Y 186)), (1, .int v1), (2, .int v2), (3, .int v3), (4, .int v4)]) [0, 1, 2, 3, 4] rfl ?_
        exact K115 v2 v3 v4 G
      · refine J_iload 4 hX dX10_laysBook_38 rfl ?_
        refine J_if_eq (tgt := 115) hX dX10_laysBook_40 rfl ?_ ?_
        · refine J_sub (lv' := [(0, .ref (AD Y 186)), (1, .int v1), (2, .int v2), (3, .int v3), (4, .int v4)]) [0, 1, 2, 3, 4] rfl ?_
          exact K115 v2 v3 v4 G
        · refine J_iconst hX dX10_laysBook_43 ci_1 ?_
          refine J_istore (lv' := [(6, .int (1 : Int32)), (0, .ref (AD Y 186)), (1, .int v1), (2, .int v2), (3, .int v3), (4, .int v4), (5, .int v5)]) hX dX10_laysBook_44 (Nat.le_of_ble_eq_true rfl) rfl ?_
          refine J_iconst hX dX10_laysBook_46 ci_0 ?_
          refine J_istore (lv' := [(7, .int (0 : Int32)), (6, .int (1 : Int32)), (0, .ref (AD Y 186)), (1, .int v1), (2, .int v2), (3, .int v3), (4, .int v4), (5, .int v5)]) hX dX10_laysBook_47 (Nat.le_of_ble_eq_true rfl) rfl ?_
          refine J_sub (lv' := [(0, .ref (AD Y 186)), (1, .int v1), (2, .int v2), (3, .int v3), (5, .int v5), (6, .int (1 : Int32)), (7, .int (0 : Int32))]) [2, 3, 4, 5, 7, 1, 0] rfl ?_
          exact K49 v5 FU (1 : Int32) (0 : Int32) G
    refine J_iload_n 3 hX dX10_laysBook_4 fz3 rfl ?_
    refine J_sipush hX dX10_laysBook_5 cs_9999 ?_
    refine J_icmp_gt (tgt := 174) hX dX10_laysBook_8 rfl ?_ ?_
    · refine J_iload_n 2 hX dX10_laysBook_174 fz2 rfl ?_
      exact J_retI hR dX10_laysBook_175
    · refine J_iload_n 3 hX dX10_laysBook_11 fz3 rfl ?_
      refine J_iload_n 1 hX dX10_laysBook_12 fz1 rfl ?_
      refine J_bipush hX dX10_laysBook_13 cb_40 ?_
      refine J_iadd hX dX10_laysBook_15 ?_
      refine J_icmp_ge (tgt := 174) hX dX10_laysBook_16 rfl ?_ ?_
      · refine J_iload_n 2 hX dX10_laysBook_174 fz2 rfl ?_
        exact J_retI hR dX10_laysBook_175
      · refine J_aload_n 0 hX dX10_laysBook_19 fz0 rfl ?_
        refine J_iconst hX dX10_laysBook_20 ci_0 ?_
        refine J_iload_n 3 hX dX10_laysBook_21 fz3 rfl ?_
        refine J_iconst hX dX10_laysBook_22 ci_0 ?_
        refine J_callVV (As := [.int (0 : Int32), .int v3, .int (0 : Int32)]) (st := []) (b := 186) hX mv_X10_317 sk_186 rfl rfl rfl (Nat.le_of_ble_eq_true rfl) (Nat.le_of_ble_eq_true rfl) (Nat.le_of_ble_eq_true rfl) dX10_laysBook_23 (fun G1 h => ok_X10_makes  h) fun G23 => ?_
        refine J_iconst hX dX10_laysBook_26 ci_1 ?_
        refine J_istore (lv' := [(4, .int (1 : Int32)), (0, .ref (AD Y 186)), (1, .int v1), (2, .int v2), (3, .int v3)]) hX dX10_laysBook_27 (Nat.le_of_ble_eq_true rfl) rfl ?_
        refine J_iconst hX dX10_laysBook_29 ci_0 ?_
        refine J_istore (lv' := [(5, .int (0 : Int32)), (4, .int (1 : Int32)), (0, .ref (AD Y 186)), (1, .int v1), (2, .int v2), (3, .int v3)]) hX dX10_laysBook_30 (Nat.le_of_ble_eq_true rfl) rfl ?_
        refine J_sub (lv' := [(0, .ref (AD Y 186)), (1, .int v1), (2, .int v2), (3, .int v3), (4, .int (1 : Int32)), (5, .int (0 : Int32))]) [2, 3, 4, 5, 1, 0] rfl ?_
        exact K32 v2 v3 FU (1 : Int32) (0 : Int32) G23
  unfold f_X10_laysBook
  refine J_iconst hX dX10_laysBook_0 ci_0 ?_
  refine J_istore_n (lv' := [(2, .int (0 : Int32)), (0, .ref (AD Y 186)), (1, .int v1)]) hX dX10_laysBook_1 fz2 (Nat.le_of_ble_eq_true rfl) rfl ?_
  refine J_iload_n 2 hX dX10_laysBook_2 fz1 rfl ?_
  refine J_istore_n (lv' := [(3, .int v1), (2, .int (0 : Int32)), (0, .ref (AD Y 186)), (1, .int v1)]) hX dX10_laysBook_3 fz3 (Nat.le_of_ble_eq_true rfl) rfl ?_
  refine J_sub (lv' := [(0, .ref (AD Y 186)), (1, .int v1), (2, .int (0 : Int32)), (3, .int v1)]) [2, 3, 1, 0] rfl ?_
  exact K4  FU (0 : Int32) v1 G
set_option maxHeartbeats 4000000 in
set_option maxRecDepth 100000 in
theorem ok_X10_book {Y : DX} {v1 : Int32} {v2 : Int32}  {G : GM} {r : Int32} {G' : GM} (hf : f_X10_book v1 v2 G = some (r, G')) : OkI Y 31 M_X10_book [.ref (AD Y 186), .int v1, .int v2] G r G' := by
  refine okI_of (lv0 := [(0, .ref (AD Y 186)), (1, .int v1), (2, .int v2)]) (by decide +kernel) rfl (Nat.le_of_ble_eq_true rfl) ?_
  intro X Q hX hR
  have hX : CXok X Y RX10 cX10_book 3 _ := hX
  revert hf
  show J X Y 3 Q 0 [(0, .ref (AD Y 186)), (1, .int v1), (2, .int v2)] [] G (f_X10_book v1 v2 G = some (r, G'))
  unfold f_X10_book
  refine J_aload_n 0 hX dX10_book_0 fz0 rfl ?_
  refine J_iconst hX dX10_book_1 ci_0 ?_
  refine J_putI hX dX10_book_2 lf_X10_95 lpt_9_0 sk_186 rfl fun G2 => ?_
  refine J_aload_n 0 hX dX10_book_5 fz0 rfl ?_
  refine J_iload_n 1 hX dX10_book_6 fz1 rfl ?_
  refine J_callVI (As := [.int v1]) (st := []) (b := 186) hX mv_X10_342 sk_186 rfl rfl rfl (Nat.le_of_ble_eq_true rfl) (Nat.le_of_ble_eq_true rfl) (Nat.le_of_ble_eq_true rfl) dX10_book_7 (fun r G1 h => ok_X10_isSerial  h) fun r7 G7 => ?_
  refine J_if_ne (tgt := 16) hX dX10_book_10 rfl ?_ ?_
  · refine J_iload_n 2 hX dX10_book_16 fz2 rfl ?_
    refine J_i2l hX dX10_book_17 ?_
    refine J_lconst hX dX10_book_18 fy0 ?_
    refine J_ldc2 hX dX10_book_19 ll_X10_389 ?_
    refine J_callSI (As := [.long (v2.toInt64), .long (0 : Int64), .long (39 : Int64)]) (st := []) hX ms_X10_100 rfl rfl (Nat.le_of_ble_eq_true rfl) (Nat.le_of_ble_eq_true rfl) (Nat.le_of_ble_eq_true rfl) dX10_book_22 (fun r G1 h => ok_X10_in  h) fun r22 G22 => ?_
    refine J_if_eq (tgt := 46) hX dX10_book_25 rfl ?_ ?_
    · refine J_iconst hX dX10_book_46 cim_1 ?_
      exact J_retI hR dX10_book_47
    · refine J_iload_n 2 hX dX10_book_28 fz2 rfl ?_
      refine J_aload_n 0 hX dX10_book_29 fz0 rfl ?_
      refine J_iload_n 1 hX dX10_book_30 fz1 rfl ?_
      refine J_callVI (As := [.int v1]) (st := [.int v2]) (b := 186) hX mv_X10_391 sk_186 rfl rfl rfl (Nat.le_of_ble_eq_true rfl) (Nat.le_of_ble_eq_true rfl) (Nat.le_of_ble_eq_true rfl) dX10_book_31 (fun r G1 h => ok_X10_laysBook  h) fun r31 G31 => ?_
      refine J_icmp_ge (tgt := 46) hX dX10_book_34 rfl ?_ ?_
      · refine J_iconst hX dX10_book_46 cim_1 ?_
        exact J_retI hR dX10_book_47
      · refine J_aload_n 0 hX dX10_book_37 fz0 rfl ?_
        refine J_getR (b := 211) hX dX10_book_38 lf_X10_89 sk_186 rfl (by decide) rfl ?_
        refine J_iload_n 2 hX dX10_book_41 fz2 rfl ?_
        refine J_iald hX dX10_book_42 sk_211 ln_211 ?_
        refine J_goto (tgt := 47) hX dX10_book_43 rfl ?_
        exact J_retI hR dX10_book_47
  · refine J_bipush hX dX10_book_13 cbm_2 ?_
    exact J_retI hR dX10_book_15
set_option maxHeartbeats 4000000 in
set_option maxRecDepth 100000 in
theorem ok_X10_whyNotShape {Y : DX} {v1 : Int32}  {G : GM} {r : Int32} {G' : GM} (hf : f_X10_whyNotShape v1 G = some (r, G')) : OkI Y 4 M_X10_whyNotShape [.ref (AD Y 186), .int v1] G r G' := by
  refine okI_of (lv0 := [(0, .ref (AD Y 186)), (1, .int v1)]) (by decide +kernel) rfl (Nat.le_of_ble_eq_true rfl) ?_
  intro X Q hX hR
  have hX : CXok X Y RX10 cX10_whyNotShape 6 _ := hX
  revert hf
  show J X Y 6 Q 0 [(0, .ref (AD Y 186)), (1, .int v1)] [] G (f_X10_whyNotShape v1 G = some (r, G'))
  have K14 : ∀  (n : Nat) (v3 : Int32) (G : GM), J X Y 6 Q 14 [(0, .ref (AD Y 186)), (1, .int v1), (3, .int v3)] [] G (wl1 n (lp_X10_whyNotShape_14 v1) v3 G = some (r, G')) := by
    refine wl1_ind (R := fun v3 G φ => J X Y 6 Q 14 [(0, .ref (AD Y 186)), (1, .int v1), (3, .int v3)] [] G φ) (fun _ G φ h => J_no h) ?_
    intro kc14 hk14 v3 G
    unfold lp_X10_whyNotShape_14
    refine J_iload_n 2 hX dX10_whyNotShape_14 fz3 rfl ?_
    refine J_aload_n 0 hX dX10_whyNotShape_15 fz0 rfl ?_
    refine J_getR (b := 188) hX dX10_whyNotShape_16 lf_X10_13 sk_186 rfl (by decide) rfl ?_
    refine J_iload_n 1 hX dX10_whyNotShape_19 fz1 rfl ?_
    refine J_iald hX dX10_whyNotShape_20 sk_188 ln_188 ?_
    refine J_icmp_ge (tgt := 92) hX dX10_whyNotShape_21 rfl ?_ ?_
    · refine J_iconst hX dX10_whyNotShape_92 ci_0 ?_
      exact J_retI hR dX10_whyNotShape_93
    · refine J_aload_n 0 hX dX10_whyNotShape_24 fz0 rfl ?_
      refine J_getR (b := 189) hX dX10_whyNotShape_25 lf_X10_16 sk_186 rfl (by decide) rfl ?_
      refine J_bipush hX dX10_whyNotShape_28 cb_60 ?_
      refine J_iload_n 1 hX dX10_whyNotShape_30 fz1 rfl ?_
      refine J_imul hX dX10_whyNotShape_31 ?_
      refine J_iload_n 2 hX dX10_whyNotShape_32 fz3 rfl ?_
      refine J_iadd hX dX10_whyNotShape_33 ?_
      refine J_lald hX dX10_whyNotShape_34 sk_189 ln_189 ?_
      refine J_lt (mk := Value.long) fun x35 => ?_
      refine J_lstore (lv' := [(4, .long x35), (0, .ref (AD Y 186)), (1, .int v1), (3, .int v3)]) hX dX10_whyNotShape_35 (Nat.le_of_ble_eq_true rfl) rfl ?_
      refine J_lload 0 hX dX10_whyNotShape_37 rfl ?_
      refine J_lconst hX dX10_whyNotShape_39 fy0 ?_
      refine J_ldc2 hX dX10_whyNotShape_40 ll_X10_394 ?_
      refine J_callSI (As := [.long x35, .long (0 : Int64), .long (99 : Int64)]) (st := []) hX ms_X10_100 rfl rfl (Nat.le_of_ble_eq_true rfl) (Nat.le_of_ble_eq_true rfl) (Nat.le_of_ble_eq_true rfl) dX10_whyNotShape_43 (fun r G1 h => ok_X10_in  h) fun r43 G43 => ?_
      refine J_if_eq (tgt := 83) hX dX10_whyNotShape_46 rfl ?_ ?_
      · refine J_bipush hX dX10_whyNotShape_83 cbm_2 ?_
        exact J_retI hR dX10_whyNotShape_85
      · refine J_lload 0 hX dX10_whyNotShape_49 rfl ?_
        refine J_ldc2 hX dX10_whyNotShape_51 ll_X10_396 ?_
        refine J_ldivc hX dX10_whyNotShape_54 (by decide) ?_
        refine J_aload_n 1 hX dX10_whyNotShape_55 fz0 rfl ?_
        refine J_getR (b := 193) hX dX10_whyNotShape_56 lf_X10_34 sk_186 rfl (by decide) rfl ?_
        refine J_iconst hX dX10_whyNotShape_59 ci_1 ?_
        refine J_iald hX dX10_whyNotShape_60 sk_193 ln_193 ?_
        refine J_i2l hX dX10_whyNotShape_61 ?_
        refine J_lcmp hX dX10_whyNotShape_62 ?_
        refine J_if_ge (tgt := 83) hX dX10_whyNotShape_63 rfl ?_ ?_
        · refine J_bipush hX dX10_whyNotShape_83 cbm_2 ?_
          exact J_retI hR dX10_whyNotShape_85
        · refine J_lload 0 hX dX10_whyNotShape_66 rfl ?_
          refine J_ldc2 hX dX10_whyNotShape_68 ll_X10_396 ?_
          refine J_lremc hX dX10_whyNotShape_71 (by decide) ?_
          refine J_aload_n 1 hX dX10_whyNotShape_72 fz0 rfl ?_
          refine J_getR (b := 193) hX dX10_whyNotShape_73 lf_X10_34 sk_186 rfl (by decide) rfl ?_
          refine J_iconst hX dX10_whyNotShape_76 ci_3 ?_
          refine J_iald hX dX10_whyNotShape_77 sk_193 ln_193 ?_
          refine J_i2l hX dX10_whyNotShape_78 ?_
          refine J_lcmp hX dX10_whyNotShape_79 ?_
          refine J_if_lt (tgt := 86) hX dX10_whyNotShape_80 rfl ?_ ?_
          · refine J_iinc (lv' := [(3, .int (v3 + (1 : Int32))), (4, .long x35), (0, .ref (AD Y 186)), (1, .int v1)]) 3 hX dX10_whyNotShape_86 rfl ci_1 (Nat.le_of_ble_eq_true rfl) rfl ?_
            refine J_goto (tgt := 14) hX dX10_whyNotShape_89 rfl ?_
            refine J_sub (lv' := [(0, .ref (AD Y 186)), (1, .int v1), (3, .int (v3 + (1 : Int32)))]) [2, 3, 0] rfl ?_
            exact hk14 (v3 + (1 : Int32)) G43
          · refine J_bipush hX dX10_whyNotShape_83 cbm_2 ?_
            exact J_retI hR dX10_whyNotShape_85
  unfold f_X10_whyNotShape
  refine J_aload_n 0 hX dX10_whyNotShape_0 fz0 rfl ?_
  refine J_iload_n 1 hX dX10_whyNotShape_1 fz1 rfl ?_
  refine J_callVI (As := [.int v1]) (st := []) (b := 186) hX mv_X10_339 sk_186 rfl rfl rfl (Nat.le_of_ble_eq_true rfl) (Nat.le_of_ble_eq_true rfl) (Nat.le_of_ble_eq_true rfl) dX10_whyNotShape_2 (fun r G1 h => ok_X10_whyNot  h) fun r2 G2 => ?_
  refine J_istore_n (lv' := [(2, .int r2), (0, .ref (AD Y 186)), (1, .int v1)]) hX dX10_whyNotShape_5 fz2 (Nat.le_of_ble_eq_true rfl) rfl ?_
  refine J_iload_n 0 hX dX10_whyNotShape_6 fz2 rfl ?_
  refine J_if_eq (tgt := 12) hX dX10_whyNotShape_7 rfl ?_ ?_
  · refine J_iconst hX dX10_whyNotShape_12 ci_0 ?_
    refine J_istore_n (lv' := [(3, .int (0 : Int32)), (2, .int r2), (0, .ref (AD Y 186)), (1, .int v1)]) hX dX10_whyNotShape_13 fz3 (Nat.le_of_ble_eq_true rfl) rfl ?_
    refine J_sub (lv' := [(0, .ref (AD Y 186)), (1, .int v1), (3, .int (0 : Int32))]) [2, 3, 0] rfl ?_
    exact K14  FU (0 : Int32) G2
  · refine J_iload_n 0 hX dX10_whyNotShape_10 fz2 rfl ?_
    exact J_retI hR dX10_whyNotShape_11
set_option maxHeartbeats 4000000 in
set_option maxRecDepth 100000 in
theorem ok_X10_later {Y : DX} {v1 : Int32} {v2 : Int32}  {G : GM} {r : Int32} {G' : GM} (hf : f_X10_later v1 v2 G = some (r, G')) : OkI Y 5 M_X10_later [.ref (AD Y 186), .int v1, .int v2] G r G' := by
  refine okI_of (lv0 := [(0, .ref (AD Y 186)), (1, .int v1), (2, .int v2)]) (by decide +kernel) rfl (Nat.le_of_ble_eq_true rfl) ?_
  intro X Q hX hR
  have hX : CXok X Y RX10 cX10_later 3 _ := hX
  revert hf
  show J X Y 3 Q 0 [(0, .ref (AD Y 186)), (1, .int v1), (2, .int v2)] [] G (f_X10_later v1 v2 G = some (r, G'))
  unfold f_X10_later
  refine J_iload_n 2 hX dX10_later_0 fz2 rfl ?_
  refine J_if_le (tgt := 23) hX dX10_later_1 rfl ?_ ?_
  · refine J_iload_n 1 hX dX10_later_23 fz1 rfl ?_
    exact J_retI hR dX10_later_24
  · refine J_aload_n 0 hX dX10_later_4 fz0 rfl ?_
    refine J_iconst hX dX10_later_5 ci_0 ?_
    refine J_iload_n 2 hX dX10_later_6 fz2 rfl ?_
    refine J_callVI (As := [.int (0 : Int32), .int v2]) (st := []) (b := 186) hX mv_X10_350 sk_186 rfl rfl rfl (Nat.le_of_ble_eq_true rfl) (Nat.le_of_ble_eq_true rfl) (Nat.le_of_ble_eq_true rfl) dX10_later_7 (fun r G1 h => ok_X10_calledIn  h) fun r7 G7 => ?_
    refine J_iload_n 1 hX dX10_later_10 fz1 rfl ?_
    refine J_icmp_le (tgt := 23) hX dX10_later_11 rfl ?_ ?_
    · refine J_iload_n 1 hX dX10_later_23 fz1 rfl ?_
      exact J_retI hR dX10_later_24
    · refine J_aload_n 0 hX dX10_later_14 fz0 rfl ?_
      refine J_iconst hX dX10_later_15 ci_0 ?_
      refine J_iload_n 2 hX dX10_later_16 fz2 rfl ?_
      refine J_callVI (As := [.int (0 : Int32), .int v2]) (st := []) (b := 186) hX mv_X10_350 sk_186 rfl rfl rfl (Nat.le_of_ble_eq_true rfl) (Nat.le_of_ble_eq_true rfl) (Nat.le_of_ble_eq_true rfl) dX10_later_17 (fun r G1 h => ok_X10_calledIn  h) fun r17 G17 => ?_
      refine J_goto (tgt := 24) hX dX10_later_20 rfl ?_
      exact J_retI hR dX10_later_24
set_option maxHeartbeats 4000000 in
set_option maxRecDepth 100000 in
theorem ok_X10_shapedOf {Y : DX} {v1 : Int32} {v2 : Int32}  {G : GM} {r : Int32} {G' : GM} (hf : f_X10_shapedOf v1 v2 G = some (r, G')) : OkI Y 6 M_X10_shapedOf [.ref (AD Y 186), .int v1, .int v2] G r G' := by
  refine okI_of (lv0 := [(0, .ref (AD Y 186)), (1, .int v1), (2, .int v2)]) (by decide +kernel) rfl (Nat.le_of_ble_eq_true rfl) ?_
  intro X Q hX hR
  have hX : CXok X Y RX10 cX10_shapedOf 6 _ := hX
  revert hf
  show J X Y 6 Q 0 [(0, .ref (AD Y 186)), (1, .int v1), (2, .int v2)] [] G (f_X10_shapedOf v1 v2 G = some (r, G'))
  have K5 : ∀  (n : Nat) (v3 : Int32) (v4 : Int32) (G : GM), J X Y 6 Q 5 [(0, .ref (AD Y 186)), (1, .int v1), (2, .int v2), (3, .int v3), (4, .int v4)] [] G (wl2 n (lp_X10_shapedOf_5 v1 v2) v3 v4 G = some (r, G')) := by
    refine wl2_ind (R := fun v3 v4 G φ => J X Y 6 Q 5 [(0, .ref (AD Y 186)), (1, .int v1), (2, .int v2), (3, .int v3), (4, .int v4)] [] G φ) (fun _ _ G φ h => J_no h) ?_
    intro kc5 hk5 v3 v4 G
    unfold lp_X10_shapedOf_5
    refine J_iload 4 hX dX10_shapedOf_5 rfl ?_
    refine J_aload_n 0 hX dX10_shapedOf_7 fz0 rfl ?_
    refine J_getR (b := 188) hX dX10_shapedOf_8 lf_X10_13 sk_186 rfl (by decide) rfl ?_
    refine J_iload_n 2 hX dX10_shapedOf_11 fz2 rfl ?_
    refine J_iald hX dX10_shapedOf_12 sk_188 ln_188 ?_
    refine J_icmp_ge (tgt := 64) hX dX10_shapedOf_13 rfl ?_ ?_
    · refine J_iload_n 3 hX dX10_shapedOf_64 fz3 rfl ?_
      exact J_retI hR dX10_shapedOf_65
    · refine J_aload_n 0 hX dX10_shapedOf_16 fz0 rfl ?_
      refine J_getR (b := 189) hX dX10_shapedOf_17 lf_X10_16 sk_186 rfl (by decide) rfl ?_
      refine J_bipush hX dX10_shapedOf_20 cb_60 ?_
      refine J_iload_n 2 hX dX10_shapedOf_22 fz2 rfl ?_
      refine J_imul hX dX10_shapedOf_23 ?_
      refine J_iload 4 hX dX10_shapedOf_24 rfl ?_
      refine J_iadd hX dX10_shapedOf_26 ?_
      refine J_lald hX dX10_shapedOf_27 sk_189 ln_189 ?_
      refine J_l2i hX dX10_shapedOf_28 ?_
      refine J_lt (mk := Value.int) fun x29 => ?_
      refine J_istore (lv' := [(5, .int x29), (0, .ref (AD Y 186)), (1, .int v1), (2, .int v2), (3, .int v3), (4, .int v4)]) hX dX10_shapedOf_29 (Nat.le_of_ble_eq_true rfl) rfl ?_
      refine J_aload_n 1 hX dX10_shapedOf_31 fz0 rfl ?_
      refine J_iload_n 4 hX dX10_shapedOf_32 fz3 rfl ?_
      refine J_aload_n 1 hX dX10_shapedOf_33 fz0 rfl ?_
      refine J_getR (b := 206) hX dX10_shapedOf_34 lf_X10_74 sk_186 rfl (by decide) rfl ?_
      refine J_aload_n 1 hX dX10_shapedOf_37 fz0 rfl ?_
      refine J_iconst hX dX10_shapedOf_38 ci_0 ?_
      refine J_iload_n 2 hX dX10_shapedOf_39 fz1 rfl ?_
      refine J_iload 0 hX dX10_shapedOf_40 rfl ?_
      refine J_bipush hX dX10_shapedOf_42 cb_10 ?_
      refine J_idivc hX dX10_shapedOf_44 (by decide) ?_
      refine J_iload 0 hX dX10_shapedOf_45 rfl ?_
      refine J_bipush hX dX10_shapedOf_47 cb_10 ?_
      refine J_iremc hX dX10_shapedOf_49 (by decide) ?_
      refine J_callVI (As := [.int (0 : Int32), .int v1, .int (x29 / (10 : Int32)), .int (x29 - x29 / (10 : Int32) * (10 : Int32))]) (st := [.ref (AD Y 206), .int v3, .ref (AD Y 186)]) (b := 186) hX mv_X10_314 sk_186 rfl rfl rfl (Nat.le_of_ble_eq_true rfl) (Nat.le_of_ble_eq_true rfl) (Nat.le_of_ble_eq_true rfl) dX10_shapedOf_50 (fun r G1 h => ok_X10_at  h) fun r50 G50 => ?_
      refine J_iald hX dX10_shapedOf_53 sk_206 ln_206 ?_
      refine J_callVI (As := [.int v3, .int (gI G50 206 r50.toNatClampNeg)]) (st := []) (b := 186) hX mv_X10_398 sk_186 rfl rfl rfl (Nat.le_of_ble_eq_true rfl) (Nat.le_of_ble_eq_true rfl) (Nat.le_of_ble_eq_true rfl) dX10_shapedOf_54 (fun r G1 h => ok_X10_later  h) fun r54 G54 => ?_
      refine J_istore_n (lv' := [(3, .int r54), (5, .int x29), (0, .ref (AD Y 186)), (1, .int v1), (2, .int v2), (4, .int v4)]) hX dX10_shapedOf_57 fz3 (Nat.le_of_ble_eq_true rfl) rfl ?_
      refine J_iinc (lv' := [(4, .int (v4 + (1 : Int32))), (3, .int r54), (5, .int x29), (0, .ref (AD Y 186)), (1, .int v1), (2, .int v2)]) 5 hX dX10_shapedOf_58 rfl ci_1 (Nat.le_of_ble_eq_true rfl) rfl ?_
      refine J_goto (tgt := 5) hX dX10_shapedOf_61 rfl ?_
      refine J_sub (lv' := [(0, .ref (AD Y 186)), (1, .int v1), (2, .int v2), (3, .int r54), (4, .int (v4 + (1 : Int32)))]) [3, 4, 5, 1, 0] rfl ?_
      exact hk5 r54 (v4 + (1 : Int32)) G54
  unfold f_X10_shapedOf
  refine J_iconst hX dX10_shapedOf_0 ci_0 ?_
  refine J_istore_n (lv' := [(3, .int (0 : Int32)), (0, .ref (AD Y 186)), (1, .int v1), (2, .int v2)]) hX dX10_shapedOf_1 fz3 (Nat.le_of_ble_eq_true rfl) rfl ?_
  refine J_iconst hX dX10_shapedOf_2 ci_0 ?_
  refine J_istore (lv' := [(4, .int (0 : Int32)), (3, .int (0 : Int32)), (0, .ref (AD Y 186)), (1, .int v1), (2, .int v2)]) hX dX10_shapedOf_3 (Nat.le_of_ble_eq_true rfl) rfl ?_
  refine J_sub (lv' := [(0, .ref (AD Y 186)), (1, .int v1), (2, .int v2), (3, .int (0 : Int32)), (4, .int (0 : Int32))]) [2, 3, 4, 1, 0] rfl ?_
  exact K5  FU (0 : Int32) (0 : Int32) G
set_option maxHeartbeats 4000000 in
set_option maxRecDepth 100000 in
theorem ok_X10_shaped {Y : DX} {v1 : Int32} {v2 : Int32} {v3 : Int32}  {G : GM} {r : Int32} {G' : GM} (hf : f_X10_shaped v1 v2 v3 G = some (r, G')) : OkI Y 30 M_X10_shaped [.ref (AD Y 186), .int v1, .int v2, .int v3] G r G' := by
  refine okI_of (lv0 := [(0, .ref (AD Y 186)), (1, .int v1), (2, .int v2), (3, .int v3)]) (by decide +kernel) rfl (Nat.le_of_ble_eq_true rfl) ?_
  intro X Q hX hR
  have hX : CXok X Y RX10 cX10_shaped 5 _ := hX
  revert hf
  show J X Y 5 Q 0 [(0, .ref (AD Y 186)), (1, .int v1), (2, .int v2), (3, .int v3)] [] G (f_X10_shaped v1 v2 v3 G = some (r, G'))
  unfold f_X10_shaped
  refine J_aload_n 0 hX dX10_shaped_0 fz0 rfl ?_
  refine J_iconst hX dX10_shaped_1 ci_0 ?_
  refine J_putI hX dX10_shaped_2 lf_X10_95 lpt_9_0 sk_186 rfl fun G2 => ?_
  refine J_aload_n 0 hX dX10_shaped_5 fz0 rfl ?_
  refine J_iload_n 1 hX dX10_shaped_6 fz1 rfl ?_
  refine J_callVI (As := [.int v1]) (st := []) (b := 186) hX mv_X10_342 sk_186 rfl rfl rfl (Nat.le_of_ble_eq_true rfl) (Nat.le_of_ble_eq_true rfl) (Nat.le_of_ble_eq_true rfl) dX10_shaped_7 (fun r G1 h => ok_X10_isSerial  h) fun r7 G7 => ?_
  refine J_if_eq (tgt := 21) hX dX10_shaped_10 rfl ?_ ?_
  · refine J_bipush hX dX10_shaped_21 cbm_2 ?_
    exact J_retI hR dX10_shaped_23
  · refine J_aload_n 0 hX dX10_shaped_13 fz0 rfl ?_
    refine J_iload_n 2 hX dX10_shaped_14 fz2 rfl ?_
    refine J_callVI (As := [.int v2]) (st := []) (b := 186) hX mv_X10_336 sk_186 rfl rfl rfl (Nat.le_of_ble_eq_true rfl) (Nat.le_of_ble_eq_true rfl) (Nat.le_of_ble_eq_true rfl) dX10_shaped_15 (fun r G1 h => ok_X10_isCard  h) fun r15 G15 => ?_
    refine J_if_ne (tgt := 24) hX dX10_shaped_18 rfl ?_ ?_
    · refine J_aload_n 0 hX dX10_shaped_24 fz0 rfl ?_
      refine J_iload_n 3 hX dX10_shaped_25 fz3 rfl ?_
      refine J_callVI (As := [.int v3]) (st := []) (b := 186) hX mv_X10_401 sk_186 rfl rfl rfl (Nat.le_of_ble_eq_true rfl) (Nat.le_of_ble_eq_true rfl) (Nat.le_of_ble_eq_true rfl) dX10_shaped_26 (fun r G1 h => ok_X10_whyNotShape  h) fun r26 G26 => ?_
      refine J_istore (lv' := [(4, .int r26), (0, .ref (AD Y 186)), (1, .int v1), (2, .int v2), (3, .int v3)]) hX dX10_shaped_29 (Nat.le_of_ble_eq_true rfl) rfl ?_
      refine J_iload 0 hX dX10_shaped_31 rfl ?_
      refine J_if_eq (tgt := 39) hX dX10_shaped_33 rfl ?_ ?_
      · refine J_aload_n 1 hX dX10_shaped_39 fz0 rfl ?_
        refine J_iconst hX dX10_shaped_40 ci_0 ?_
        refine J_iload_n 2 hX dX10_shaped_41 fz1 rfl ?_
        refine J_iconst hX dX10_shaped_42 ci_0 ?_
        refine J_callVV (As := [.int (0 : Int32), .int v1, .int (0 : Int32)]) (st := []) (b := 186) hX mv_X10_317 sk_186 rfl rfl rfl (Nat.le_of_ble_eq_true rfl) (Nat.le_of_ble_eq_true rfl) (Nat.le_of_ble_eq_true rfl) dX10_shaped_43 (fun G1 h => ok_X10_makes  h) fun G43 => ?_
        refine J_aload_n 1 hX dX10_shaped_46 fz0 rfl ?_
        refine J_iload_n 3 hX dX10_shaped_47 fz2 rfl ?_
        refine J_iload_n 4 hX dX10_shaped_48 fz3 rfl ?_
        refine J_callVI (As := [.int v2, .int v3]) (st := []) (b := 186) hX mv_X10_404 sk_186 rfl rfl rfl (Nat.le_of_ble_eq_true rfl) (Nat.le_of_ble_eq_true rfl) (Nat.le_of_ble_eq_true rfl) dX10_shaped_49 (fun r G1 h => ok_X10_shapedOf  h) fun r49 G49 => ?_
        exact J_retI hR dX10_shaped_52
      · refine J_iload 0 hX dX10_shaped_36 rfl ?_
        exact J_retI hR dX10_shaped_38
    · refine J_bipush hX dX10_shaped_21 cbm_2 ?_
      exact J_retI hR dX10_shaped_23
set_option maxHeartbeats 4000000 in
set_option maxRecDepth 100000 in
theorem ok_X10_shape {Y : DX} {v1 : Int32} {v2 : Int32}  {G : GM} {r : Int32} {G' : GM} (hf : f_X10_shape v1 v2 G = some (r, G')) : OkI Y 30 M_X10_shape [.ref (AD Y 186), .int v1, .int v2] G r G' := by
  refine okI_of (lv0 := [(0, .ref (AD Y 186)), (1, .int v1), (2, .int v2)]) (by decide +kernel) rfl (Nat.le_of_ble_eq_true rfl) ?_
  intro X Q hX hR
  have hX : CXok X Y RX10 cX10_shape 9 _ := hX
  revert hf
  show J X Y 9 Q 0 [(0, .ref (AD Y 186)), (1, .int v1), (2, .int v2)] [] G (f_X10_shape v1 v2 G = some (r, G'))
  have K41 : ∀  (n : Nat) (v4 : Int32) (v5 : Int32) (v6 : Int32) (G : GM), J X Y 9 Q 41 [(0, .ref (AD Y 186)), (1, .int v1), (2, .int v2), (4, .int v4), (5, .int v5), (6, .int v6)] [] G (wl3 n (lp_X10_shape_41 v1 v2) v4 v5 v6 G = some (r, G')) := by
    refine wl3_ind (R := fun v4 v5 v6 G φ => J X Y 9 Q 41 [(0, .ref (AD Y 186)), (1, .int v1), (2, .int v2), (4, .int v4), (5, .int v5), (6, .int v6)] [] G φ) (fun _ _ _ G φ h => J_no h) ?_
    intro kc41 hk41 v4 v5 v6 G
    unfold lp_X10_shape_41
    have K68 : ∀ (v6 : Int32) (n : Nat) (v4 : Int32) (v5 : Int32) (v7 : Int32) (G : GM), J X Y 9 Q 68 [(0, .ref (AD Y 186)), (1, .int v1), (2, .int v2), (4, .int v4), (5, .int v5), (6, .int v6), (7, .int v7)] [] G (wl3 n (lp_X10_shape_68 v1 v2 v6 kc41) v4 v5 v7 G = some (r, G')) := by
      intro v6
      refine wl3_ind (R := fun v4 v5 v7 G φ => J X Y 9 Q 68 [(0, .ref (AD Y 186)), (1, .int v1), (2, .int v2), (4, .int v4), (5, .int v5), (6, .int v6), (7, .int v7)] [] G φ) (fun _ _ _ G φ h => J_no h) ?_
      intro kc68 hk68 v4 v5 v7 G
      unfold lp_X10_shape_68
      have K104 : ∀ (v7 : Int32) (v8 : Int32) (G : GM), J X Y 9 Q 104 [(0, .ref (AD Y 186)), (1, .int v1), (2, .int v2), (6, .int v6), (7, .int v7), (8, .int v8)] [] G (k_X10_shape_104 v1 v2 v6 v7 v8 kc41 kc68 G = some (r, G')) := by
        intro v7 v8 G
        unfold k_X10_shape_104
        refine J_iload 5 hX dX10_shape_104 rfl ?_
        refine J_istore (lv' := [(4, .int v8), (0, .ref (AD Y 186)), (1, .int v1), (2, .int v2), (6, .int v6), (7, .int v7), (8, .int v8)]) hX dX10_shape_106 (Nat.le_of_ble_eq_true rfl) rfl ?_
        refine J_bipush hX dX10_shape_108 cb_10 ?_
        refine J_iload 4 hX dX10_shape_110 rfl ?_
        refine J_imul hX dX10_shape_112 ?_
        refine J_iload 5 hX dX10_shape_113 rfl ?_
        refine J_iadd hX dX10_shape_115 ?_
        refine J_lt (mk := Value.int) fun x116 => ?_
        refine J_istore (lv' := [(5, .int x116), (4, .int v8), (0, .ref (AD Y 186)), (1, .int v1), (2, .int v2), (6, .int v6), (7, .int v7), (8, .int v8)]) hX dX10_shape_116 (Nat.le_of_ble_eq_true rfl) rfl ?_
        refine J_iinc (lv' := [(7, .int (v7 + (1 : Int32))), (5, .int x116), (4, .int v8), (0, .ref (AD Y 186)), (1, .int v1), (2, .int v2), (6, .int v6), (8, .int v8)]) 6 hX dX10_shape_118 rfl ci_1 (Nat.le_of_ble_eq_true rfl) rfl ?_
        refine J_goto (tgt := 68) hX dX10_shape_121 rfl ?_
        refine J_sub (lv' := [(0, .ref (AD Y 186)), (1, .int v1), (2, .int v2), (4, .int v8), (5, .int x116), (6, .int v6), (7, .int (v7 + (1 : Int32)))]) [3, 4, 5, 2, 1, 6, 0] rfl ?_
        exact hk68 v8 x116 (v7 + (1 : Int32)) G
      refine J_iload 6 hX dX10_shape_68 rfl ?_
      refine J_aload_n 0 hX dX10_shape_70 fz0 rfl ?_
      refine J_getR (b := 193) hX dX10_shape_71 lf_X10_34 sk_186 rfl (by decide) rfl ?_
      refine J_iconst hX dX10_shape_74 ci_0 ?_
      refine J_iald hX dX10_shape_75 sk_193 ln_193 ?_
      refine J_icmp_ge (tgt := 124) hX dX10_shape_76 rfl ?_ ?_
      · refine J_iinc (lv' := [(6, .int (v6 + (1 : Int32))), (0, .ref (AD Y 186)), (1, .int v1), (2, .int v2), (4, .int v4), (5, .int v5), (7, .int v7)]) 5 hX dX10_shape_124 rfl ci_1 (Nat.le_of_ble_eq_true rfl) rfl ?_
        refine J_goto (tgt := 41) hX dX10_shape_127 rfl ?_
        refine J_sub (lv' := [(0, .ref (AD Y 186)), (1, .int v1), (2, .int v2), (4, .int v4), (5, .int v5), (6, .int (v6 + (1 : Int32)))]) [1, 2, 3, 4, 5, 0] rfl ?_
        exact hk41 v4 v5 (v6 + (1 : Int32)) G
      · refine J_aload_n 0 hX dX10_shape_79 fz0 rfl ?_
        refine J_iload 6 hX dX10_shape_80 rfl ?_
        refine J_iload_n 1 hX dX10_shape_82 fz1 rfl ?_
        refine J_callVI (As := [.int v7, .int v1]) (st := []) (b := 186) hX mv_X10_404 sk_186 rfl rfl rfl (Nat.le_of_ble_eq_true rfl) (Nat.le_of_ble_eq_true rfl) (Nat.le_of_ble_eq_true rfl) dX10_shape_83 (fun r G1 h => ok_X10_shapedOf  h) fun r83 G83 => ?_
        refine J_istore (lv' := [(8, .int r83), (0, .ref (AD Y 186)), (1, .int v1), (2, .int v2), (4, .int v4), (5, .int v5), (6, .int v6), (7, .int v7)]) hX dX10_shape_86 (Nat.le_of_ble_eq_true rfl) rfl ?_
        refine J_iload 4 hX dX10_shape_88 rfl ?_
        refine J_iconst hX dX10_shape_90 cim_1 ?_
        refine J_icmp_eq (tgt := 104) hX dX10_shape_91 rfl ?_ ?_
        · refine J_sub (lv' := [(0, .ref (AD Y 186)), (1, .int v1), (2, .int v2), (6, .int v6), (7, .int v7), (8, .int r83)]) [1, 2, 3, 6, 7, 0] rfl ?_
          exact K104 v7 r83 G83
        · refine J_iload 0 hX dX10_shape_94 rfl ?_
          refine J_iload 4 hX dX10_shape_96 rfl ?_
          refine J_icmp_lt (tgt := 104) hX dX10_shape_98 rfl ?_ ?_
          · refine J_sub (lv' := [(0, .ref (AD Y 186)), (1, .int v1), (2, .int v2), (6, .int v6), (7, .int v7), (8, .int r83)]) [1, 2, 3, 6, 7, 0] rfl ?_
            exact K104 v7 r83 G83
          · refine J_goto (tgt := 118) hX dX10_shape_101 rfl ?_
            refine J_iinc (lv' := [(7, .int (v7 + (1 : Int32))), (8, .int r83), (0, .ref (AD Y 186)), (1, .int v1), (2, .int v2), (4, .int v4), (5, .int v5), (6, .int v6)]) 7 hX dX10_shape_118 rfl ci_1 (Nat.le_of_ble_eq_true rfl) rfl ?_
            refine J_goto (tgt := 68) hX dX10_shape_121 rfl ?_
            refine J_sub (lv' := [(0, .ref (AD Y 186)), (1, .int v1), (2, .int v2), (4, .int v4), (5, .int v5), (6, .int v6), (7, .int (v7 + (1 : Int32)))]) [2, 3, 4, 5, 6, 7, 0] rfl ?_
            exact hk68 v4 v5 (v7 + (1 : Int32)) G83
    refine J_iload 5 hX dX10_shape_41 rfl ?_
    refine J_aload_n 0 hX dX10_shape_43 fz0 rfl ?_
    refine J_getR (b := 193) hX dX10_shape_44 lf_X10_34 sk_186 rfl (by decide) rfl ?_
    refine J_iconst hX dX10_shape_47 ci_4 ?_
    refine J_iald hX dX10_shape_48 sk_193 ln_193 ?_
    refine J_icmp_ge (tgt := 130) hX dX10_shape_49 rfl ?_ ?_
    · refine J_iload_n 2 hX dX10_shape_130 fz2 rfl ?_
      refine J_if_ne (tgt := 139) hX dX10_shape_131 rfl ?_ ?_
      · refine J_iload 4 hX dX10_shape_139 rfl ?_
        exact J_retI hR dX10_shape_141
      · refine J_iload 3 hX dX10_shape_134 rfl ?_
        refine J_goto (tgt := 141) hX dX10_shape_136 rfl ?_
        exact J_retI hR dX10_shape_141
    · refine J_aload_n 0 hX dX10_shape_52 fz0 rfl ?_
      refine J_iconst hX dX10_shape_53 ci_0 ?_
      refine J_aload_n 0 hX dX10_shape_54 fz0 rfl ?_
      refine J_getR (b := 196) hX dX10_shape_55 lf_X10_43 sk_186 rfl (by decide) rfl ?_
      refine J_iload 5 hX dX10_shape_58 rfl ?_
      refine J_iald hX dX10_shape_60 sk_196 ln_196 ?_
      refine J_iconst hX dX10_shape_61 ci_0 ?_
      refine J_callVV (As := [.int (0 : Int32), .int (gI G 196 v6.toNatClampNeg), .int (0 : Int32)]) (st := []) (b := 186) hX mv_X10_317 sk_186 rfl rfl rfl (Nat.le_of_ble_eq_true rfl) (Nat.le_of_ble_eq_true rfl) (Nat.le_of_ble_eq_true rfl) dX10_shape_62 (fun G1 h => ok_X10_makes  h) fun G62 => ?_
      refine J_iconst hX dX10_shape_65 ci_0 ?_
      refine J_istore (lv' := [(7, .int (0 : Int32)), (0, .ref (AD Y 186)), (1, .int v1), (2, .int v2), (4, .int v4), (5, .int v5), (6, .int v6)]) hX dX10_shape_66 (Nat.le_of_ble_eq_true rfl) rfl ?_
      refine J_sub (lv' := [(0, .ref (AD Y 186)), (1, .int v1), (2, .int v2), (4, .int v4), (5, .int v5), (6, .int v6), (7, .int (0 : Int32))]) [1, 2, 3, 4, 5, 6, 0] rfl ?_
      exact K68 v6 FU v4 v5 (0 : Int32) G62
  have K25 : ∀ (s0 : Int32) (G : GM), J X Y 9 Q 25 [(0, .ref (AD Y 186)), (1, .int v1), (2, .int v2)] [.int s0] G (k_X10_shape_25 v1 v2 s0 G = some (r, G')) := by
    intro s0 G
    unfold k_X10_shape_25
    refine J_istore_n (lv' := [(3, .int s0), (0, .ref (AD Y 186)), (1, .int v1), (2, .int v2)]) hX dX10_shape_25 fz3 (Nat.le_of_ble_eq_true rfl) rfl ?_
    refine J_iload_n 0 hX dX10_shape_26 fz3 rfl ?_
    refine J_if_eq (tgt := 32) hX dX10_shape_27 rfl ?_ ?_
    · refine J_iconst hX dX10_shape_32 cim_1 ?_
      refine J_istore (lv' := [(4, .int (-1 : Int32)), (3, .int s0), (0, .ref (AD Y 186)), (1, .int v1), (2, .int v2)]) hX dX10_shape_33 (Nat.le_of_ble_eq_true rfl) rfl ?_
      refine J_iconst hX dX10_shape_35 cim_1 ?_
      refine J_istore (lv' := [(5, .int (-1 : Int32)), (4, .int (-1 : Int32)), (3, .int s0), (0, .ref (AD Y 186)), (1, .int v1), (2, .int v2)]) hX dX10_shape_36 (Nat.le_of_ble_eq_true rfl) rfl ?_
      refine J_iconst hX dX10_shape_38 ci_0 ?_
      refine J_istore (lv' := [(6, .int (0 : Int32)), (5, .int (-1 : Int32)), (4, .int (-1 : Int32)), (3, .int s0), (0, .ref (AD Y 186)), (1, .int v1), (2, .int v2)]) hX dX10_shape_39 (Nat.le_of_ble_eq_true rfl) rfl ?_
      refine J_sub (lv' := [(0, .ref (AD Y 186)), (1, .int v1), (2, .int v2), (4, .int (-1 : Int32)), (5, .int (-1 : Int32)), (6, .int (0 : Int32))]) [4, 5, 6, 2, 1, 0] rfl ?_
      exact K41  FU (-1 : Int32) (-1 : Int32) (0 : Int32) G
    · refine J_iload_n 0 hX dX10_shape_30 fz3 rfl ?_
      exact J_retI hR dX10_shape_31
  unfold f_X10_shape
  refine J_aload_n 0 hX dX10_shape_0 fz0 rfl ?_
  refine J_iconst hX dX10_shape_1 ci_0 ?_
  refine J_putI hX dX10_shape_2 lf_X10_95 lpt_9_0 sk_186 rfl fun G2 => ?_
  refine J_iload_n 2 hX dX10_shape_5 fz2 rfl ?_
  refine J_i2l hX dX10_shape_6 ?_
  refine J_lconst hX dX10_shape_7 fy0 ?_
  refine J_lconst hX dX10_shape_8 fy1 ?_
  refine J_callSI (As := [.long (v2.toInt64), .long (0 : Int64), .long (1 : Int64)]) (st := []) hX ms_X10_100 rfl rfl (Nat.le_of_ble_eq_true rfl) (Nat.le_of_ble_eq_true rfl) (Nat.le_of_ble_eq_true rfl) dX10_shape_9 (fun r G1 h => ok_X10_in  h) fun r9 G9 => ?_
  refine J_if_eq (tgt := 23) hX dX10_shape_12 rfl ?_ ?_
  · refine J_bipush hX dX10_shape_23 cbm_2 ?_
    exact K25 (-2 : Int32) G9
  · refine J_aload_n 0 hX dX10_shape_15 fz0 rfl ?_
    refine J_iload_n 1 hX dX10_shape_16 fz1 rfl ?_
    refine J_callVI (As := [.int v1]) (st := []) (b := 186) hX mv_X10_401 sk_186 rfl rfl rfl (Nat.le_of_ble_eq_true rfl) (Nat.le_of_ble_eq_true rfl) (Nat.le_of_ble_eq_true rfl) dX10_shape_17 (fun r G1 h => ok_X10_whyNotShape  h) fun r17 G17 => ?_
    refine J_goto (tgt := 25) hX dX10_shape_20 rfl ?_
    exact K25 r17 G17
set_option maxHeartbeats 4000000 in
set_option maxRecDepth 100000 in
theorem ok_X10_endOf {Y : DX} {v1 : Int32} {v2 : Int32} {v3 : Int32}  {G : GM} {r : Int32} {G' : GM} (hf : f_X10_endOf v1 v2 v3 G = some (r, G')) : OkI Y 2 M_X10_endOf [.ref (AD Y 186), .int v1, .int v2, .int v3] G r G' := by
  refine okI_of (lv0 := [(0, .ref (AD Y 186)), (1, .int v1), (2, .int v2), (3, .int v3)]) (by decide +kernel) rfl (Nat.le_of_ble_eq_true rfl) ?_
  intro X Q hX hR
  have hX : CXok X Y RX10 cX10_endOf 5 _ := hX
  revert hf
  show J X Y 5 Q 0 [(0, .ref (AD Y 186)), (1, .int v1), (2, .int v2), (3, .int v3)] [] G (f_X10_endOf v1 v2 v3 G = some (r, G'))
  have K11 : ∀  (n : Nat) (v4 : Int32) (G : GM), J X Y 5 Q 11 [(0, .ref (AD Y 186)), (1, .int v1), (2, .int v2), (3, .int v3), (4, .int v4)] [] G (wl1 n (lp_X10_endOf_11 v1 v2 v3) v4 G = some (r, G')) := by
    refine wl1_ind (R := fun v4 G φ => J X Y 5 Q 11 [(0, .ref (AD Y 186)), (1, .int v1), (2, .int v2), (3, .int v3), (4, .int v4)] [] G φ) (fun _ G φ h => J_no h) ?_
    intro kc11 hk11 v4 G
    unfold lp_X10_endOf_11
    refine J_aload_n 0 hX dX10_endOf_11 fz0 rfl ?_
    refine J_getR (b := 206) hX dX10_endOf_12 lf_X10_74 sk_186 rfl (by decide) rfl ?_
    refine J_aload_n 0 hX dX10_endOf_15 fz0 rfl ?_
    refine J_iconst hX dX10_endOf_16 ci_0 ?_
    refine J_iload_n 1 hX dX10_endOf_17 fz1 rfl ?_
    refine J_iload_n 2 hX dX10_endOf_18 fz2 rfl ?_
    refine J_iload 4 hX dX10_endOf_19 rfl ?_
    refine J_callVI (As := [.int (0 : Int32), .int v1, .int v2, .int v4]) (st := [.ref (AD Y 206)]) (b := 186) hX mv_X10_314 sk_186 rfl rfl rfl (Nat.le_of_ble_eq_true rfl) (Nat.le_of_ble_eq_true rfl) (Nat.le_of_ble_eq_true rfl) dX10_endOf_21 (fun r G1 h => ok_X10_at  h) fun r21 G21 => ?_
    refine J_iald hX dX10_endOf_24 sk_206 ln_206 ?_
    refine J_if_ne (tgt := 37) hX dX10_endOf_25 rfl ?_ ?_
    · refine J_aload_n 0 hX dX10_endOf_37 fz0 rfl ?_
      refine J_getR (b := 206) hX dX10_endOf_38 lf_X10_74 sk_186 rfl (by decide) rfl ?_
      refine J_aload_n 0 hX dX10_endOf_41 fz0 rfl ?_
      refine J_iconst hX dX10_endOf_42 ci_0 ?_
      refine J_iload_n 1 hX dX10_endOf_43 fz1 rfl ?_
      refine J_iload_n 2 hX dX10_endOf_44 fz2 rfl ?_
      refine J_iload 4 hX dX10_endOf_45 rfl ?_
      refine J_callVI (As := [.int (0 : Int32), .int v1, .int v2, .int v4]) (st := [.ref (AD Y 206)]) (b := 186) hX mv_X10_314 sk_186 rfl rfl rfl (Nat.le_of_ble_eq_true rfl) (Nat.le_of_ble_eq_true rfl) (Nat.le_of_ble_eq_true rfl) dX10_endOf_47 (fun r G1 h => ok_X10_at  h) fun r47 G47 => ?_
      refine J_iald hX dX10_endOf_50 sk_206 ln_206 ?_
      exact J_retI hR dX10_endOf_51
    · refine J_iload 4 hX dX10_endOf_28 rfl ?_
      refine J_iload_n 3 hX dX10_endOf_30 fz3 rfl ?_
      refine J_iadd hX dX10_endOf_31 ?_
      refine J_lt (mk := Value.int) fun x32 => ?_
      refine J_istore (lv' := [(4, .int x32), (0, .ref (AD Y 186)), (1, .int v1), (2, .int v2), (3, .int v3)]) hX dX10_endOf_32 (Nat.le_of_ble_eq_true rfl) rfl ?_
      refine J_goto (tgt := 11) hX dX10_endOf_34 rfl ?_
      refine J_sub (lv' := [(0, .ref (AD Y 186)), (1, .int v1), (2, .int v2), (3, .int v3), (4, .int x32)]) [1, 2, 3, 4, 0] rfl ?_
      exact hk11 x32 G21
  have K9 : ∀ (s0 : Int32) (G : GM), J X Y 5 Q 9 [(0, .ref (AD Y 186)), (1, .int v1), (2, .int v2), (3, .int v3)] [.int s0] G (k_X10_endOf_9 v1 v2 v3 s0 G = some (r, G')) := by
    intro s0 G
    unfold k_X10_endOf_9
    refine J_istore (lv' := [(4, .int s0), (0, .ref (AD Y 186)), (1, .int v1), (2, .int v2), (3, .int v3)]) hX dX10_endOf_9 (Nat.le_of_ble_eq_true rfl) rfl ?_
    refine J_sub (lv' := [(0, .ref (AD Y 186)), (1, .int v1), (2, .int v2), (3, .int v3), (4, .int s0)]) [1, 2, 3, 4, 0] rfl ?_
    exact K11  FU s0 G
  unfold f_X10_endOf
  refine J_iload_n 3 hX dX10_endOf_0 fz3 rfl ?_
  refine J_if_le (tgt := 8) hX dX10_endOf_1 rfl ?_ ?_
  · refine J_iconst hX dX10_endOf_8 ci_4 ?_
    exact K9 (4 : Int32) G
  · refine J_iconst hX dX10_endOf_4 ci_0 ?_
    refine J_goto (tgt := 9) hX dX10_endOf_5 rfl ?_
    exact K9 (0 : Int32) G
set_option maxHeartbeats 4000000 in
set_option maxRecDepth 100000 in
theorem ok_X10_corners {Y : DX} {v1 : Int32} {v2 : Int32}  {G : GM} {r : Int32} {G' : GM} (hf : f_X10_corners v1 v2 G = some (r, G')) : OkI Y 30 M_X10_corners [.ref (AD Y 186), .int v1, .int v2] G r G' := by
  refine okI_of (lv0 := [(0, .ref (AD Y 186)), (1, .int v1), (2, .int v2)]) (by decide +kernel) rfl (Nat.le_of_ble_eq_true rfl) ?_
  intro X Q hX hR
  have hX : CXok X Y RX10 cX10_corners 4 _ := hX
  revert hf
  show J X Y 4 Q 0 [(0, .ref (AD Y 186)), (1, .int v1), (2, .int v2)] [] G (f_X10_corners v1 v2 G = some (r, G'))
  unfold f_X10_corners
  refine J_aload_n 0 hX dX10_corners_0 fz0 rfl ?_
  refine J_iconst hX dX10_corners_1 ci_0 ?_
  refine J_putI hX dX10_corners_2 lf_X10_95 lpt_9_0 sk_186 rfl fun G2 => ?_
  refine J_aload_n 0 hX dX10_corners_5 fz0 rfl ?_
  refine J_iload_n 1 hX dX10_corners_6 fz1 rfl ?_
  refine J_callVI (As := [.int v1]) (st := []) (b := 186) hX mv_X10_342 sk_186 rfl rfl rfl (Nat.le_of_ble_eq_true rfl) (Nat.le_of_ble_eq_true rfl) (Nat.le_of_ble_eq_true rfl) dX10_corners_7 (fun r G1 h => ok_X10_isSerial  h) fun r7 G7 => ?_
  refine J_if_eq (tgt := 21) hX dX10_corners_10 rfl ?_ ?_
  · refine J_bipush hX dX10_corners_21 cbm_2 ?_
    exact J_retI hR dX10_corners_23
  · refine J_aload_n 0 hX dX10_corners_13 fz0 rfl ?_
    refine J_iload_n 2 hX dX10_corners_14 fz2 rfl ?_
    refine J_callVI (As := [.int v2]) (st := []) (b := 186) hX mv_X10_336 sk_186 rfl rfl rfl (Nat.le_of_ble_eq_true rfl) (Nat.le_of_ble_eq_true rfl) (Nat.le_of_ble_eq_true rfl) dX10_corners_15 (fun r G1 h => ok_X10_isCard  h) fun r15 G15 => ?_
    refine J_if_ne (tgt := 24) hX dX10_corners_18 rfl ?_ ?_
    · refine J_aload_n 0 hX dX10_corners_24 fz0 rfl ?_
      refine J_iconst hX dX10_corners_25 ci_0 ?_
      refine J_iload_n 1 hX dX10_corners_26 fz1 rfl ?_
      refine J_iconst hX dX10_corners_27 ci_0 ?_
      refine J_callVV (As := [.int (0 : Int32), .int v1, .int (0 : Int32)]) (st := []) (b := 186) hX mv_X10_317 sk_186 rfl rfl rfl (Nat.le_of_ble_eq_true rfl) (Nat.le_of_ble_eq_true rfl) (Nat.le_of_ble_eq_true rfl) dX10_corners_28 (fun G1 h => ok_X10_makes  h) fun G28 => ?_
      refine J_aload_n 0 hX dX10_corners_31 fz0 rfl ?_
      refine J_getR (b := 193) hX dX10_corners_32 lf_X10_34 sk_186 rfl (by decide) rfl ?_
      refine J_iconst hX dX10_corners_35 ci_1 ?_
      refine J_iald hX dX10_corners_36 sk_193 ln_193 ?_
      refine J_iconst hX dX10_corners_37 ci_1 ?_
      refine J_isub hX dX10_corners_38 ?_
      refine J_lt (mk := Value.int) fun x39 => ?_
      refine J_istore_n (lv' := [(3, .int x39), (0, .ref (AD Y 186)), (1, .int v1), (2, .int v2)]) hX dX10_corners_39 fz3 (Nat.le_of_ble_eq_true rfl) rfl ?_
      refine J_aload_n 1 hX dX10_corners_40 fz0 rfl ?_
      refine J_aload_n 1 hX dX10_corners_41 fz0 rfl ?_
      refine J_aload_n 1 hX dX10_corners_42 fz0 rfl ?_
      refine J_aload_n 1 hX dX10_corners_43 fz0 rfl ?_
      refine J_iconst hX dX10_corners_44 ci_0 ?_
      refine J_aload_n 1 hX dX10_corners_45 fz0 rfl ?_
      refine J_iload_n 3 hX dX10_corners_46 fz2 rfl ?_
      refine J_iconst hX dX10_corners_47 ci_0 ?_
      refine J_iconst hX dX10_corners_48 ci_1 ?_
      refine J_callVI (As := [.int v2, .int (0 : Int32), .int (1 : Int32)]) (st := [.int (0 : Int32), .ref (AD Y 186), .ref (AD Y 186), .ref (AD Y 186), .ref (AD Y 186)]) (b := 186) hX mv_X10_407 sk_186 rfl rfl rfl (Nat.le_of_ble_eq_true rfl) (Nat.le_of_ble_eq_true rfl) (Nat.le_of_ble_eq_true rfl) dX10_corners_49 (fun r G1 h => ok_X10_endOf  h) fun r49 G49 => ?_
      refine J_callVI (As := [.int (0 : Int32), .int r49]) (st := [.ref (AD Y 186), .ref (AD Y 186), .ref (AD Y 186)]) (b := 186) hX mv_X10_398 sk_186 rfl rfl rfl (Nat.le_of_ble_eq_true rfl) (Nat.le_of_ble_eq_true rfl) (Nat.le_of_ble_eq_true rfl) dX10_corners_52 (fun r G1 h => ok_X10_later  h) fun r52 G52 => ?_
      refine J_aload_n 1 hX dX10_corners_55 fz0 rfl ?_
      refine J_iload_n 3 hX dX10_corners_56 fz2 rfl ?_
      refine J_iconst hX dX10_corners_57 ci_0 ?_
      refine J_iconst hX dX10_corners_58 cim_1 ?_
      refine J_callVI (As := [.int v2, .int (0 : Int32), .int (-1 : Int32)]) (st := [.int r52, .ref (AD Y 186), .ref (AD Y 186), .ref (AD Y 186)]) (b := 186) hX mv_X10_407 sk_186 rfl rfl rfl (Nat.le_of_ble_eq_true rfl) (Nat.le_of_ble_eq_true rfl) (Nat.le_of_ble_eq_true rfl) dX10_corners_59 (fun r G1 h => ok_X10_endOf  h) fun r59 G59 => ?_
      refine J_callVI (As := [.int r52, .int r59]) (st := [.ref (AD Y 186), .ref (AD Y 186)]) (b := 186) hX mv_X10_398 sk_186 rfl rfl rfl (Nat.le_of_ble_eq_true rfl) (Nat.le_of_ble_eq_true rfl) (Nat.le_of_ble_eq_true rfl) dX10_corners_62 (fun r G1 h => ok_X10_later  h) fun r62 G62 => ?_
      refine J_aload_n 1 hX dX10_corners_65 fz0 rfl ?_
      refine J_iload_n 3 hX dX10_corners_66 fz2 rfl ?_
      refine J_iload_n 0 hX dX10_corners_67 fz3 rfl ?_
      refine J_iconst hX dX10_corners_68 ci_1 ?_
      refine J_callVI (As := [.int v2, .int x39, .int (1 : Int32)]) (st := [.int r62, .ref (AD Y 186), .ref (AD Y 186)]) (b := 186) hX mv_X10_407 sk_186 rfl rfl rfl (Nat.le_of_ble_eq_true rfl) (Nat.le_of_ble_eq_true rfl) (Nat.le_of_ble_eq_true rfl) dX10_corners_69 (fun r G1 h => ok_X10_endOf  h) fun r69 G69 => ?_
      refine J_callVI (As := [.int r62, .int r69]) (st := [.ref (AD Y 186)]) (b := 186) hX mv_X10_398 sk_186 rfl rfl rfl (Nat.le_of_ble_eq_true rfl) (Nat.le_of_ble_eq_true rfl) (Nat.le_of_ble_eq_true rfl) dX10_corners_72 (fun r G1 h => ok_X10_later  h) fun r72 G72 => ?_
      refine J_aload_n 1 hX dX10_corners_75 fz0 rfl ?_
      refine J_iload_n 3 hX dX10_corners_76 fz2 rfl ?_
      refine J_iload_n 0 hX dX10_corners_77 fz3 rfl ?_
      refine J_iconst hX dX10_corners_78 cim_1 ?_
      refine J_callVI (As := [.int v2, .int x39, .int (-1 : Int32)]) (st := [.int r72, .ref (AD Y 186)]) (b := 186) hX mv_X10_407 sk_186 rfl rfl rfl (Nat.le_of_ble_eq_true rfl) (Nat.le_of_ble_eq_true rfl) (Nat.le_of_ble_eq_true rfl) dX10_corners_79 (fun r G1 h => ok_X10_endOf  h) fun r79 G79 => ?_
      refine J_callVI (As := [.int r72, .int r79]) (st := []) (b := 186) hX mv_X10_398 sk_186 rfl rfl rfl (Nat.le_of_ble_eq_true rfl) (Nat.le_of_ble_eq_true rfl) (Nat.le_of_ble_eq_true rfl) dX10_corners_82 (fun r G1 h => ok_X10_later  h) fun r82 G82 => ?_
      exact J_retI hR dX10_corners_85
    · refine J_bipush hX dX10_corners_21 cbm_2 ?_
      exact J_retI hR dX10_corners_23
set_option maxHeartbeats 4000000 in
set_option maxRecDepth 100000 in
theorem ok_X10_filled {Y : DX} {v1 : Int32} {v2 : Int32} {v3 : Int32}  {G : GM} {r : Int32} {G' : GM} (hf : f_X10_filled v1 v2 v3 G = some (r, G')) : OkI Y 30 M_X10_filled [.ref (AD Y 186), .int v1, .int v2, .int v3] G r G' := by
  refine okI_of (lv0 := [(0, .ref (AD Y 186)), (1, .int v1), (2, .int v2), (3, .int v3)]) (by decide +kernel) rfl (Nat.le_of_ble_eq_true rfl) ?_
  intro X Q hX hR
  have hX : CXok X Y RX10 cX10_filled 6 _ := hX
  revert hf
  show J X Y 6 Q 0 [(0, .ref (AD Y 186)), (1, .int v1), (2, .int v2), (3, .int v3)] [] G (f_X10_filled v1 v2 v3 G = some (r, G'))
  have K45 : ∀  (n : Nat) (v4 : Int32) (v5 : Int32) (G : GM), J X Y 6 Q 45 [(0, .ref (AD Y 186)), (2, .int v2), (3, .int v3), (4, .int v4), (5, .int v5)] [] G (wl2 n (lp_X10_filled_45 v1 v2 v3) v4 v5 G = some (r, G')) := by
    refine wl2_ind (R := fun v4 v5 G φ => J X Y 6 Q 45 [(0, .ref (AD Y 186)), (2, .int v2), (3, .int v3), (4, .int v4), (5, .int v5)] [] G φ) (fun _ _ G φ h => J_no h) ?_
    intro kc45 hk45 v4 v5 G
    unfold lp_X10_filled_45
    refine J_iload 4 hX dX10_filled_45 rfl ?_
    refine J_iconst hX dX10_filled_47 ci_3 ?_
    refine J_icmp_ge (tgt := 79) hX dX10_filled_48 rfl ?_ ?_
    · refine J_iload 3 hX dX10_filled_79 rfl ?_
      exact J_retI hR dX10_filled_81
    · refine J_aload_n 0 hX dX10_filled_51 fz0 rfl ?_
      refine J_iload 3 hX dX10_filled_52 rfl ?_
      refine J_aload_n 0 hX dX10_filled_54 fz0 rfl ?_
      refine J_getR (b := 206) hX dX10_filled_55 lf_X10_74 sk_186 rfl (by decide) rfl ?_
      refine J_aload_n 0 hX dX10_filled_58 fz0 rfl ?_
      refine J_iconst hX dX10_filled_59 ci_0 ?_
      refine J_iload_n 1 hX dX10_filled_60 fz2 rfl ?_
      refine J_iload 4 hX dX10_filled_61 rfl ?_
      refine J_iload_n 2 hX dX10_filled_63 fz3 rfl ?_
      refine J_callVI (As := [.int (0 : Int32), .int v2, .int v5, .int v3]) (st := [.ref (AD Y 206), .int v4, .ref (AD Y 186)]) (b := 186) hX mv_X10_314 sk_186 rfl rfl rfl (Nat.le_of_ble_eq_true rfl) (Nat.le_of_ble_eq_true rfl) (Nat.le_of_ble_eq_true rfl) dX10_filled_64 (fun r G1 h => ok_X10_at  h) fun r64 G64 => ?_
      refine J_iald hX dX10_filled_67 sk_206 ln_206 ?_
      refine J_callVI (As := [.int v4, .int (gI G64 206 r64.toNatClampNeg)]) (st := []) (b := 186) hX mv_X10_398 sk_186 rfl rfl rfl (Nat.le_of_ble_eq_true rfl) (Nat.le_of_ble_eq_true rfl) (Nat.le_of_ble_eq_true rfl) dX10_filled_68 (fun r G1 h => ok_X10_later  h) fun r68 G68 => ?_
      refine J_istore (lv' := [(4, .int r68), (0, .ref (AD Y 186)), (2, .int v2), (3, .int v3), (5, .int v5)]) hX dX10_filled_71 (Nat.le_of_ble_eq_true rfl) rfl ?_
      refine J_iinc (lv' := [(5, .int (v5 + (1 : Int32))), (4, .int r68), (0, .ref (AD Y 186)), (2, .int v2), (3, .int v3)]) 4 hX dX10_filled_73 rfl ci_1 (Nat.le_of_ble_eq_true rfl) rfl ?_
      refine J_goto (tgt := 45) hX dX10_filled_76 rfl ?_
      refine J_sub (lv' := [(0, .ref (AD Y 186)), (2, .int v2), (3, .int v3), (4, .int r68), (5, .int (v5 + (1 : Int32)))]) [2, 3, 4, 1, 0] rfl ?_
      exact hk45 r68 (v5 + (1 : Int32)) G68
  unfold f_X10_filled
  refine J_aload_n 0 hX dX10_filled_0 fz0 rfl ?_
  refine J_iconst hX dX10_filled_1 ci_0 ?_
  refine J_putI hX dX10_filled_2 lf_X10_95 lpt_9_0 sk_186 rfl fun G2 => ?_
  refine J_aload_n 0 hX dX10_filled_5 fz0 rfl ?_
  refine J_iload_n 1 hX dX10_filled_6 fz1 rfl ?_
  refine J_callVI (As := [.int v1]) (st := []) (b := 186) hX mv_X10_342 sk_186 rfl rfl rfl (Nat.le_of_ble_eq_true rfl) (Nat.le_of_ble_eq_true rfl) (Nat.le_of_ble_eq_true rfl) dX10_filled_7 (fun r G1 h => ok_X10_isSerial  h) fun r7 G7 => ?_
  refine J_if_eq (tgt := 29) hX dX10_filled_10 rfl ?_ ?_
  · refine J_bipush hX dX10_filled_29 cbm_2 ?_
    exact J_retI hR dX10_filled_31
  · refine J_aload_n 0 hX dX10_filled_13 fz0 rfl ?_
    refine J_iload_n 2 hX dX10_filled_14 fz2 rfl ?_
    refine J_callVI (As := [.int v2]) (st := []) (b := 186) hX mv_X10_336 sk_186 rfl rfl rfl (Nat.le_of_ble_eq_true rfl) (Nat.le_of_ble_eq_true rfl) (Nat.le_of_ble_eq_true rfl) dX10_filled_15 (fun r G1 h => ok_X10_isCard  h) fun r15 G15 => ?_
    refine J_if_eq (tgt := 29) hX dX10_filled_18 rfl ?_ ?_
    · refine J_bipush hX dX10_filled_29 cbm_2 ?_
      exact J_retI hR dX10_filled_31
    · refine J_aload_n 0 hX dX10_filled_21 fz0 rfl ?_
      refine J_iload_n 3 hX dX10_filled_22 fz3 rfl ?_
      refine J_callVI (As := [.int v3]) (st := []) (b := 186) hX mv_X10_329 sk_186 rfl rfl rfl (Nat.le_of_ble_eq_true rfl) (Nat.le_of_ble_eq_true rfl) (Nat.le_of_ble_eq_true rfl) dX10_filled_23 (fun r G1 h => ok_X10_isColumn  h) fun r23 G23 => ?_
      refine J_if_ne (tgt := 32) hX dX10_filled_26 rfl ?_ ?_
      · refine J_aload_n 0 hX dX10_filled_32 fz0 rfl ?_
        refine J_iconst hX dX10_filled_33 ci_0 ?_
        refine J_iload_n 1 hX dX10_filled_34 fz1 rfl ?_
        refine J_iconst hX dX10_filled_35 ci_0 ?_
        refine J_callVV (As := [.int (0 : Int32), .int v1, .int (0 : Int32)]) (st := []) (b := 186) hX mv_X10_317 sk_186 rfl rfl rfl (Nat.le_of_ble_eq_true rfl) (Nat.le_of_ble_eq_true rfl) (Nat.le_of_ble_eq_true rfl) dX10_filled_36 (fun G1 h => ok_X10_makes  h) fun G36 => ?_
        refine J_iconst hX dX10_filled_39 ci_0 ?_
        refine J_istore (lv' := [(4, .int (0 : Int32)), (0, .ref (AD Y 186)), (1, .int v1), (2, .int v2), (3, .int v3)]) hX dX10_filled_40 (Nat.le_of_ble_eq_true rfl) rfl ?_
        refine J_iconst hX dX10_filled_42 ci_0 ?_
        refine J_istore (lv' := [(5, .int (0 : Int32)), (4, .int (0 : Int32)), (0, .ref (AD Y 186)), (1, .int v1), (2, .int v2), (3, .int v3)]) hX dX10_filled_43 (Nat.le_of_ble_eq_true rfl) rfl ?_
        refine J_sub (lv' := [(0, .ref (AD Y 186)), (2, .int v2), (3, .int v3), (4, .int (0 : Int32)), (5, .int (0 : Int32))]) [2, 4, 5, 1, 0] rfl ?_
        exact K45  FU (0 : Int32) (0 : Int32) G36
      · refine J_bipush hX dX10_filled_29 cbm_2 ?_
        exact J_retI hR dX10_filled_31
set_option maxHeartbeats 4000000 in
set_option maxRecDepth 100000 in
theorem ok_X10_last {Y : DX} {v1 : Int32} {v2 : Int32}  {G : GM} {r : Int32} {G' : GM} (hf : f_X10_last v1 v2 G = some (r, G')) : OkI Y 30 M_X10_last [.ref (AD Y 186), .int v1, .int v2] G r G' := by
  refine okI_of (lv0 := [(0, .ref (AD Y 186)), (1, .int v1), (2, .int v2)]) (by decide +kernel) rfl (Nat.le_of_ble_eq_true rfl) ?_
  intro X Q hX hR
  have hX : CXok X Y RX10 cX10_last 5 _ := hX
  revert hf
  show J X Y 5 Q 0 [(0, .ref (AD Y 186)), (1, .int v1), (2, .int v2)] [] G (f_X10_last v1 v2 G = some (r, G'))
  have K36 : ∀  (n : Nat) (v3 : Int32) (v4 : Int32) (G : GM), J X Y 5 Q 36 [(0, .ref (AD Y 186)), (2, .int v2), (3, .int v3), (4, .int v4)] [] G (wl2 n (lp_X10_last_36 v1 v2) v3 v4 G = some (r, G')) := by
    refine wl2_ind (R := fun v3 v4 G φ => J X Y 5 Q 36 [(0, .ref (AD Y 186)), (2, .int v2), (3, .int v3), (4, .int v4)] [] G φ) (fun _ _ G φ h => J_no h) ?_
    intro kc36 hk36 v3 v4 G
    unfold lp_X10_last_36
    refine J_iload 3 hX dX10_last_36 rfl ?_
    refine J_bipush hX dX10_last_38 cb_15 ?_
    refine J_icmp_ge (tgt := 67) hX dX10_last_40 rfl ?_ ?_
    · refine J_aload_n 0 hX dX10_last_67 fz0 rfl ?_
      refine J_getR (b := 197) hX dX10_last_68 lf_X10_46 sk_186 rfl (by decide) rfl ?_
      refine J_iload_n 2 hX dX10_last_71 fz3 rfl ?_
      refine J_iconst hX dX10_last_72 ci_1 ?_
      refine J_isub hX dX10_last_73 ?_
      refine J_iald hX dX10_last_74 sk_197 ln_197 ?_
      exact J_retI hR dX10_last_75
    · refine J_aload_n 0 hX dX10_last_43 fz0 rfl ?_
      refine J_iload_n 2 hX dX10_last_44 fz3 rfl ?_
      refine J_aload_n 0 hX dX10_last_45 fz0 rfl ?_
      refine J_getR (b := 206) hX dX10_last_46 lf_X10_74 sk_186 rfl (by decide) rfl ?_
      refine J_bipush hX dX10_last_49 cb_15 ?_
      refine J_iload_n 1 hX dX10_last_51 fz2 rfl ?_
      refine J_imul hX dX10_last_52 ?_
      refine J_iload 3 hX dX10_last_53 rfl ?_
      refine J_iadd hX dX10_last_55 ?_
      refine J_iald hX dX10_last_56 sk_206 ln_206 ?_
      refine J_callVI (As := [.int v3, .int (gI G 206 (((15 : Int32) * v2) + v4).toNatClampNeg)]) (st := []) (b := 186) hX mv_X10_398 sk_186 rfl rfl rfl (Nat.le_of_ble_eq_true rfl) (Nat.le_of_ble_eq_true rfl) (Nat.le_of_ble_eq_true rfl) dX10_last_57 (fun r G1 h => ok_X10_later  h) fun r57 G57 => ?_
      refine J_istore_n (lv' := [(3, .int r57), (0, .ref (AD Y 186)), (2, .int v2), (4, .int v4)]) hX dX10_last_60 fz3 (Nat.le_of_ble_eq_true rfl) rfl ?_
      refine J_iinc (lv' := [(4, .int (v4 + (1 : Int32))), (3, .int r57), (0, .ref (AD Y 186)), (2, .int v2)]) 3 hX dX10_last_61 rfl ci_1 (Nat.le_of_ble_eq_true rfl) rfl ?_
      refine J_goto (tgt := 36) hX dX10_last_64 rfl ?_
      refine J_sub (lv' := [(0, .ref (AD Y 186)), (2, .int v2), (3, .int r57), (4, .int (v4 + (1 : Int32)))]) [2, 3, 1, 0] rfl ?_
      exact hk36 r57 (v4 + (1 : Int32)) G57
  unfold f_X10_last
  refine J_aload_n 0 hX dX10_last_0 fz0 rfl ?_
  refine J_iconst hX dX10_last_1 ci_0 ?_
  refine J_putI hX dX10_last_2 lf_X10_95 lpt_9_0 sk_186 rfl fun G2 => ?_
  refine J_aload_n 0 hX dX10_last_5 fz0 rfl ?_
  refine J_iload_n 1 hX dX10_last_6 fz1 rfl ?_
  refine J_callVI (As := [.int v1]) (st := []) (b := 186) hX mv_X10_342 sk_186 rfl rfl rfl (Nat.le_of_ble_eq_true rfl) (Nat.le_of_ble_eq_true rfl) (Nat.le_of_ble_eq_true rfl) dX10_last_7 (fun r G1 h => ok_X10_isSerial  h) fun r7 G7 => ?_
  refine J_if_eq (tgt := 21) hX dX10_last_10 rfl ?_ ?_
  · refine J_bipush hX dX10_last_21 cbm_2 ?_
    exact J_retI hR dX10_last_23
  · refine J_aload_n 0 hX dX10_last_13 fz0 rfl ?_
    refine J_iload_n 2 hX dX10_last_14 fz2 rfl ?_
    refine J_callVI (As := [.int v2]) (st := []) (b := 186) hX mv_X10_336 sk_186 rfl rfl rfl (Nat.le_of_ble_eq_true rfl) (Nat.le_of_ble_eq_true rfl) (Nat.le_of_ble_eq_true rfl) dX10_last_15 (fun r G1 h => ok_X10_isCard  h) fun r15 G15 => ?_
    refine J_if_ne (tgt := 24) hX dX10_last_18 rfl ?_ ?_
    · refine J_aload_n 0 hX dX10_last_24 fz0 rfl ?_
      refine J_iconst hX dX10_last_25 ci_0 ?_
      refine J_iload_n 1 hX dX10_last_26 fz1 rfl ?_
      refine J_iconst hX dX10_last_27 ci_0 ?_
      refine J_callVV (As := [.int (0 : Int32), .int v1, .int (0 : Int32)]) (st := []) (b := 186) hX mv_X10_317 sk_186 rfl rfl rfl (Nat.le_of_ble_eq_true rfl) (Nat.le_of_ble_eq_true rfl) (Nat.le_of_ble_eq_true rfl) dX10_last_28 (fun G1 h => ok_X10_makes  h) fun G28 => ?_
      refine J_iconst hX dX10_last_31 ci_0 ?_
      refine J_istore_n (lv' := [(3, .int (0 : Int32)), (0, .ref (AD Y 186)), (1, .int v1), (2, .int v2)]) hX dX10_last_32 fz3 (Nat.le_of_ble_eq_true rfl) rfl ?_
      refine J_iconst hX dX10_last_33 ci_0 ?_
      refine J_istore (lv' := [(4, .int (0 : Int32)), (3, .int (0 : Int32)), (0, .ref (AD Y 186)), (1, .int v1), (2, .int v2)]) hX dX10_last_34 (Nat.le_of_ble_eq_true rfl) rfl ?_
      refine J_sub (lv' := [(0, .ref (AD Y 186)), (2, .int v2), (3, .int (0 : Int32)), (4, .int (0 : Int32))]) [2, 4, 1, 0] rfl ?_
      exact K36  FU (0 : Int32) (0 : Int32) G28
    · refine J_bipush hX dX10_last_21 cbm_2 ?_
      exact J_retI hR dX10_last_23
set_option maxHeartbeats 4000000 in
set_option maxRecDepth 100000 in
theorem ok_X10_isBy {Y : DX} {v1 : Int32} {v2 : Int32}  {G : GM} {r : Int32} {G' : GM} (hf : f_X10_isBy v1 v2 G = some (r, G')) : OkI Y 4 M_X10_isBy [.ref (AD Y 186), .int v1, .int v2] G r G' := by
  refine okZ_of (lv0 := [(0, .ref (AD Y 186)), (1, .int v1), (2, .int v2)]) (by decide +kernel) rfl (Nat.le_of_ble_eq_true rfl) ?_
  intro X Q hX hR
  have hX : CXok X Y RX10 cX10_isBy 3 _ := hX
  revert hf
  show J X Y 3 Q 0 [(0, .ref (AD Y 186)), (1, .int v1), (2, .int v2)] [] G (f_X10_isBy v1 v2 G = some (r, G'))
  unfold f_X10_isBy
  refine J_aload_n 0 hX dX10_isBy_0 fz0 rfl ?_
  refine J_callVI (As := []) (st := []) (b := 186) hX mv_X10_324 sk_186 rfl rfl rfl (Nat.le_of_ble_eq_true rfl) (Nat.le_of_ble_eq_true rfl) (Nat.le_of_ble_eq_true rfl) dX10_isBy_1 (fun r G1 h => ok_X10_isHall  h) fun r1 G1 => ?_
  refine J_if_eq (tgt := 32) hX dX10_isBy_4 rfl ?_ ?_
  · refine J_iconst hX dX10_isBy_32 ci_0 ?_
    exact J_retZ hR (by decide) dX10_isBy_33
  · refine J_iload_n 1 hX dX10_isBy_7 fz1 rfl ?_
    refine J_callSI (As := [.int v1]) (st := []) hX ms_X10_361 rfl rfl (Nat.le_of_ble_eq_true rfl) (Nat.le_of_ble_eq_true rfl) (Nat.le_of_ble_eq_true rfl) dX10_isBy_8 (fun r G1 h => ok_X10_isKind  h) fun r8 G8 => ?_
    refine J_if_eq (tgt := 32) hX dX10_isBy_11 rfl ?_ ?_
    · refine J_iconst hX dX10_isBy_32 ci_0 ?_
      exact J_retZ hR (by decide) dX10_isBy_33
    · refine J_iload_n 2 hX dX10_isBy_14 fz2 rfl ?_
      refine J_i2l hX dX10_isBy_15 ?_
      refine J_lconst hX dX10_isBy_16 fy0 ?_
      refine J_aload_n 0 hX dX10_isBy_17 fz0 rfl ?_
      refine J_callVI (As := []) (st := [.long (0 : Int64), .long (v2.toInt64)]) (b := 186) hX mv_X10_332 sk_186 rfl rfl rfl (Nat.le_of_ble_eq_true rfl) (Nat.le_of_ble_eq_true rfl) (Nat.le_of_ble_eq_true rfl) dX10_isBy_18 (fun r G1 h => ok_X10_all  h) fun r18 G18 => ?_
      refine J_i2l hX dX10_isBy_21 ?_
      refine J_callSI (As := [.long (v2.toInt64), .long (0 : Int64), .long (r18.toInt64)]) (st := []) hX ms_X10_100 rfl rfl (Nat.le_of_ble_eq_true rfl) (Nat.le_of_ble_eq_true rfl) (Nat.le_of_ble_eq_true rfl) dX10_isBy_22 (fun r G1 h => ok_X10_in  h) fun r22 G22 => ?_
      refine J_if_eq (tgt := 32) hX dX10_isBy_25 rfl ?_ ?_
      · refine J_iconst hX dX10_isBy_32 ci_0 ?_
        exact J_retZ hR (by decide) dX10_isBy_33
      · refine J_iconst hX dX10_isBy_28 ci_1 ?_
        refine J_goto (tgt := 33) hX dX10_isBy_29 rfl ?_
        exact J_retZ hR (by decide) dX10_isBy_33
set_option maxHeartbeats 4000000 in
set_option maxRecDepth 100000 in
theorem ok_X10_sweat {Y : DX} {v1 : Int32} {v2 : Int32}  {G : GM} {r : Int32} {G' : GM} (hf : f_X10_sweat v1 v2 G = some (r, G')) : OkI Y 30 M_X10_sweat [.ref (AD Y 186), .int v1, .int v2] G r G' := by
  refine okI_of (lv0 := [(0, .ref (AD Y 186)), (1, .int v1), (2, .int v2)]) (by decide +kernel) rfl (Nat.le_of_ble_eq_true rfl) ?_
  intro X Q hX hR
  have hX : CXok X Y RX10 cX10_sweat 6 _ := hX
  revert hf
  show J X Y 6 Q 0 [(0, .ref (AD Y 186)), (1, .int v1), (2, .int v2)] [] G (f_X10_sweat v1 v2 G = some (r, G'))
  have K22 : ∀  (n : Nat) (v3 : Int32) (v4 : Int32) (G : GM), J X Y 6 Q 22 [(0, .ref (AD Y 186)), (1, .int v1), (2, .int v2), (3, .int v3), (4, .int v4)] [] G (wl2 n (lp_X10_sweat_22 v1 v2) v3 v4 G = some (r, G')) := by
    refine wl2_ind (R := fun v3 v4 G φ => J X Y 6 Q 22 [(0, .ref (AD Y 186)), (1, .int v1), (2, .int v2), (3, .int v3), (4, .int v4)] [] G φ) (fun _ _ G φ h => J_no h) ?_
    intro kc22 hk22 v3 v4 G
    unfold lp_X10_sweat_22
    have K49 : ∀ (v4 : Int32) (n : Nat) (v3 : Int32) (v5 : Int32) (G : GM), J X Y 6 Q 49 [(0, .ref (AD Y 186)), (1, .int v1), (2, .int v2), (3, .int v3), (4, .int v4), (5, .int v5)] [] G (wl2 n (lp_X10_sweat_49 v1 v2 v4 kc22) v3 v5 G = some (r, G')) := by
      intro v4
      refine wl2_ind (R := fun v3 v5 G φ => J X Y 6 Q 49 [(0, .ref (AD Y 186)), (1, .int v1), (2, .int v2), (3, .int v3), (4, .int v4), (5, .int v5)] [] G φ) (fun _ _ G φ h => J_no h) ?_
      intro kc49 hk49 v3 v5 G
      unfold lp_X10_sweat_49
      have K79 : ∀ (v5 : Int32) (s0 : Int32) (s1 : Int32) (G : GM), J X Y 6 Q 79 [(0, .ref (AD Y 186)), (1, .int v1), (2, .int v2), (4, .int v4), (5, .int v5)] [.int s0, .int s1] G (k_X10_sweat_79 v1 v2 v4 v5 s0 s1 kc22 kc49 G = some (r, G')) := by
        intro v5 s0 s1 G
        unfold k_X10_sweat_79
        refine J_iadd hX dX10_sweat_79 ?_
        refine J_lt (mk := Value.int) fun x80 => ?_
        refine J_istore_n (lv' := [(3, .int x80), (0, .ref (AD Y 186)), (1, .int v1), (2, .int v2), (4, .int v4), (5, .int v5)]) hX dX10_sweat_80 fz3 (Nat.le_of_ble_eq_true rfl) rfl ?_
        refine J_iinc (lv' := [(5, .int (v5 + (1 : Int32))), (3, .int x80), (0, .ref (AD Y 186)), (1, .int v1), (2, .int v2), (4, .int v4)]) 5 hX dX10_sweat_81 rfl ci_1 (Nat.le_of_ble_eq_true rfl) rfl ?_
        refine J_goto (tgt := 49) hX dX10_sweat_84 rfl ?_
        refine J_sub (lv' := [(0, .ref (AD Y 186)), (1, .int v1), (2, .int v2), (3, .int x80), (4, .int v4), (5, .int (v5 + (1 : Int32)))]) [2, 3, 4, 1, 5, 0] rfl ?_
        exact hk49 x80 (v5 + (1 : Int32)) G
      refine J_iload 5 hX dX10_sweat_49 rfl ?_
      refine J_aload_n 0 hX dX10_sweat_51 fz0 rfl ?_
      refine J_getR (b := 193) hX dX10_sweat_52 lf_X10_34 sk_186 rfl (by decide) rfl ?_
      refine J_iconst hX dX10_sweat_55 ci_0 ?_
      refine J_iald hX dX10_sweat_56 sk_193 ln_193 ?_
      refine J_icmp_ge (tgt := 87) hX dX10_sweat_57 rfl ?_ ?_
      · refine J_iinc (lv' := [(4, .int (v4 + (1 : Int32))), (0, .ref (AD Y 186)), (1, .int v1), (2, .int v2), (3, .int v3), (5, .int v5)]) 4 hX dX10_sweat_87 rfl ci_1 (Nat.le_of_ble_eq_true rfl) rfl ?_
        refine J_goto (tgt := 22) hX dX10_sweat_90 rfl ?_
        refine J_sub (lv' := [(0, .ref (AD Y 186)), (1, .int v1), (2, .int v2), (3, .int v3), (4, .int (v4 + (1 : Int32)))]) [1, 2, 3, 4, 0] rfl ?_
        exact hk22 v3 (v4 + (1 : Int32)) G
      · refine J_iload_n 3 hX dX10_sweat_60 fz3 rfl ?_
        refine J_aload_n 0 hX dX10_sweat_61 fz0 rfl ?_
        refine J_iconst hX dX10_sweat_62 ci_0 ?_
        refine J_iload 5 hX dX10_sweat_63 rfl ?_
        refine J_iload_n 1 hX dX10_sweat_65 fz1 rfl ?_
        refine J_iload_n 2 hX dX10_sweat_66 fz2 rfl ?_
        refine J_callVI (As := [.int (0 : Int32), .int v5, .int v1, .int v2]) (st := [.int v3]) (b := 186) hX mv_X10_364 sk_186 rfl rfl rfl (Nat.le_of_ble_eq_true rfl) (Nat.le_of_ble_eq_true rfl) (Nat.le_of_ble_eq_true rfl) dX10_sweat_67 (fun r G1 h => ok_X10_lacksOf  h) fun r67 G67 => ?_
        refine J_iconst hX dX10_sweat_70 ci_1 ?_
        refine J_icmp_ne (tgt := 78) hX dX10_sweat_71 rfl ?_ ?_
        · refine J_iconst hX dX10_sweat_78 ci_0 ?_
          refine J_sub (lv' := [(0, .ref (AD Y 186)), (1, .int v1), (2, .int v2), (4, .int v4), (5, .int v5)]) [0, 1, 2, 4, 5] rfl ?_
          exact K79 v5 (0 : Int32) v3 G67
        · refine J_iconst hX dX10_sweat_74 ci_1 ?_
          refine J_goto (tgt := 79) hX dX10_sweat_75 rfl ?_
          refine J_sub (lv' := [(0, .ref (AD Y 186)), (1, .int v1), (2, .int v2), (4, .int v4), (5, .int v5)]) [0, 1, 2, 4, 5] rfl ?_
          exact K79 v5 (1 : Int32) v3 G67
    refine J_iload 4 hX dX10_sweat_22 rfl ?_
    refine J_aload_n 0 hX dX10_sweat_24 fz0 rfl ?_
    refine J_getR (b := 193) hX dX10_sweat_25 lf_X10_34 sk_186 rfl (by decide) rfl ?_
    refine J_iconst hX dX10_sweat_28 ci_4 ?_
    refine J_iald hX dX10_sweat_29 sk_193 ln_193 ?_
    refine J_icmp_ge (tgt := 93) hX dX10_sweat_30 rfl ?_ ?_
    · refine J_iload_n 3 hX dX10_sweat_93 fz3 rfl ?_
      exact J_retI hR dX10_sweat_94
    · refine J_aload_n 0 hX dX10_sweat_33 fz0 rfl ?_
      refine J_iconst hX dX10_sweat_34 ci_0 ?_
      refine J_aload_n 0 hX dX10_sweat_35 fz0 rfl ?_
      refine J_getR (b := 196) hX dX10_sweat_36 lf_X10_43 sk_186 rfl (by decide) rfl ?_
      refine J_iload 4 hX dX10_sweat_39 rfl ?_
      refine J_iald hX dX10_sweat_41 sk_196 ln_196 ?_
      refine J_iconst hX dX10_sweat_42 ci_0 ?_
      refine J_callVV (As := [.int (0 : Int32), .int (gI G 196 v4.toNatClampNeg), .int (0 : Int32)]) (st := []) (b := 186) hX mv_X10_317 sk_186 rfl rfl rfl (Nat.le_of_ble_eq_true rfl) (Nat.le_of_ble_eq_true rfl) (Nat.le_of_ble_eq_true rfl) dX10_sweat_43 (fun G1 h => ok_X10_makes  h) fun G43 => ?_
      refine J_iconst hX dX10_sweat_46 ci_0 ?_
      refine J_istore (lv' := [(5, .int (0 : Int32)), (0, .ref (AD Y 186)), (1, .int v1), (2, .int v2), (3, .int v3), (4, .int v4)]) hX dX10_sweat_47 (Nat.le_of_ble_eq_true rfl) rfl ?_
      refine J_sub (lv' := [(0, .ref (AD Y 186)), (1, .int v1), (2, .int v2), (3, .int v3), (4, .int v4), (5, .int (0 : Int32))]) [1, 2, 3, 4, 5, 0] rfl ?_
      exact K49 v4 FU v3 (0 : Int32) G43
  unfold f_X10_sweat
  refine J_aload_n 0 hX dX10_sweat_0 fz0 rfl ?_
  refine J_iconst hX dX10_sweat_1 ci_0 ?_
  refine J_putI hX dX10_sweat_2 lf_X10_95 lpt_9_0 sk_186 rfl fun G2 => ?_
  refine J_aload_n 0 hX dX10_sweat_5 fz0 rfl ?_
  refine J_iload_n 1 hX dX10_sweat_6 fz1 rfl ?_
  refine J_iload_n 2 hX dX10_sweat_7 fz2 rfl ?_
  refine J_callVI (As := [.int v1, .int v2]) (st := []) (b := 186) hX mv_X10_410 sk_186 rfl rfl rfl (Nat.le_of_ble_eq_true rfl) (Nat.le_of_ble_eq_true rfl) (Nat.le_of_ble_eq_true rfl) dX10_sweat_8 (fun r G1 h => ok_X10_isBy  h) fun r8 G8 => ?_
  refine J_if_ne (tgt := 17) hX dX10_sweat_11 rfl ?_ ?_
  · refine J_iconst hX dX10_sweat_17 ci_0 ?_
    refine J_istore_n (lv' := [(3, .int (0 : Int32)), (0, .ref (AD Y 186)), (1, .int v1), (2, .int v2)]) hX dX10_sweat_18 fz3 (Nat.le_of_ble_eq_true rfl) rfl ?_
    refine J_iconst hX dX10_sweat_19 ci_0 ?_
    refine J_istore (lv' := [(4, .int (0 : Int32)), (3, .int (0 : Int32)), (0, .ref (AD Y 186)), (1, .int v1), (2, .int v2)]) hX dX10_sweat_20 (Nat.le_of_ble_eq_true rfl) rfl ?_
    refine J_sub (lv' := [(0, .ref (AD Y 186)), (1, .int v1), (2, .int v2), (3, .int (0 : Int32)), (4, .int (0 : Int32))]) [2, 3, 4, 1, 0] rfl ?_
    exact K22  FU (0 : Int32) (0 : Int32) G8
  · refine J_bipush hX dX10_sweat_14 cbm_2 ?_
    exact J_retI hR dX10_sweat_16
set_option maxHeartbeats 4000000 in
set_option maxRecDepth 100000 in
theorem ok_X10_nearest {Y : DX} {v1 : Int32} {v2 : Int32}  {G : GM} {r : Int32} {G' : GM} (hf : f_X10_nearest v1 v2 G = some (r, G')) : OkI Y 30 M_X10_nearest [.ref (AD Y 186), .int v1, .int v2] G r G' := by
  refine okI_of (lv0 := [(0, .ref (AD Y 186)), (1, .int v1), (2, .int v2)]) (by decide +kernel) rfl (Nat.le_of_ble_eq_true rfl) ?_
  intro X Q hX hR
  have hX : CXok X Y RX10 cX10_nearest 7 _ := hX
  revert hf
  show J X Y 7 Q 0 [(0, .ref (AD Y 186)), (1, .int v1), (2, .int v2)] [] G (f_X10_nearest v1 v2 G = some (r, G'))
  have K22 : ∀  (n : Nat) (v3 : Int32) (v4 : Int32) (G : GM), J X Y 7 Q 22 [(0, .ref (AD Y 186)), (1, .int v1), (2, .int v2), (3, .int v3), (4, .int v4)] [] G (wl2 n (lp_X10_nearest_22 v1 v2) v3 v4 G = some (r, G')) := by
    refine wl2_ind (R := fun v3 v4 G φ => J X Y 7 Q 22 [(0, .ref (AD Y 186)), (1, .int v1), (2, .int v2), (3, .int v3), (4, .int v4)] [] G φ) (fun _ _ G φ h => J_no h) ?_
    intro kc22 hk22 v3 v4 G
    unfold lp_X10_nearest_22
    have K49 : ∀ (v4 : Int32) (n : Nat) (v3 : Int32) (v5 : Int32) (G : GM), J X Y 7 Q 49 [(0, .ref (AD Y 186)), (1, .int v1), (2, .int v2), (3, .int v3), (4, .int v4), (5, .int v5)] [] G (wl2 n (lp_X10_nearest_49 v1 v2 v4 kc22) v3 v5 G = some (r, G')) := by
      intro v4
      refine wl2_ind (R := fun v3 v5 G φ => J X Y 7 Q 49 [(0, .ref (AD Y 186)), (1, .int v1), (2, .int v2), (3, .int v3), (4, .int v4), (5, .int v5)] [] G φ) (fun _ _ G φ h => J_no h) ?_
      intro kc49 hk49 v3 v5 G
      unfold lp_X10_nearest_49
      have K94 : ∀ (v5 : Int32) (s0 : Int32) (G : GM), J X Y 7 Q 94 [(0, .ref (AD Y 186)), (1, .int v1), (2, .int v2), (4, .int v4), (5, .int v5)] [.int s0] G (k_X10_nearest_94 v1 v2 v4 v5 s0 kc22 kc49 G = some (r, G')) := by
        intro v5 s0 G
        unfold k_X10_nearest_94
        refine J_istore_n (lv' := [(3, .int s0), (0, .ref (AD Y 186)), (1, .int v1), (2, .int v2), (4, .int v4), (5, .int v5)]) hX dX10_nearest_94 fz3 (Nat.le_of_ble_eq_true rfl) rfl ?_
        refine J_iinc (lv' := [(5, .int (v5 + (1 : Int32))), (3, .int s0), (0, .ref (AD Y 186)), (1, .int v1), (2, .int v2), (4, .int v4)]) 5 hX dX10_nearest_95 rfl ci_1 (Nat.le_of_ble_eq_true rfl) rfl ?_
        refine J_goto (tgt := 49) hX dX10_nearest_98 rfl ?_
        refine J_sub (lv' := [(0, .ref (AD Y 186)), (1, .int v1), (2, .int v2), (3, .int s0), (4, .int v4), (5, .int (v5 + (1 : Int32)))]) [2, 3, 4, 1, 5, 0] rfl ?_
        exact hk49 s0 (v5 + (1 : Int32)) G
      have K93 : ∀ (v3 : Int32) (v5 : Int32) (G : GM), J X Y 7 Q 93 [(0, .ref (AD Y 186)), (1, .int v1), (2, .int v2), (3, .int v3), (4, .int v4), (5, .int v5)] [] G (k_X10_nearest_93 v1 v2 v4 v3 v5 kc22 kc49 G = some (r, G')) := by
        intro v3 v5 G
        unfold k_X10_nearest_93
        refine J_iload_n 3 hX dX10_nearest_93 fz3 rfl ?_
        refine J_sub (lv' := [(0, .ref (AD Y 186)), (1, .int v1), (2, .int v2), (4, .int v4), (5, .int v5)]) [0, 1, 2, 4, 5] rfl ?_
        exact K94 v5 v3 G
      have K88 : ∀ (v5 : Int32) (v6 : Int32) (G : GM), J X Y 7 Q 88 [(0, .ref (AD Y 186)), (1, .int v1), (2, .int v2), (4, .int v4), (5, .int v5), (6, .int v6)] [] G (k_X10_nearest_88 v1 v2 v4 v5 v6 kc22 kc49 G = some (r, G')) := by
        intro v5 v6 G
        unfold k_X10_nearest_88
        refine J_iload 5 hX dX10_nearest_88 rfl ?_
        refine J_goto (tgt := 94) hX dX10_nearest_90 rfl ?_
        refine J_sub (lv' := [(0, .ref (AD Y 186)), (1, .int v1), (2, .int v2), (4, .int v4), (5, .int v5)]) [0, 1, 2, 3, 4] rfl ?_
        exact K94 v5 v6 G
      refine J_iload 5 hX dX10_nearest_49 rfl ?_
      refine J_aload_n 0 hX dX10_nearest_51 fz0 rfl ?_
      refine J_getR (b := 193) hX dX10_nearest_52 lf_X10_34 sk_186 rfl (by decide) rfl ?_
      refine J_iconst hX dX10_nearest_55 ci_0 ?_
      refine J_iald hX dX10_nearest_56 sk_193 ln_193 ?_
      refine J_icmp_ge (tgt := 101) hX dX10_nearest_57 rfl ?_ ?_
      · refine J_iinc (lv' := [(4, .int (v4 + (1 : Int32))), (0, .ref (AD Y 186)), (1, .int v1), (2, .int v2), (3, .int v3), (5, .int v5)]) 4 hX dX10_nearest_101 rfl ci_1 (Nat.le_of_ble_eq_true rfl) rfl ?_
        refine J_goto (tgt := 22) hX dX10_nearest_104 rfl ?_
        refine J_sub (lv' := [(0, .ref (AD Y 186)), (1, .int v1), (2, .int v2), (3, .int v3), (4, .int (v4 + (1 : Int32)))]) [1, 2, 3, 4, 0] rfl ?_
        exact hk22 v3 (v4 + (1 : Int32)) G
      · refine J_aload_n 0 hX dX10_nearest_60 fz0 rfl ?_
        refine J_iconst hX dX10_nearest_61 ci_0 ?_
        refine J_iload 5 hX dX10_nearest_62 rfl ?_
        refine J_iload_n 1 hX dX10_nearest_64 fz1 rfl ?_
        refine J_iload_n 2 hX dX10_nearest_65 fz2 rfl ?_
        refine J_callVI (As := [.int (0 : Int32), .int v5, .int v1, .int v2]) (st := []) (b := 186) hX mv_X10_364 sk_186 rfl rfl rfl (Nat.le_of_ble_eq_true rfl) (Nat.le_of_ble_eq_true rfl) (Nat.le_of_ble_eq_true rfl) dX10_nearest_66 (fun r G1 h => ok_X10_lacksOf  h) fun r66 G66 => ?_
        refine J_istore (lv' := [(6, .int r66), (0, .ref (AD Y 186)), (1, .int v1), (2, .int v2), (3, .int v3), (4, .int v4), (5, .int v5)]) hX dX10_nearest_69 (Nat.le_of_ble_eq_true rfl) rfl ?_
        refine J_iload 0 hX dX10_nearest_71 rfl ?_
        refine J_iconst hX dX10_nearest_73 cim_1 ?_
        refine J_icmp_eq (tgt := 93) hX dX10_nearest_74 rfl ?_ ?_
        · refine J_sub (lv' := [(0, .ref (AD Y 186)), (1, .int v1), (2, .int v2), (3, .int v3), (4, .int v4), (5, .int v5)]) [1, 2, 3, 4, 5, 6] rfl ?_
          exact K93 v3 v5 G66
        · refine J_iload_n 4 hX dX10_nearest_77 fz3 rfl ?_
          refine J_iconst hX dX10_nearest_78 cim_1 ?_
          refine J_icmp_eq (tgt := 88) hX dX10_nearest_79 rfl ?_ ?_
          · refine J_sub (lv' := [(0, .ref (AD Y 186)), (1, .int v1), (2, .int v2), (4, .int v4), (5, .int v5), (6, .int r66)]) [1, 2, 3, 5, 6, 0] rfl ?_
            exact K88 v5 r66 G66
          · refine J_iload 0 hX dX10_nearest_82 rfl ?_
            refine J_iload_n 4 hX dX10_nearest_84 fz3 rfl ?_
            refine J_icmp_ge (tgt := 93) hX dX10_nearest_85 rfl ?_ ?_
            · refine J_sub (lv' := [(0, .ref (AD Y 186)), (1, .int v1), (2, .int v2), (3, .int v3), (4, .int v4), (5, .int v5)]) [1, 2, 3, 4, 5, 6] rfl ?_
              exact K93 v3 v5 G66
            · refine J_sub (lv' := [(0, .ref (AD Y 186)), (1, .int v1), (2, .int v2), (4, .int v4), (5, .int v5), (6, .int r66)]) [1, 2, 3, 5, 6, 0] rfl ?_
              exact K88 v5 r66 G66
    refine J_iload 4 hX dX10_nearest_22 rfl ?_
    refine J_aload_n 0 hX dX10_nearest_24 fz0 rfl ?_
    refine J_getR (b := 193) hX dX10_nearest_25 lf_X10_34 sk_186 rfl (by decide) rfl ?_
    refine J_iconst hX dX10_nearest_28 ci_4 ?_
    refine J_iald hX dX10_nearest_29 sk_193 ln_193 ?_
    refine J_icmp_ge (tgt := 107) hX dX10_nearest_30 rfl ?_ ?_
    · refine J_iload_n 3 hX dX10_nearest_107 fz3 rfl ?_
      exact J_retI hR dX10_nearest_108
    · refine J_aload_n 0 hX dX10_nearest_33 fz0 rfl ?_
      refine J_iconst hX dX10_nearest_34 ci_0 ?_
      refine J_aload_n 0 hX dX10_nearest_35 fz0 rfl ?_
      refine J_getR (b := 196) hX dX10_nearest_36 lf_X10_43 sk_186 rfl (by decide) rfl ?_
      refine J_iload 4 hX dX10_nearest_39 rfl ?_
      refine J_iald hX dX10_nearest_41 sk_196 ln_196 ?_
      refine J_iconst hX dX10_nearest_42 ci_0 ?_
      refine J_callVV (As := [.int (0 : Int32), .int (gI G 196 v4.toNatClampNeg), .int (0 : Int32)]) (st := []) (b := 186) hX mv_X10_317 sk_186 rfl rfl rfl (Nat.le_of_ble_eq_true rfl) (Nat.le_of_ble_eq_true rfl) (Nat.le_of_ble_eq_true rfl) dX10_nearest_43 (fun G1 h => ok_X10_makes  h) fun G43 => ?_
      refine J_iconst hX dX10_nearest_46 ci_0 ?_
      refine J_istore (lv' := [(5, .int (0 : Int32)), (0, .ref (AD Y 186)), (1, .int v1), (2, .int v2), (3, .int v3), (4, .int v4)]) hX dX10_nearest_47 (Nat.le_of_ble_eq_true rfl) rfl ?_
      refine J_sub (lv' := [(0, .ref (AD Y 186)), (1, .int v1), (2, .int v2), (3, .int v3), (4, .int v4), (5, .int (0 : Int32))]) [1, 2, 3, 4, 5, 0] rfl ?_
      exact K49 v4 FU v3 (0 : Int32) G43
  unfold f_X10_nearest
  refine J_aload_n 0 hX dX10_nearest_0 fz0 rfl ?_
  refine J_iconst hX dX10_nearest_1 ci_0 ?_
  refine J_putI hX dX10_nearest_2 lf_X10_95 lpt_9_0 sk_186 rfl fun G2 => ?_
  refine J_aload_n 0 hX dX10_nearest_5 fz0 rfl ?_
  refine J_iload_n 1 hX dX10_nearest_6 fz1 rfl ?_
  refine J_iload_n 2 hX dX10_nearest_7 fz2 rfl ?_
  refine J_callVI (As := [.int v1, .int v2]) (st := []) (b := 186) hX mv_X10_410 sk_186 rfl rfl rfl (Nat.le_of_ble_eq_true rfl) (Nat.le_of_ble_eq_true rfl) (Nat.le_of_ble_eq_true rfl) dX10_nearest_8 (fun r G1 h => ok_X10_isBy  h) fun r8 G8 => ?_
  refine J_if_ne (tgt := 17) hX dX10_nearest_11 rfl ?_ ?_
  · refine J_iconst hX dX10_nearest_17 cim_1 ?_
    refine J_istore_n (lv' := [(3, .int (-1 : Int32)), (0, .ref (AD Y 186)), (1, .int v1), (2, .int v2)]) hX dX10_nearest_18 fz3 (Nat.le_of_ble_eq_true rfl) rfl ?_
    refine J_iconst hX dX10_nearest_19 ci_0 ?_
    refine J_istore (lv' := [(4, .int (0 : Int32)), (3, .int (-1 : Int32)), (0, .ref (AD Y 186)), (1, .int v1), (2, .int v2)]) hX dX10_nearest_20 (Nat.le_of_ble_eq_true rfl) rfl ?_
    refine J_sub (lv' := [(0, .ref (AD Y 186)), (1, .int v1), (2, .int v2), (3, .int (-1 : Int32)), (4, .int (0 : Int32))]) [2, 3, 4, 1, 0] rfl ?_
    exact K22  FU (-1 : Int32) (0 : Int32) G8
  · refine J_bipush hX dX10_nearest_14 cbm_2 ?_
    exact J_retI hR dX10_nearest_16
set_option maxHeartbeats 4000000 in
set_option maxRecDepth 100000 in
theorem ok_X10_laysSlow {Y : DX} {v1 : Int32} {v2 : Int32}  {G : GM} {G' : GM} (hf : f_X10_laysSlow v1 v2 G = some G') : OkV Y 4 M_X10_laysSlow [.ref (AD Y 186), .int v1, .int v2] G G' := by
  refine okV_of (lv0 := [(0, .ref (AD Y 186)), (1, .int v1), (2, .int v2)]) (by decide +kernel) rfl (Nat.le_of_ble_eq_true rfl) ?_
  intro X Q hX hR
  have hX : CXok X Y RX10 cX10_laysSlow 7 _ := hX
  revert hf
  show J X Y 7 Q 0 [(0, .ref (AD Y 186)), (1, .int v1), (2, .int v2)] [] G (f_X10_laysSlow v1 v2 G = some G')
  have K8 : ∀  (n : Nat) (v3 : Int32) (v4 : Int32) (v5 : Int32) (G : GM), J X Y 7 Q 8 [(0, .ref (AD Y 186)), (1, .int v1), (2, .int v2), (3, .int v3), (4, .int v4), (5, .int v5)] [] G (wl3 n (lp_X10_laysSlow_8 v1 v2) v3 v4 v5 G = some G') := by
    refine wl3_ind (R := fun v3 v4 v5 G φ => J X Y 7 Q 8 [(0, .ref (AD Y 186)), (1, .int v1), (2, .int v2), (3, .int v3), (4, .int v4), (5, .int v5)] [] G φ) (fun _ _ _ G φ h => J_no h) ?_
    intro kc8 hk8 v3 v4 v5 G
    unfold lp_X10_laysSlow_8
    have K58 : ∀ (v3 : Int32) (v5 : Int32) (n : Nat) (v4 : Int32) (G : GM), J X Y 7 Q 58 [(0, .ref (AD Y 186)), (1, .int v1), (2, .int v2), (3, .int v3), (4, .int v4), (5, .int v5)] [] G (wl1 n (lp_X10_laysSlow_58 v1 v2 v3 v5 kc8) v4 G = some G') := by
      intro v3 v5
      refine wl1_ind (R := fun v4 G φ => J X Y 7 Q 58 [(0, .ref (AD Y 186)), (1, .int v1), (2, .int v2), (3, .int v3), (4, .int v4), (5, .int v5)] [] G φ) (fun _ G φ h => J_no h) ?_
      intro kc58 hk58 v4 G
      unfold lp_X10_laysSlow_58
      refine J_iload 4 hX dX10_laysSlow_58 rfl ?_
      refine J_iload_n 3 hX dX10_laysSlow_60 fz3 rfl ?_
      refine J_icmp_ge (tgt := 79) hX dX10_laysSlow_61 rfl ?_ ?_
      · refine J_iinc (lv' := [(5, .int (v5 + (1 : Int32))), (0, .ref (AD Y 186)), (1, .int v1), (2, .int v2), (3, .int v3), (4, .int v4)]) 5 hX dX10_laysSlow_79 rfl ci_1 (Nat.le_of_ble_eq_true rfl) rfl ?_
        refine J_goto (tgt := 8) hX dX10_laysSlow_82 rfl ?_
        refine J_sub (lv' := [(0, .ref (AD Y 186)), (1, .int v1), (2, .int v2), (3, .int v3), (4, .int v4), (5, .int (v5 + (1 : Int32)))]) [1, 2, 3, 4, 5, 0] rfl ?_
        exact hk8 v3 v4 (v5 + (1 : Int32)) G
      · refine J_aload_n 0 hX dX10_laysSlow_64 fz0 rfl ?_
        refine J_getR (b := 212) hX dX10_laysSlow_65 lf_X10_92 sk_186 rfl (by decide) rfl ?_
        refine J_iload 4 hX dX10_laysSlow_68 rfl ?_
        refine J_iload 5 hX dX10_laysSlow_70 rfl ?_
        refine J_iast hX dX10_laysSlow_72 sk_212 ln_212 fun G72 => ?_
        refine J_iinc (lv' := [(4, .int (v4 + (1 : Int32))), (0, .ref (AD Y 186)), (1, .int v1), (2, .int v2), (3, .int v3), (5, .int v5)]) 4 hX dX10_laysSlow_73 rfl ci_1 (Nat.le_of_ble_eq_true rfl) rfl ?_
        refine J_goto (tgt := 58) hX dX10_laysSlow_76 rfl ?_
        refine J_sub (lv' := [(0, .ref (AD Y 186)), (1, .int v1), (2, .int v2), (3, .int v3), (4, .int (v4 + (1 : Int32))), (5, .int v5)]) [1, 2, 3, 4, 0, 5] rfl ?_
        exact hk58 (v4 + (1 : Int32)) G72
    have K57 : ∀ (v4 : Int32) (v5 : Int32) (s0 : Int32) (G : GM), J X Y 7 Q 57 [(0, .ref (AD Y 186)), (1, .int v1), (2, .int v2), (4, .int v4), (5, .int v5)] [.int s0] G (k_X10_laysSlow_57 v1 v2 v4 v5 s0 kc8 G = some G') := by
      intro v4 v5 s0 G
      unfold k_X10_laysSlow_57
      refine J_istore_n (lv' := [(3, .int s0), (0, .ref (AD Y 186)), (1, .int v1), (2, .int v2), (4, .int v4), (5, .int v5)]) hX dX10_laysSlow_57 fz3 (Nat.le_of_ble_eq_true rfl) rfl ?_
      refine J_sub (lv' := [(0, .ref (AD Y 186)), (1, .int v1), (2, .int v2), (3, .int s0), (4, .int v4), (5, .int v5)]) [1, 2, 3, 0, 4, 5] rfl ?_
      exact K58 s0 v5 FU v4 G
    have K37 : ∀ (v3 : Int32) (v4 : Int32) (v5 : Int32) (s0 : Int32) (G : GM), J X Y 7 Q 37 [(0, .ref (AD Y 186)), (1, .int v1), (2, .int v2), (3, .int v3), (4, .int v4), (5, .int v5)] [.int s0] G (k_X10_laysSlow_37 v1 v2 v3 v4 v5 s0 kc8 G = some G') := by
      intro v3 v4 v5 s0 G
      unfold k_X10_laysSlow_37
      refine J_iload_n 1 hX dX10_laysSlow_37 fz1 rfl ?_
      refine J_imul hX dX10_laysSlow_38 ?_
      refine J_lt (mk := Value.int) fun x39 => ?_
      refine J_istore (lv' := [(6, .int x39), (0, .ref (AD Y 186)), (1, .int v1), (2, .int v2), (3, .int v3), (4, .int v4), (5, .int v5)]) hX dX10_laysSlow_39 (Nat.le_of_ble_eq_true rfl) rfl ?_
      refine J_iload_n 4 hX dX10_laysSlow_41 fz3 rfl ?_
      refine J_iload_n 3 hX dX10_laysSlow_42 fz2 rfl ?_
      refine J_iadd hX dX10_laysSlow_43 ?_
      refine J_iload 0 hX dX10_laysSlow_44 rfl ?_
      refine J_icmp_ge (tgt := 55) hX dX10_laysSlow_46 rfl ?_ ?_
      · refine J_iload 0 hX dX10_laysSlow_55 rfl ?_
        refine J_sub (lv' := [(0, .ref (AD Y 186)), (1, .int v1), (2, .int v2), (4, .int v4), (5, .int v5)]) [1, 2, 3, 5, 6] rfl ?_
        exact K57 v4 v5 x39 G
      · refine J_iload_n 4 hX dX10_laysSlow_49 fz3 rfl ?_
        refine J_iload_n 3 hX dX10_laysSlow_50 fz2 rfl ?_
        refine J_iadd hX dX10_laysSlow_51 ?_
        refine J_goto (tgt := 57) hX dX10_laysSlow_52 rfl ?_
        refine J_sub (lv' := [(0, .ref (AD Y 186)), (1, .int v1), (2, .int v2), (4, .int v4), (5, .int v5)]) [1, 2, 3, 5, 6] rfl ?_
        exact K57 v4 v5 (v3 + v2) G
    refine J_iload 4 hX dX10_laysSlow_8 rfl ?_
    refine J_aload_n 0 hX dX10_laysSlow_10 fz0 rfl ?_
    refine J_callVI (As := []) (st := [.int v4]) (b := 186) hX mv_X10_332 sk_186 rfl rfl rfl (Nat.le_of_ble_eq_true rfl) (Nat.le_of_ble_eq_true rfl) (Nat.le_of_ble_eq_true rfl) dX10_laysSlow_11 (fun r G1 h => ok_X10_all  h) fun r11 G11 => ?_
    refine J_iload_n 1 hX dX10_laysSlow_14 fz1 rfl ?_
    refine J_imul hX dX10_laysSlow_15 ?_
    refine J_icmp_ge (tgt := 85) hX dX10_laysSlow_16 rfl ?_ ?_
    · exact J_retV hR dX10_laysSlow_85
    · refine J_iload 5 hX dX10_laysSlow_19 rfl ?_
      refine J_aload_n 0 hX dX10_laysSlow_21 fz0 rfl ?_
      refine J_callVI (As := []) (st := [.int v5]) (b := 186) hX mv_X10_332 sk_186 rfl rfl rfl (Nat.le_of_ble_eq_true rfl) (Nat.le_of_ble_eq_true rfl) (Nat.le_of_ble_eq_true rfl) dX10_laysSlow_22 (fun r G1 h => ok_X10_all  h) fun r22 G22 => ?_
      refine J_icmp_ge (tgt := 33) hX dX10_laysSlow_25 rfl ?_ ?_
      · refine J_aload_n 0 hX dX10_laysSlow_33 fz0 rfl ?_
        refine J_callVI (As := []) (st := []) (b := 186) hX mv_X10_332 sk_186 rfl rfl rfl (Nat.le_of_ble_eq_true rfl) (Nat.le_of_ble_eq_true rfl) (Nat.le_of_ble_eq_true rfl) dX10_laysSlow_34 (fun r G1 h => ok_X10_all  h) fun r34 G34 => ?_
        exact K37 v3 v4 v5 r34 G34
      · refine J_iload 5 hX dX10_laysSlow_28 rfl ?_
        refine J_goto (tgt := 37) hX dX10_laysSlow_30 rfl ?_
        exact K37 v3 v4 v5 v5 G22
  unfold f_X10_laysSlow
  refine J_iconst hX dX10_laysSlow_0 ci_0 ?_
  refine J_istore_n (lv' := [(3, .int (0 : Int32)), (0, .ref (AD Y 186)), (1, .int v1), (2, .int v2)]) hX dX10_laysSlow_1 fz3 (Nat.le_of_ble_eq_true rfl) rfl ?_
  refine J_iconst hX dX10_laysSlow_2 ci_0 ?_
  refine J_istore (lv' := [(4, .int (0 : Int32)), (3, .int (0 : Int32)), (0, .ref (AD Y 186)), (1, .int v1), (2, .int v2)]) hX dX10_laysSlow_3 (Nat.le_of_ble_eq_true rfl) rfl ?_
  refine J_iconst hX dX10_laysSlow_5 ci_1 ?_
  refine J_istore (lv' := [(5, .int (1 : Int32)), (4, .int (0 : Int32)), (3, .int (0 : Int32)), (0, .ref (AD Y 186)), (1, .int v1), (2, .int v2)]) hX dX10_laysSlow_6 (Nat.le_of_ble_eq_true rfl) rfl ?_
  refine J_sub (lv' := [(0, .ref (AD Y 186)), (1, .int v1), (2, .int v2), (3, .int (0 : Int32)), (4, .int (0 : Int32)), (5, .int (1 : Int32))]) [3, 4, 5, 2, 1, 0] rfl ?_
  exact K8  FU (0 : Int32) (0 : Int32) (1 : Int32) G
set_option maxHeartbeats 4000000 in
set_option maxRecDepth 100000 in
theorem ok_X10_slow {Y : DX} {v1 : Int32} {v2 : Int32} {v3 : Int32} {v4 : Int32}  {G : GM} {r : Int32} {G' : GM} (hf : f_X10_slow v1 v2 v3 v4 G = some (r, G')) : OkI Y 30 M_X10_slow [.ref (AD Y 186), .int v1, .int v2, .int v3, .int v4] G r G' := by
  refine okI_of (lv0 := [(0, .ref (AD Y 186)), (1, .int v1), (2, .int v2), (3, .int v3), (4, .int v4)]) (by decide +kernel) rfl (Nat.le_of_ble_eq_true rfl) ?_
  intro X Q hX hR
  have hX : CXok X Y RX10 cX10_slow 9 _ := hX
  revert hf
  show J X Y 9 Q 0 [(0, .ref (AD Y 186)), (1, .int v1), (2, .int v2), (3, .int v3), (4, .int v4)] [] G (f_X10_slow v1 v2 v3 v4 G = some (r, G'))
  have K95 : ∀  (n : Nat) (v5 : Int32) (v6 : Int32) (G : GM), J X Y 9 Q 95 [(0, .ref (AD Y 186)), (1, .int v1), (2, .int v2), (4, .int v4), (5, .int v5), (6, .int v6)] [] G (wl2 n (lp_X10_slow_95 v1 v2 v3 v4) v5 v6 G = some (r, G')) := by
    refine wl2_ind (R := fun v5 v6 G φ => J X Y 9 Q 95 [(0, .ref (AD Y 186)), (1, .int v1), (2, .int v2), (4, .int v4), (5, .int v5), (6, .int v6)] [] G φ) (fun _ _ G φ h => J_no h) ?_
    intro kc95 hk95 v5 v6 G
    unfold lp_X10_slow_95
    have K119 : ∀ (v6 : Int32) (n : Nat) (v5 : Int32) (v7 : Int32) (G : GM), J X Y 9 Q 119 [(0, .ref (AD Y 186)), (1, .int v1), (2, .int v2), (4, .int v4), (5, .int v5), (6, .int v6), (7, .int v7)] [] G (wl2 n (lp_X10_slow_119 v1 v2 v3 v4 v6 kc95) v5 v7 G = some (r, G')) := by
      intro v6
      refine wl2_ind (R := fun v5 v7 G φ => J X Y 9 Q 119 [(0, .ref (AD Y 186)), (1, .int v1), (2, .int v2), (4, .int v4), (5, .int v5), (6, .int v6), (7, .int v7)] [] G φ) (fun _ _ G φ h => J_no h) ?_
      intro kc119 hk119 v5 v7 G
      unfold lp_X10_slow_119
      have K173 : ∀ (v7 : Int32) (s0 : Int32) (G : GM), J X Y 9 Q 173 [(0, .ref (AD Y 186)), (1, .int v1), (2, .int v2), (4, .int v4), (6, .int v6), (7, .int v7)] [.int s0] G (k_X10_slow_173 v1 v2 v3 v4 v6 v7 s0 kc95 kc119 G = some (r, G')) := by
        intro v7 s0 G
        unfold k_X10_slow_173
        refine J_istore (lv' := [(5, .int s0), (0, .ref (AD Y 186)), (1, .int v1), (2, .int v2), (4, .int v4), (6, .int v6), (7, .int v7)]) hX dX10_slow_173 (Nat.le_of_ble_eq_true rfl) rfl ?_
        refine J_iinc (lv' := [(7, .int (v7 + (1 : Int32))), (5, .int s0), (0, .ref (AD Y 186)), (1, .int v1), (2, .int v2), (4, .int v4), (6, .int v6)]) 6 hX dX10_slow_175 rfl ci_1 (Nat.le_of_ble_eq_true rfl) rfl ?_
        refine J_goto (tgt := 119) hX dX10_slow_178 rfl ?_
        refine J_sub (lv' := [(0, .ref (AD Y 186)), (1, .int v1), (2, .int v2), (4, .int v4), (5, .int s0), (6, .int v6), (7, .int (v7 + (1 : Int32)))]) [2, 3, 4, 5, 1, 6, 0] rfl ?_
        exact hk119 s0 (v7 + (1 : Int32)) G
      have K166 : ∀ (v7 : Int32) (v8 : Int32) (G : GM), J X Y 9 Q 166 [(0, .ref (AD Y 186)), (1, .int v1), (2, .int v2), (4, .int v4), (6, .int v6), (7, .int v7), (8, .int v8)] [] G (k_X10_slow_166 v1 v2 v3 v4 v6 v7 v8 kc95 kc119 G = some (r, G')) := by
        intro v7 v8 G
        unfold k_X10_slow_166
        refine J_iload 6 hX dX10_slow_166 rfl ?_
        refine J_goto (tgt := 173) hX dX10_slow_168 rfl ?_
        refine J_sub (lv' := [(0, .ref (AD Y 186)), (1, .int v1), (2, .int v2), (4, .int v4), (6, .int v6), (7, .int v7)]) [0, 1, 2, 3, 4, 5] rfl ?_
        exact K173 v7 v8 G
      refine J_iload 6 hX dX10_slow_119 rfl ?_
      refine J_aload_n 0 hX dX10_slow_121 fz0 rfl ?_
      refine J_getR (b := 193) hX dX10_slow_122 lf_X10_34 sk_186 rfl (by decide) rfl ?_
      refine J_iconst hX dX10_slow_125 ci_0 ?_
      refine J_iald hX dX10_slow_126 sk_193 ln_193 ?_
      refine J_icmp_ge (tgt := 181) hX dX10_slow_127 rfl ?_ ?_
      · refine J_iinc (lv' := [(6, .int (v6 + (1 : Int32))), (0, .ref (AD Y 186)), (1, .int v1), (2, .int v2), (4, .int v4), (5, .int v5), (7, .int v7)]) 5 hX dX10_slow_181 rfl ci_1 (Nat.le_of_ble_eq_true rfl) rfl ?_
        refine J_goto (tgt := 95) hX dX10_slow_184 rfl ?_
        refine J_sub (lv' := [(0, .ref (AD Y 186)), (1, .int v1), (2, .int v2), (4, .int v4), (5, .int v5), (6, .int (v6 + (1 : Int32)))]) [1, 2, 3, 4, 5, 0] rfl ?_
        exact hk95 v5 (v6 + (1 : Int32)) G
      · refine J_aload_n 0 hX dX10_slow_130 fz0 rfl ?_
        refine J_getR (b := 212) hX dX10_slow_131 lf_X10_92 sk_186 rfl (by decide) rfl ?_
        refine J_aload_n 0 hX dX10_slow_134 fz0 rfl ?_
        refine J_iconst hX dX10_slow_135 ci_0 ?_
        refine J_iload 6 hX dX10_slow_136 rfl ?_
        refine J_iload 3 hX dX10_slow_138 rfl ?_
        refine J_callVI (As := [.int (0 : Int32), .int v7, .int v4]) (st := [.ref (AD Y 212)]) (b := 186) hX mv_X10_367 sk_186 rfl rfl rfl (Nat.le_of_ble_eq_true rfl) (Nat.le_of_ble_eq_true rfl) (Nat.le_of_ble_eq_true rfl) dX10_slow_140 (fun r G1 h => ok_X10_doneOf  h) fun r140 G140 => ?_
        refine J_iconst hX dX10_slow_143 ci_1 ?_
        refine J_isub hX dX10_slow_144 ?_
        refine J_iload_n 2 hX dX10_slow_145 fz2 rfl ?_
        refine J_imul hX dX10_slow_146 ?_
        refine J_iload 5 hX dX10_slow_147 rfl ?_
        refine J_iadd hX dX10_slow_149 ?_
        refine J_iald hX dX10_slow_150 sk_212 ln_212 ?_
        refine J_lt (mk := Value.int) fun x151 => ?_
        refine J_istore (lv' := [(8, .int x151), (0, .ref (AD Y 186)), (1, .int v1), (2, .int v2), (4, .int v4), (5, .int v5), (6, .int v6), (7, .int v7)]) hX dX10_slow_151 (Nat.le_of_ble_eq_true rfl) rfl ?_
        refine J_iload 5 hX dX10_slow_153 rfl ?_
        refine J_iconst hX dX10_slow_155 cim_1 ?_
        refine J_icmp_eq (tgt := 166) hX dX10_slow_156 rfl ?_ ?_
        · refine J_sub (lv' := [(0, .ref (AD Y 186)), (1, .int v1), (2, .int v2), (4, .int v4), (6, .int v6), (7, .int v7), (8, .int x151)]) [1, 2, 3, 4, 6, 7, 0] rfl ?_
          exact K166 v7 x151 G140
        · refine J_iload 0 hX dX10_slow_159 rfl ?_
          refine J_iload 5 hX dX10_slow_161 rfl ?_
          refine J_icmp_ge (tgt := 171) hX dX10_slow_163 rfl ?_ ?_
          · refine J_iload 5 hX dX10_slow_171 rfl ?_
            refine J_sub (lv' := [(0, .ref (AD Y 186)), (1, .int v1), (2, .int v2), (4, .int v4), (6, .int v6), (7, .int v7)]) [1, 2, 3, 4, 6, 7] rfl ?_
            exact K173 v7 v5 G140
          · refine J_sub (lv' := [(0, .ref (AD Y 186)), (1, .int v1), (2, .int v2), (4, .int v4), (6, .int v6), (7, .int v7), (8, .int x151)]) [1, 2, 3, 4, 6, 7, 0] rfl ?_
            exact K166 v7 x151 G140
    refine J_iload 5 hX dX10_slow_95 rfl ?_
    refine J_iload_n 2 hX dX10_slow_97 fz2 rfl ?_
    refine J_icmp_ge (tgt := 187) hX dX10_slow_98 rfl ?_ ?_
    · refine J_iload 4 hX dX10_slow_187 rfl ?_
      exact J_retI hR dX10_slow_189
    · refine J_aload_n 0 hX dX10_slow_101 fz0 rfl ?_
      refine J_iconst hX dX10_slow_102 ci_0 ?_
      refine J_aload_n 0 hX dX10_slow_103 fz0 rfl ?_
      refine J_getR (b := 196) hX dX10_slow_104 lf_X10_43 sk_186 rfl (by decide) rfl ?_
      refine J_iload_n 1 hX dX10_slow_107 fz1 rfl ?_
      refine J_iload 5 hX dX10_slow_108 rfl ?_
      refine J_iadd hX dX10_slow_110 ?_
      refine J_iald hX dX10_slow_111 sk_196 ln_196 ?_
      refine J_iconst hX dX10_slow_112 ci_0 ?_
      refine J_callVV (As := [.int (0 : Int32), .int (gI G 196 (v1 + v6).toNatClampNeg), .int (0 : Int32)]) (st := []) (b := 186) hX mv_X10_317 sk_186 rfl rfl rfl (Nat.le_of_ble_eq_true rfl) (Nat.le_of_ble_eq_true rfl) (Nat.le_of_ble_eq_true rfl) dX10_slow_113 (fun G1 h => ok_X10_makes  h) fun G113 => ?_
      refine J_iconst hX dX10_slow_116 ci_0 ?_
      refine J_istore (lv' := [(7, .int (0 : Int32)), (0, .ref (AD Y 186)), (1, .int v1), (2, .int v2), (4, .int v4), (5, .int v5), (6, .int v6)]) hX dX10_slow_117 (Nat.le_of_ble_eq_true rfl) rfl ?_
      refine J_sub (lv' := [(0, .ref (AD Y 186)), (1, .int v1), (2, .int v2), (4, .int v4), (5, .int v5), (6, .int v6), (7, .int (0 : Int32))]) [1, 2, 3, 4, 5, 6, 0] rfl ?_
      exact K119 v6 FU v5 (0 : Int32) G113
  have K83 : ∀ (G : GM), J X Y 9 Q 83 [(0, .ref (AD Y 186)), (1, .int v1), (2, .int v2), (3, .int v3), (4, .int v4)] [] G (k_X10_slow_83 v1 v2 v3 v4 G = some (r, G')) := by
    intro G
    unfold k_X10_slow_83
    refine J_aload_n 0 hX dX10_slow_83 fz0 rfl ?_
    refine J_iload_n 2 hX dX10_slow_84 fz2 rfl ?_
    refine J_iload_n 3 hX dX10_slow_85 fz3 rfl ?_
    refine J_callVV (As := [.int v2, .int v3]) (st := []) (b := 186) hX mv_X10_415 sk_186 rfl rfl rfl (Nat.le_of_ble_eq_true rfl) (Nat.le_of_ble_eq_true rfl) (Nat.le_of_ble_eq_true rfl) dX10_slow_86 (fun G1 h => ok_X10_laysSlow  h) fun G86 => ?_
    refine J_iconst hX dX10_slow_89 cim_1 ?_
    refine J_istore (lv' := [(5, .int (-1 : Int32)), (0, .ref (AD Y 186)), (1, .int v1), (2, .int v2), (3, .int v3), (4, .int v4)]) hX dX10_slow_90 (Nat.le_of_ble_eq_true rfl) rfl ?_
    refine J_iconst hX dX10_slow_92 ci_0 ?_
    refine J_istore (lv' := [(6, .int (0 : Int32)), (5, .int (-1 : Int32)), (0, .ref (AD Y 186)), (1, .int v1), (2, .int v2), (3, .int v3), (4, .int v4)]) hX dX10_slow_93 (Nat.le_of_ble_eq_true rfl) rfl ?_
    refine J_sub (lv' := [(0, .ref (AD Y 186)), (1, .int v1), (2, .int v2), (4, .int v4), (5, .int (-1 : Int32)), (6, .int (0 : Int32))]) [2, 3, 4, 6, 1, 0] rfl ?_
    exact K95  FU (-1 : Int32) (0 : Int32) G86
  unfold f_X10_slow
  refine J_aload_n 0 hX dX10_slow_0 fz0 rfl ?_
  refine J_iconst hX dX10_slow_1 ci_0 ?_
  refine J_putI hX dX10_slow_2 lf_X10_95 lpt_9_0 sk_186 rfl fun G2 => ?_
  refine J_aload_n 0 hX dX10_slow_5 fz0 rfl ?_
  refine J_callVI (As := []) (st := []) (b := 186) hX mv_X10_324 sk_186 rfl rfl rfl (Nat.le_of_ble_eq_true rfl) (Nat.le_of_ble_eq_true rfl) (Nat.le_of_ble_eq_true rfl) dX10_slow_6 (fun r G1 h => ok_X10_isHall  h) fun r6 G6 => ?_
  refine J_if_eq (tgt := 62) hX dX10_slow_9 rfl ?_ ?_
  · refine J_bipush hX dX10_slow_62 cbm_2 ?_
    exact J_retI hR dX10_slow_64
  · refine J_iload_n 2 hX dX10_slow_12 fz2 rfl ?_
    refine J_i2l hX dX10_slow_13 ?_
    refine J_lconst hX dX10_slow_14 fy1 ?_
    refine J_ldc2 hX dX10_slow_15 ll_X10_413 ?_
    refine J_callSI (As := [.long (v2.toInt64), .long (1 : Int64), .long (8 : Int64)]) (st := []) hX ms_X10_100 rfl rfl (Nat.le_of_ble_eq_true rfl) (Nat.le_of_ble_eq_true rfl) (Nat.le_of_ble_eq_true rfl) dX10_slow_18 (fun r G1 h => ok_X10_in  h) fun r18 G18 => ?_
    refine J_if_eq (tgt := 62) hX dX10_slow_21 rfl ?_ ?_
    · refine J_bipush hX dX10_slow_62 cbm_2 ?_
      exact J_retI hR dX10_slow_64
    · refine J_iload_n 1 hX dX10_slow_24 fz1 rfl ?_
      refine J_i2l hX dX10_slow_25 ?_
      refine J_lconst hX dX10_slow_26 fy0 ?_
      refine J_aload_n 0 hX dX10_slow_27 fz0 rfl ?_
      refine J_getR (b := 193) hX dX10_slow_28 lf_X10_34 sk_186 rfl (by decide) rfl ?_
      refine J_iconst hX dX10_slow_31 ci_4 ?_
      refine J_iald hX dX10_slow_32 sk_193 ln_193 ?_
      refine J_iload_n 2 hX dX10_slow_33 fz2 rfl ?_
      refine J_isub hX dX10_slow_34 ?_
      refine J_i2l hX dX10_slow_35 ?_
      refine J_callSI (As := [.long (v1.toInt64), .long (0 : Int64), .long (((gI G18 193 (4 : Int32).toNatClampNeg) - v2).toInt64)]) (st := []) hX ms_X10_100 rfl rfl (Nat.le_of_ble_eq_true rfl) (Nat.le_of_ble_eq_true rfl) (Nat.le_of_ble_eq_true rfl) dX10_slow_36 (fun r G1 h => ok_X10_in  h) fun r36 G36 => ?_
      refine J_if_eq (tgt := 62) hX dX10_slow_39 rfl ?_ ?_
      · refine J_bipush hX dX10_slow_62 cbm_2 ?_
        exact J_retI hR dX10_slow_64
      · refine J_iload_n 3 hX dX10_slow_42 fz3 rfl ?_
        refine J_i2l hX dX10_slow_43 ?_
        refine J_lconst hX dX10_slow_44 fy1 ?_
        refine J_ldc2 hX dX10_slow_45 ll_X10_413 ?_
        refine J_callSI (As := [.long (v3.toInt64), .long (1 : Int64), .long (8 : Int64)]) (st := []) hX ms_X10_100 rfl rfl (Nat.le_of_ble_eq_true rfl) (Nat.le_of_ble_eq_true rfl) (Nat.le_of_ble_eq_true rfl) dX10_slow_48 (fun r G1 h => ok_X10_in  h) fun r48 G48 => ?_
        refine J_if_eq (tgt := 62) hX dX10_slow_51 rfl ?_ ?_
        · refine J_bipush hX dX10_slow_62 cbm_2 ?_
          exact J_retI hR dX10_slow_64
        · refine J_iload 4 hX dX10_slow_54 rfl ?_
          refine J_callSI (As := [.int v4]) (st := []) hX ms_X10_361 rfl rfl (Nat.le_of_ble_eq_true rfl) (Nat.le_of_ble_eq_true rfl) (Nat.le_of_ble_eq_true rfl) dX10_slow_56 (fun r G1 h => ok_X10_isKind  h) fun r56 G56 => ?_
          refine J_if_ne (tgt := 65) hX dX10_slow_59 rfl ?_ ?_
          · refine J_iload 4 hX dX10_slow_65 rfl ?_
            refine J_iconst hX dX10_slow_67 ci_1 ?_
            refine J_icmp_ne (tgt := 83) hX dX10_slow_68 rfl ?_ ?_
            · exact K83 G56
            · refine J_aload_n 0 hX dX10_slow_71 fz0 rfl ?_
              refine J_getR (b := 193) hX dX10_slow_72 lf_X10_34 sk_186 rfl (by decide) rfl ?_
              refine J_iconst hX dX10_slow_75 ci_1 ?_
              refine J_iald hX dX10_slow_76 sk_193 ln_193 ?_
              refine J_iconst hX dX10_slow_77 ci_2 ?_
              refine J_icmp_ge (tgt := 83) hX dX10_slow_78 rfl ?_ ?_
              · exact K83 G56
              · refine J_iconst hX dX10_slow_81 cim_1 ?_
                exact J_retI hR dX10_slow_82
          · refine J_bipush hX dX10_slow_62 cbm_2 ?_
            exact J_retI hR dX10_slow_64
set_option maxHeartbeats 4000000 in
set_option maxRecDepth 100000 in
theorem ok_X10_whenOf {Y : DX} {v1 : Int32}  {G : GM} {r : Int32} {G' : GM} (hf : f_X10_whenOf v1 G = some (r, G')) : OkI Y 1 M_X10_whenOf [.ref (AD Y 186), .int v1] G r G' := by
  refine okI_of (lv0 := [(0, .ref (AD Y 186)), (1, .int v1)]) (by decide +kernel) rfl (Nat.le_of_ble_eq_true rfl) ?_
  intro X Q hX hR
  have hX : CXok X Y RX10 cX10_whenOf 5 _ := hX
  revert hf
  show J X Y 5 Q 0 [(0, .ref (AD Y 186)), (1, .int v1)] [] G (f_X10_whenOf v1 G = some (r, G'))
  have K4 : ∀  (n : Nat) (v2 : Int32) (v3 : Int32) (G : GM), J X Y 5 Q 4 [(0, .ref (AD Y 186)), (1, .int v1), (2, .int v2), (3, .int v3)] [] G (wl2 n (lp_X10_whenOf_4 v1) v2 v3 G = some (r, G')) := by
    refine wl2_ind (R := fun v2 v3 G φ => J X Y 5 Q 4 [(0, .ref (AD Y 186)), (1, .int v1), (2, .int v2), (3, .int v3)] [] G φ) (fun _ _ G φ h => J_no h) ?_
    intro kc4 hk4 v2 v3 G
    unfold lp_X10_whenOf_4
    have K49 : ∀ (v3 : Int32) (s0 : Int32) (G : GM), J X Y 5 Q 49 [(0, .ref (AD Y 186)), (1, .int v1), (3, .int v3)] [.int s0] G (k_X10_whenOf_49 v1 v3 s0 kc4 G = some (r, G')) := by
      intro v3 s0 G
      unfold k_X10_whenOf_49
      refine J_istore_n (lv' := [(2, .int s0), (0, .ref (AD Y 186)), (1, .int v1), (3, .int v3)]) hX dX10_whenOf_49 fz2 (Nat.le_of_ble_eq_true rfl) rfl ?_
      refine J_iinc (lv' := [(3, .int (v3 + (1 : Int32))), (2, .int s0), (0, .ref (AD Y 186)), (1, .int v1)]) 3 hX dX10_whenOf_50 rfl ci_1 (Nat.le_of_ble_eq_true rfl) rfl ?_
      refine J_goto (tgt := 4) hX dX10_whenOf_53 rfl ?_
      refine J_sub (lv' := [(0, .ref (AD Y 186)), (1, .int v1), (2, .int s0), (3, .int (v3 + (1 : Int32)))]) [2, 3, 1, 0] rfl ?_
      exact hk4 s0 (v3 + (1 : Int32)) G
    have K48 : ∀ (v2 : Int32) (v3 : Int32) (G : GM), J X Y 5 Q 48 [(0, .ref (AD Y 186)), (1, .int v1), (2, .int v2), (3, .int v3)] [] G (k_X10_whenOf_48 v1 v2 v3 kc4 G = some (r, G')) := by
      intro v2 v3 G
      unfold k_X10_whenOf_48
      refine J_iload_n 2 hX dX10_whenOf_48 fz2 rfl ?_
      refine J_sub (lv' := [(0, .ref (AD Y 186)), (1, .int v1), (3, .int v3)]) [0, 1, 3] rfl ?_
      exact K49 v3 v2 G
    have K43 : ∀ (v3 : Int32) (v4 : Int32) (G : GM), J X Y 5 Q 43 [(0, .ref (AD Y 186)), (1, .int v1), (3, .int v3), (4, .int v4)] [] G (k_X10_whenOf_43 v1 v3 v4 kc4 G = some (r, G')) := by
      intro v3 v4 G
      unfold k_X10_whenOf_43
      refine J_iload 3 hX dX10_whenOf_43 rfl ?_
      refine J_goto (tgt := 49) hX dX10_whenOf_45 rfl ?_
      refine J_sub (lv' := [(0, .ref (AD Y 186)), (1, .int v1), (3, .int v3)]) [0, 1, 2] rfl ?_
      exact K49 v3 v4 G
    refine J_iload_n 3 hX dX10_whenOf_4 fz3 rfl ?_
    refine J_aload_n 0 hX dX10_whenOf_5 fz0 rfl ?_
    refine J_getR (b := 193) hX dX10_whenOf_6 lf_X10_34 sk_186 rfl (by decide) rfl ?_
    refine J_iconst hX dX10_whenOf_9 ci_0 ?_
    refine J_iald hX dX10_whenOf_10 sk_193 ln_193 ?_
    refine J_icmp_ge (tgt := 56) hX dX10_whenOf_11 rfl ?_ ?_
    · refine J_iload_n 2 hX dX10_whenOf_56 fz2 rfl ?_
      exact J_retI hR dX10_whenOf_57
    · refine J_aload_n 0 hX dX10_whenOf_14 fz0 rfl ?_
      refine J_getR (b := 209) hX dX10_whenOf_15 lf_X10_83 sk_186 rfl (by decide) rfl ?_
      refine J_iconst hX dX10_whenOf_18 ci_3 ?_
      refine J_iload_n 1 hX dX10_whenOf_19 fz1 rfl ?_
      refine J_imul hX dX10_whenOf_20 ?_
      refine J_iload_n 3 hX dX10_whenOf_21 fz3 rfl ?_
      refine J_iadd hX dX10_whenOf_22 ?_
      refine J_iald hX dX10_whenOf_23 sk_209 ln_209 ?_
      refine J_lt (mk := Value.int) fun x24 => ?_
      refine J_istore (lv' := [(4, .int x24), (0, .ref (AD Y 186)), (1, .int v1), (2, .int v2), (3, .int v3)]) hX dX10_whenOf_24 (Nat.le_of_ble_eq_true rfl) rfl ?_
      refine J_iload 0 hX dX10_whenOf_26 rfl ?_
      refine J_iconst hX dX10_whenOf_28 cim_1 ?_
      refine J_icmp_eq (tgt := 48) hX dX10_whenOf_29 rfl ?_ ?_
      · refine J_sub (lv' := [(0, .ref (AD Y 186)), (1, .int v1), (2, .int v2), (3, .int v3)]) [1, 2, 3, 4] rfl ?_
        exact K48 v2 v3 G
      · refine J_iload_n 3 hX dX10_whenOf_32 fz2 rfl ?_
        refine J_iconst hX dX10_whenOf_33 cim_1 ?_
        refine J_icmp_eq (tgt := 43) hX dX10_whenOf_34 rfl ?_ ?_
        · refine J_sub (lv' := [(0, .ref (AD Y 186)), (1, .int v1), (3, .int v3), (4, .int x24)]) [1, 2, 4, 0] rfl ?_
          exact K43 v3 x24 G
        · refine J_iload 0 hX dX10_whenOf_37 rfl ?_
          refine J_iload_n 3 hX dX10_whenOf_39 fz2 rfl ?_
          refine J_icmp_ge (tgt := 48) hX dX10_whenOf_40 rfl ?_ ?_
          · refine J_sub (lv' := [(0, .ref (AD Y 186)), (1, .int v1), (2, .int v2), (3, .int v3)]) [1, 2, 3, 4] rfl ?_
            exact K48 v2 v3 G
          · refine J_sub (lv' := [(0, .ref (AD Y 186)), (1, .int v1), (3, .int v3), (4, .int x24)]) [1, 2, 4, 0] rfl ?_
            exact K43 v3 x24 G
  unfold f_X10_whenOf
  refine J_iconst hX dX10_whenOf_0 cim_1 ?_
  refine J_istore_n (lv' := [(2, .int (-1 : Int32)), (0, .ref (AD Y 186)), (1, .int v1)]) hX dX10_whenOf_1 fz2 (Nat.le_of_ble_eq_true rfl) rfl ?_
  refine J_iconst hX dX10_whenOf_2 ci_0 ?_
  refine J_istore_n (lv' := [(3, .int (0 : Int32)), (2, .int (-1 : Int32)), (0, .ref (AD Y 186)), (1, .int v1)]) hX dX10_whenOf_3 fz3 (Nat.le_of_ble_eq_true rfl) rfl ?_
  refine J_sub (lv' := [(0, .ref (AD Y 186)), (1, .int v1), (2, .int (-1 : Int32)), (3, .int (0 : Int32))]) [2, 3, 1, 0] rfl ?_
  exact K4  FU (-1 : Int32) (0 : Int32) G
set_option maxHeartbeats 4000000 in
set_option maxRecDepth 100000 in
theorem ok_X10_race {Y : DX} {v1 : Int32} {v2 : Int32}  {G : GM} {r : Int32} {G' : GM} (hf : f_X10_race v1 v2 G = some (r, G')) : OkI Y 31 M_X10_race [.ref (AD Y 186), .int v1, .int v2] G r G' := by
  refine okI_of (lv0 := [(0, .ref (AD Y 186)), (1, .int v1), (2, .int v2)]) (by decide +kernel) rfl (Nat.le_of_ble_eq_true rfl) ?_
  intro X Q hX hR
  have hX : CXok X Y RX10 cX10_race 6 _ := hX
  revert hf
  show J X Y 6 Q 0 [(0, .ref (AD Y 186)), (1, .int v1), (2, .int v2)] [] G (f_X10_race v1 v2 G = some (r, G'))
  have K30 : ∀  (n : Nat) (v3 : Int32) (G : GM), J X Y 6 Q 30 [(0, .ref (AD Y 186)), (2, .int v2), (3, .int v3)] [] G (wl1 n (lp_X10_race_30 v1 v2) v3 G = some (r, G')) := by
    refine wl1_ind (R := fun v3 G φ => J X Y 6 Q 30 [(0, .ref (AD Y 186)), (2, .int v2), (3, .int v3)] [] G φ) (fun _ G φ h => J_no h) ?_
    intro kc30 hk30 v3 G
    unfold lp_X10_race_30
    have K46 : ∀ (v3 : Int32) (n : Nat) (v4 : Int32) (v5 : Int32) (G : GM), J X Y 6 Q 46 [(0, .ref (AD Y 186)), (2, .int v2), (3, .int v3), (4, .int v4), (5, .int v5)] [] G (wl2 n (lp_X10_race_46 v1 v2 v3 kc30) v4 v5 G = some (r, G')) := by
      intro v3
      refine wl2_ind (R := fun v4 v5 G φ => J X Y 6 Q 46 [(0, .ref (AD Y 186)), (2, .int v2), (3, .int v3), (4, .int v4), (5, .int v5)] [] G φ) (fun _ _ G φ h => J_no h) ?_
      intro kc46 hk46 v4 v5 G
      unfold lp_X10_race_46
      have K98 : ∀ (v5 : Int32) (s0 : Int32) (s1 : Int32) (G : GM), J X Y 6 Q 98 [(0, .ref (AD Y 186)), (2, .int v2), (3, .int v3), (5, .int v5)] [.int s0, .int s1] G (k_X10_race_98 v1 v2 v3 v5 s0 s1 kc30 kc46 G = some (r, G')) := by
        intro v5 s0 s1 G
        unfold k_X10_race_98
        refine J_iadd hX dX10_race_98 ?_
        refine J_lt (mk := Value.int) fun x99 => ?_
        refine J_istore (lv' := [(4, .int x99), (0, .ref (AD Y 186)), (2, .int v2), (3, .int v3), (5, .int v5)]) hX dX10_race_99 (Nat.le_of_ble_eq_true rfl) rfl ?_
        refine J_iinc (lv' := [(5, .int (v5 + (1 : Int32))), (4, .int x99), (0, .ref (AD Y 186)), (2, .int v2), (3, .int v3)]) 4 hX dX10_race_101 rfl ci_1 (Nat.le_of_ble_eq_true rfl) rfl ?_
        refine J_goto (tgt := 46) hX dX10_race_104 rfl ?_
        refine J_sub (lv' := [(0, .ref (AD Y 186)), (2, .int v2), (3, .int v3), (4, .int x99), (5, .int (v5 + (1 : Int32)))]) [2, 3, 4, 1, 0] rfl ?_
        exact hk46 x99 (v5 + (1 : Int32)) G
      have K97 : ∀ (v5 : Int32) (s0 : Int32) (G : GM), J X Y 6 Q 97 [(0, .ref (AD Y 186)), (2, .int v2), (3, .int v3), (5, .int v5)] [.int s0] G (k_X10_race_97 v1 v2 v3 v5 s0 kc30 kc46 G = some (r, G')) := by
        intro v5 s0 G
        unfold k_X10_race_97
        refine J_iconst hX dX10_race_97 ci_0 ?_
        exact K98 v5 (0 : Int32) s0 G
      have K93 : ∀ (v5 : Int32) (s0 : Int32) (G : GM), J X Y 6 Q 93 [(0, .ref (AD Y 186)), (2, .int v2), (3, .int v3), (5, .int v5)] [.int s0] G (k_X10_race_93 v1 v2 v3 v5 s0 kc30 kc46 G = some (r, G')) := by
        intro v5 s0 G
        unfold k_X10_race_93
        refine J_iconst hX dX10_race_93 ci_1 ?_
        refine J_goto (tgt := 98) hX dX10_race_94 rfl ?_
        exact K98 v5 (1 : Int32) s0 G
      refine J_iload 4 hX dX10_race_46 rfl ?_
      refine J_aload_n 0 hX dX10_race_48 fz0 rfl ?_
      refine J_getR (b := 193) hX dX10_race_49 lf_X10_34 sk_186 rfl (by decide) rfl ?_
      refine J_iconst hX dX10_race_52 ci_4 ?_
      refine J_iald hX dX10_race_53 sk_193 ln_193 ?_
      refine J_icmp_ge (tgt := 107) hX dX10_race_54 rfl ?_ ?_
      · refine J_iload 3 hX dX10_race_107 rfl ?_
        refine J_iload_n 1 hX dX10_race_109 fz2 rfl ?_
        refine J_icmp_ne (tgt := 124) hX dX10_race_110 rfl ?_ ?_
        · refine J_iinc (lv' := [(3, .int (v3 + (1 : Int32))), (0, .ref (AD Y 186)), (2, .int v2), (4, .int v4), (5, .int v5)]) 2 hX dX10_race_124 rfl ci_1 (Nat.le_of_ble_eq_true rfl) rfl ?_
          refine J_goto (tgt := 30) hX dX10_race_127 rfl ?_
          refine J_sub (lv' := [(0, .ref (AD Y 186)), (2, .int v2), (3, .int (v3 + (1 : Int32)))]) [1, 2, 0] rfl ?_
          exact hk30 (v3 + (1 : Int32)) G
        · refine J_aload_n 0 hX dX10_race_113 fz0 rfl ?_
          refine J_iload_n 2 hX dX10_race_114 fz3 rfl ?_
          refine J_callVI (As := [.int v3]) (st := []) (b := 186) hX mv_X10_418 sk_186 rfl rfl rfl (Nat.le_of_ble_eq_true rfl) (Nat.le_of_ble_eq_true rfl) (Nat.le_of_ble_eq_true rfl) dX10_race_115 (fun r G1 h => ok_X10_whenOf  h) fun r115 G115 => ?_
          refine J_iconst hX dX10_race_118 cim_1 ?_
          refine J_icmp_eq (tgt := 124) hX dX10_race_119 rfl ?_ ?_
          · refine J_iinc (lv' := [(3, .int (v3 + (1 : Int32))), (0, .ref (AD Y 186)), (2, .int v2), (4, .int v4), (5, .int v5)]) 2 hX dX10_race_124 rfl ci_1 (Nat.le_of_ble_eq_true rfl) rfl ?_
            refine J_goto (tgt := 30) hX dX10_race_127 rfl ?_
            refine J_sub (lv' := [(0, .ref (AD Y 186)), (2, .int v2), (3, .int (v3 + (1 : Int32)))]) [1, 2, 0] rfl ?_
            exact hk30 (v3 + (1 : Int32)) G115
          · refine J_iload_n 2 hX dX10_race_122 fz3 rfl ?_
            exact J_retI hR dX10_race_123
      · refine J_iload 3 hX dX10_race_57 rfl ?_
        refine J_aload_n 0 hX dX10_race_59 fz0 rfl ?_
        refine J_iload 4 hX dX10_race_60 rfl ?_
        refine J_callVI (As := [.int v5]) (st := [.int v4]) (b := 186) hX mv_X10_418 sk_186 rfl rfl rfl (Nat.le_of_ble_eq_true rfl) (Nat.le_of_ble_eq_true rfl) (Nat.le_of_ble_eq_true rfl) dX10_race_62 (fun r G1 h => ok_X10_whenOf  h) fun r62 G62 => ?_
        refine J_aload_n 0 hX dX10_race_65 fz0 rfl ?_
        refine J_iload_n 2 hX dX10_race_66 fz3 rfl ?_
        refine J_callVI (As := [.int v3]) (st := [.int r62, .int v4]) (b := 186) hX mv_X10_418 sk_186 rfl rfl rfl (Nat.le_of_ble_eq_true rfl) (Nat.le_of_ble_eq_true rfl) (Nat.le_of_ble_eq_true rfl) dX10_race_67 (fun r G1 h => ok_X10_whenOf  h) fun r67 G67 => ?_
        refine J_icmp_lt (tgt := 93) hX dX10_race_70 rfl ?_ ?_
        · refine J_sub (lv' := [(0, .ref (AD Y 186)), (2, .int v2), (3, .int v3), (5, .int v5)]) [0, 1, 2, 4] rfl ?_
          exact K93 v5 v4 G67
        · refine J_aload_n 0 hX dX10_race_73 fz0 rfl ?_
          refine J_iload 4 hX dX10_race_74 rfl ?_
          refine J_callVI (As := [.int v5]) (st := [.int v4]) (b := 186) hX mv_X10_418 sk_186 rfl rfl rfl (Nat.le_of_ble_eq_true rfl) (Nat.le_of_ble_eq_true rfl) (Nat.le_of_ble_eq_true rfl) dX10_race_76 (fun r G1 h => ok_X10_whenOf  h) fun r76 G76 => ?_
          refine J_aload_n 0 hX dX10_race_79 fz0 rfl ?_
          refine J_iload_n 2 hX dX10_race_80 fz3 rfl ?_
          refine J_callVI (As := [.int v3]) (st := [.int r76, .int v4]) (b := 186) hX mv_X10_418 sk_186 rfl rfl rfl (Nat.le_of_ble_eq_true rfl) (Nat.le_of_ble_eq_true rfl) (Nat.le_of_ble_eq_true rfl) dX10_race_81 (fun r G1 h => ok_X10_whenOf  h) fun r81 G81 => ?_
          refine J_icmp_ne (tgt := 97) hX dX10_race_84 rfl ?_ ?_
          · refine J_sub (lv' := [(0, .ref (AD Y 186)), (2, .int v2), (3, .int v3), (5, .int v5)]) [0, 1, 2, 4] rfl ?_
            exact K97 v5 v4 G81
          · refine J_iload 4 hX dX10_race_87 rfl ?_
            refine J_iload_n 2 hX dX10_race_89 fz3 rfl ?_
            refine J_icmp_ge (tgt := 97) hX dX10_race_90 rfl ?_ ?_
            · refine J_sub (lv' := [(0, .ref (AD Y 186)), (2, .int v2), (3, .int v3), (5, .int v5)]) [0, 1, 2, 4] rfl ?_
              exact K97 v5 v4 G81
            · refine J_sub (lv' := [(0, .ref (AD Y 186)), (2, .int v2), (3, .int v3), (5, .int v5)]) [0, 1, 2, 4] rfl ?_
              exact K93 v5 v4 G81
    refine J_iload_n 2 hX dX10_race_30 fz3 rfl ?_
    refine J_aload_n 0 hX dX10_race_31 fz0 rfl ?_
    refine J_getR (b := 193) hX dX10_race_32 lf_X10_34 sk_186 rfl (by decide) rfl ?_
    refine J_iconst hX dX10_race_35 ci_4 ?_
    refine J_iald hX dX10_race_36 sk_193 ln_193 ?_
    refine J_icmp_ge (tgt := 130) hX dX10_race_37 rfl ?_ ?_
    · refine J_iconst hX dX10_race_130 cim_1 ?_
      exact J_retI hR dX10_race_131
    · refine J_iconst hX dX10_race_40 ci_0 ?_
      refine J_istore (lv' := [(4, .int (0 : Int32)), (0, .ref (AD Y 186)), (2, .int v2), (3, .int v3)]) hX dX10_race_41 (Nat.le_of_ble_eq_true rfl) rfl ?_
      refine J_iconst hX dX10_race_43 ci_0 ?_
      refine J_istore (lv' := [(5, .int (0 : Int32)), (4, .int (0 : Int32)), (0, .ref (AD Y 186)), (2, .int v2), (3, .int v3)]) hX dX10_race_44 (Nat.le_of_ble_eq_true rfl) rfl ?_
      refine J_sub (lv' := [(0, .ref (AD Y 186)), (2, .int v2), (3, .int v3), (4, .int (0 : Int32)), (5, .int (0 : Int32))]) [2, 3, 4, 1, 0] rfl ?_
      exact K46 v3 FU (0 : Int32) (0 : Int32) G
  unfold f_X10_race
  refine J_aload_n 0 hX dX10_race_0 fz0 rfl ?_
  refine J_iconst hX dX10_race_1 ci_0 ?_
  refine J_putI hX dX10_race_2 lf_X10_95 lpt_9_0 sk_186 rfl fun G2 => ?_
  refine J_aload_n 0 hX dX10_race_5 fz0 rfl ?_
  refine J_callVI (As := []) (st := []) (b := 186) hX mv_X10_324 sk_186 rfl rfl rfl (Nat.le_of_ble_eq_true rfl) (Nat.le_of_ble_eq_true rfl) (Nat.le_of_ble_eq_true rfl) dX10_race_6 (fun r G1 h => ok_X10_isHall  h) fun r6 G6 => ?_
  refine J_if_eq (tgt := 19) hX dX10_race_9 rfl ?_ ?_
  · refine J_bipush hX dX10_race_19 cbm_2 ?_
    exact J_retI hR dX10_race_21
  · refine J_iload_n 1 hX dX10_race_12 fz1 rfl ?_
    refine J_callSI (As := [.int v1]) (st := []) hX ms_X10_361 rfl rfl (Nat.le_of_ble_eq_true rfl) (Nat.le_of_ble_eq_true rfl) (Nat.le_of_ble_eq_true rfl) dX10_race_13 (fun r G1 h => ok_X10_isKind  h) fun r13 G13 => ?_
    refine J_if_ne (tgt := 22) hX dX10_race_16 rfl ?_ ?_
    · refine J_aload_n 0 hX dX10_race_22 fz0 rfl ?_
      refine J_iconst hX dX10_race_23 ci_0 ?_
      refine J_iload_n 1 hX dX10_race_24 fz1 rfl ?_
      refine J_callVV (As := [.int (0 : Int32), .int v1]) (st := []) (b := 186) hX mv_X10_377 sk_186 rfl rfl rfl (Nat.le_of_ble_eq_true rfl) (Nat.le_of_ble_eq_true rfl) (Nat.le_of_ble_eq_true rfl) dX10_race_25 (fun G1 h => ok_X10_races  h) fun G25 => ?_
      refine J_iconst hX dX10_race_28 ci_0 ?_
      refine J_istore_n (lv' := [(3, .int (0 : Int32)), (0, .ref (AD Y 186)), (1, .int v1), (2, .int v2)]) hX dX10_race_29 fz3 (Nat.le_of_ble_eq_true rfl) rfl ?_
      refine J_sub (lv' := [(0, .ref (AD Y 186)), (2, .int v2), (3, .int (0 : Int32))]) [1, 3, 0] rfl ?_
      exact K30  FU (0 : Int32) G25
    · refine J_bipush hX dX10_race_19 cbm_2 ?_
      exact J_retI hR dX10_race_21
set_option maxHeartbeats 4000000 in
set_option maxRecDepth 100000 in
theorem ok_X10_winsInAll {Y : DX}   {G : GM} {r : Int32} {G' : GM} (hf : f_X10_winsInAll  G = some (r, G')) : OkI Y 31 M_X10_winsInAll [.ref (AD Y 186)] G r G' := by
  refine okI_of (lv0 := [(0, .ref (AD Y 186))]) (by decide +kernel) rfl (Nat.le_of_ble_eq_true rfl) ?_
  intro X Q hX hR
  have hX : CXok X Y RX10 cX10_winsInAll 3 _ := hX
  revert hf
  show J X Y 3 Q 0 [(0, .ref (AD Y 186))] [] G (f_X10_winsInAll  G = some (r, G'))
  have K4 : ∀  (n : Nat) (v1 : Int32) (v2 : Int32) (G : GM), J X Y 3 Q 4 [(0, .ref (AD Y 186)), (1, .int v1), (2, .int v2)] [] G (wl2 n (lp_X10_winsInAll_4 ) v1 v2 G = some (r, G')) := by
    refine wl2_ind (R := fun v1 v2 G φ => J X Y 3 Q 4 [(0, .ref (AD Y 186)), (1, .int v1), (2, .int v2)] [] G φ) (fun _ _ G φ h => J_no h) ?_
    intro kc4 hk4 v1 v2 G
    unfold lp_X10_winsInAll_4
    have K43 : ∀ (v2 : Int32) (s0 : Int32) (s1 : Int32) (s2 : Int32) (s3 : Int32) (G : GM), J X Y 3 Q 43 [(0, .ref (AD Y 186)), (2, .int v2)] [.int s0, .int s1, .int s2, .int s3] G (k_X10_winsInAll_43 v2 s0 s1 s2 s3 kc4 G = some (r, G')) := by
      intro v2 s0 s1 s2 s3 G
      unfold k_X10_winsInAll_43
      refine J_iadd hX dX10_winsInAll_43 ?_
      refine J_imul hX dX10_winsInAll_44 ?_
      refine J_iadd hX dX10_winsInAll_45 ?_
      refine J_lt (mk := Value.int) fun x46 => ?_
      refine J_istore_n (lv' := [(1, .int x46), (0, .ref (AD Y 186)), (2, .int v2)]) hX dX10_winsInAll_46 fz1 (Nat.le_of_ble_eq_true rfl) rfl ?_
      refine J_iinc (lv' := [(2, .int (v2 + (1 : Int32))), (1, .int x46), (0, .ref (AD Y 186))]) 2 hX dX10_winsInAll_47 rfl ci_1 (Nat.le_of_ble_eq_true rfl) rfl ?_
      refine J_goto (tgt := 4) hX dX10_winsInAll_50 rfl ?_
      refine J_sub (lv' := [(0, .ref (AD Y 186)), (1, .int x46), (2, .int (v2 + (1 : Int32)))]) [2, 1, 0] rfl ?_
      exact hk4 x46 (v2 + (1 : Int32)) G
    refine J_iload_n 2 hX dX10_winsInAll_4 fz2 rfl ?_
    refine J_iconst hX dX10_winsInAll_5 ci_3 ?_
    refine J_icmp_ge (tgt := 53) hX dX10_winsInAll_6 rfl ?_ ?_
    · refine J_iload_n 1 hX dX10_winsInAll_53 fz1 rfl ?_
      exact J_retI hR dX10_winsInAll_54
    · refine J_aload_n 0 hX dX10_winsInAll_9 fz0 rfl ?_
      refine J_iconst hX dX10_winsInAll_10 ci_0 ?_
      refine J_iload_n 2 hX dX10_winsInAll_11 fz2 rfl ?_
      refine J_callVV (As := [.int (0 : Int32), .int v2]) (st := []) (b := 186) hX mv_X10_377 sk_186 rfl rfl rfl (Nat.le_of_ble_eq_true rfl) (Nat.le_of_ble_eq_true rfl) (Nat.le_of_ble_eq_true rfl) dX10_winsInAll_12 (fun G1 h => ok_X10_races  h) fun G12 => ?_
      refine J_iload_n 1 hX dX10_winsInAll_15 fz1 rfl ?_
      refine J_aload_n 0 hX dX10_winsInAll_16 fz0 rfl ?_
      refine J_getI hX dX10_winsInAll_17 lf_X10_374 sk_186 rfl ?_
      refine J_aload_n 0 hX dX10_winsInAll_20 fz0 rfl ?_
      refine J_aload_n 0 hX dX10_winsInAll_21 fz0 rfl ?_
      refine J_getR (b := 195) hX dX10_winsInAll_22 lf_X10_40 sk_186 rfl (by decide) rfl ?_
      refine J_iload_n 2 hX dX10_winsInAll_25 fz2 rfl ?_
      refine J_iald hX dX10_winsInAll_26 sk_195 ln_195 ?_
      refine J_callVI (As := [.int (gI G12 195 v2.toNatClampNeg)]) (st := [.int (gI G12 186 41), .int v1]) (b := 186) hX mv_X10_383 sk_186 rfl rfl rfl (Nat.le_of_ble_eq_true rfl) (Nat.le_of_ble_eq_true rfl) (Nat.le_of_ble_eq_true rfl) dX10_winsInAll_27 (fun r G1 h => ok_X10_eachOf  h) fun r27 G27 => ?_
      refine J_iload_n 2 hX dX10_winsInAll_30 fz2 rfl ?_
      refine J_iconst hX dX10_winsInAll_31 ci_2 ?_
      refine J_icmp_ne (tgt := 42) hX dX10_winsInAll_32 rfl ?_ ?_
      · refine J_iconst hX dX10_winsInAll_42 ci_0 ?_
        refine J_sub (lv' := [(0, .ref (AD Y 186)), (2, .int v2)]) [0, 2] rfl ?_
        exact K43 v2 (0 : Int32) r27 (gI G12 186 41) v1 G27
      · refine J_aload_n 0 hX dX10_winsInAll_35 fz0 rfl ?_
        refine J_callVI (As := []) (st := [.int r27, .int (gI G12 186 41), .int v1]) (b := 186) hX mv_X10_386 sk_186 rfl rfl rfl (Nat.le_of_ble_eq_true rfl) (Nat.le_of_ble_eq_true rfl) (Nat.le_of_ble_eq_true rfl) dX10_winsInAll_36 (fun r G1 h => ok_X10_jackpotEach  h) fun r36 G36 => ?_
        refine J_goto (tgt := 43) hX dX10_winsInAll_39 rfl ?_
        refine J_sub (lv' := [(0, .ref (AD Y 186)), (2, .int v2)]) [0, 2] rfl ?_
        exact K43 v2 r36 r27 (gI G12 186 41) v1 G36
  unfold f_X10_winsInAll
  refine J_iconst hX dX10_winsInAll_0 ci_0 ?_
  refine J_istore_n (lv' := [(1, .int (0 : Int32)), (0, .ref (AD Y 186))]) hX dX10_winsInAll_1 fz1 (Nat.le_of_ble_eq_true rfl) rfl ?_
  refine J_iconst hX dX10_winsInAll_2 ci_0 ?_
  refine J_istore_n (lv' := [(2, .int (0 : Int32)), (1, .int (0 : Int32)), (0, .ref (AD Y 186))]) hX dX10_winsInAll_3 fz2 (Nat.le_of_ble_eq_true rfl) rfl ?_
  refine J_sub (lv' := [(0, .ref (AD Y 186)), (1, .int (0 : Int32)), (2, .int (0 : Int32))]) [2, 1, 0] rfl ?_
  exact K4  FU (0 : Int32) (0 : Int32) G
set_option maxHeartbeats 4000000 in
set_option maxRecDepth 100000 in
theorem ok_X10_share {Y : DX} {v1 : Int32} {v2 : Int32}  {G : GM} {r : Int32} {G' : GM} (hf : f_X10_share v1 v2 G = some (r, G')) : OkI Y 32 M_X10_share [.ref (AD Y 186), .int v1, .int v2] G r G' := by
  refine okI_of (lv0 := [(0, .ref (AD Y 186)), (1, .int v1), (2, .int v2)]) (by decide +kernel) rfl (Nat.le_of_ble_eq_true rfl) ?_
  intro X Q hX hR
  have hX : CXok X Y RX10 cX10_share 10 _ := hX
  revert hf
  show J X Y 10 Q 0 [(0, .ref (AD Y 186)), (1, .int v1), (2, .int v2)] [] G (f_X10_share v1 v2 G = some (r, G'))
  have K134 : ∀ (v4 : Int64) (v6 : Int32) (n : Nat) (v7 : Int32) (v8 : Int32) (G : GM), J X Y 10 Q 134 [(0, .ref (AD Y 186)), (1, .int v1), (2, .int v2), (4, .long v4), (6, .int v6), (7, .int v7), (8, .int v8)] [] G (wl2 n (lp_X10_share_134 v1 v2 v4 v6) v7 v8 G = some (r, G')) := by
    intro v4 v6
    refine wl2_ind (R := fun v7 v8 G φ => J X Y 10 Q 134 [(0, .ref (AD Y 186)), (1, .int v1), (2, .int v2), (4, .long v4), (6, .int v6), (7, .int v7), (8, .int v8)] [] G φ) (fun _ _ G φ h => J_no h) ?_
    intro kc134 hk134 v7 v8 G
    unfold lp_X10_share_134
    have K193 : ∀ (v8 : Int32) (s0 : Int32) (s1 : Int32) (G : GM), J X Y 10 Q 193 [(0, .ref (AD Y 186)), (1, .int v1), (2, .int v2), (4, .long v4), (6, .int v6), (8, .int v8)] [.int s0, .int s1] G (k_X10_share_193 v1 v2 v4 v6 v8 s0 s1 kc134 G = some (r, G')) := by
      intro v8 s0 s1 G
      unfold k_X10_share_193
      refine J_iadd hX dX10_share_193 ?_
      refine J_lt (mk := Value.int) fun x194 => ?_
      refine J_istore (lv' := [(7, .int x194), (0, .ref (AD Y 186)), (1, .int v1), (2, .int v2), (4, .long v4), (6, .int v6), (8, .int v8)]) hX dX10_share_194 (Nat.le_of_ble_eq_true rfl) rfl ?_
      refine J_iinc (lv' := [(8, .int (v8 + (1 : Int32))), (7, .int x194), (0, .ref (AD Y 186)), (1, .int v1), (2, .int v2), (4, .long v4), (6, .int v6)]) 6 hX dX10_share_196 rfl ci_1 (Nat.le_of_ble_eq_true rfl) rfl ?_
      refine J_goto (tgt := 134) hX dX10_share_199 rfl ?_
      refine J_sub (lv' := [(0, .ref (AD Y 186)), (1, .int v1), (2, .int v2), (4, .long v4), (6, .int v6), (7, .int x194), (8, .int (v8 + (1 : Int32)))]) [2, 3, 4, 5, 6, 1, 0] rfl ?_
      exact hk134 x194 (v8 + (1 : Int32)) G
    have K180 : ∀ (v7 : Int32) (v8 : Int32) (v9 : Int32) (G : GM), J X Y 10 Q 180 [(0, .ref (AD Y 186)), (1, .int v1), (2, .int v2), (4, .long v4), (6, .int v6), (7, .int v7), (8, .int v8), (9, .int v9)] [] G (k_X10_share_180 v1 v2 v4 v6 v7 v8 v9 kc134 G = some (r, G')) := by
      intro v7 v8 v9 G
      unfold k_X10_share_180
      refine J_iload 5 hX dX10_share_180 rfl ?_
      refine J_iload 6 hX dX10_share_182 rfl ?_
      refine J_if_le (tgt := 192) hX dX10_share_184 rfl ?_ ?_
      · refine J_iconst hX dX10_share_192 ci_0 ?_
        refine J_sub (lv' := [(0, .ref (AD Y 186)), (1, .int v1), (2, .int v2), (4, .long v4), (6, .int v6), (8, .int v8)]) [0, 1, 2, 3, 4, 6] rfl ?_
        exact K193 v8 (0 : Int32) v7 G
      · refine J_iload 7 hX dX10_share_187 rfl ?_
        refine J_goto (tgt := 193) hX dX10_share_189 rfl ?_
        refine J_sub (lv' := [(0, .ref (AD Y 186)), (1, .int v1), (2, .int v2), (4, .long v4), (6, .int v6), (8, .int v8)]) [0, 1, 2, 3, 4, 6] rfl ?_
        exact K193 v8 v9 v7 G
    refine J_iload 6 hX dX10_share_134 rfl ?_
    refine J_aload_n 0 hX dX10_share_136 fz0 rfl ?_
    refine J_getR (b := 188) hX dX10_share_137 lf_X10_13 sk_186 rfl (by decide) rfl ?_
    refine J_iload_n 1 hX dX10_share_140 fz1 rfl ?_
    refine J_iald hX dX10_share_141 sk_188 ln_188 ?_
    refine J_icmp_ge (tgt := 202) hX dX10_share_142 rfl ?_ ?_
    · refine J_iload 4 hX dX10_share_202 rfl ?_
      refine J_iload 5 hX dX10_share_204 rfl ?_
      refine J_isub hX dX10_share_206 ?_
      exact J_retI hR dX10_share_207
    · refine J_iload 4 hX dX10_share_145 rfl ?_
      refine J_i2l hX dX10_share_147 ?_
      refine J_aload_n 0 hX dX10_share_148 fz0 rfl ?_
      refine J_getR (b := 189) hX dX10_share_149 lf_X10_16 sk_186 rfl (by decide) rfl ?_
      refine J_bipush hX dX10_share_152 cb_60 ?_
      refine J_iload_n 1 hX dX10_share_154 fz1 rfl ?_
      refine J_imul hX dX10_share_155 ?_
      refine J_iload 6 hX dX10_share_156 rfl ?_
      refine J_iadd hX dX10_share_158 ?_
      refine J_lald hX dX10_share_159 sk_189 ln_189 ?_
      refine J_lmul hX dX10_share_160 ?_
      refine J_lload 3 hX dX10_share_161 rfl ?_
      refine J_ldiv hX dX10_share_163 ?_
      refine J_l2i hX dX10_share_164 ?_
      refine J_lt (mk := Value.int) fun x165 => ?_
      refine J_istore (lv' := [(9, .int x165), (0, .ref (AD Y 186)), (1, .int v1), (2, .int v2), (4, .long v4), (6, .int v6), (7, .int v7), (8, .int v8)]) hX dX10_share_165 (Nat.le_of_ble_eq_true rfl) rfl ?_
      refine J_iload 7 hX dX10_share_167 rfl ?_
      refine J_iload_n 3 hX dX10_share_169 fz2 rfl ?_
      refine J_icmp_ne (tgt := 180) hX dX10_share_170 rfl ?_ ?_
      · refine J_sub (lv' := [(0, .ref (AD Y 186)), (1, .int v1), (2, .int v2), (4, .long v4), (6, .int v6), (7, .int v7), (8, .int v8), (9, .int x165)]) [1, 2, 3, 4, 5, 6, 7, 0] rfl ?_
        exact K180 v7 v8 x165 G
      · refine J_iload_n 3 hX dX10_share_173 fz2 rfl ?_
        refine J_if_le (tgt := 180) hX dX10_share_174 rfl ?_ ?_
        · refine J_sub (lv' := [(0, .ref (AD Y 186)), (1, .int v1), (2, .int v2), (4, .long v4), (6, .int v6), (7, .int v7), (8, .int v8), (9, .int x165)]) [1, 2, 3, 4, 5, 6, 7, 0] rfl ?_
          exact K180 v7 v8 x165 G
        · refine J_iload 0 hX dX10_share_177 rfl ?_
          exact J_retI hR dX10_share_179
  have K43 : ∀  (n : Nat) (v4 : Int64) (v6 : Int32) (G : GM), J X Y 10 Q 43 [(0, .ref (AD Y 186)), (1, .int v1), (2, .int v2), (4, .long v4), (6, .int v6)] [] G (wl2 n (lp_X10_share_43 v1 v2) v4 v6 G = some (r, G')) := by
    refine wl2_ind (R := fun v4 v6 G φ => J X Y 10 Q 43 [(0, .ref (AD Y 186)), (1, .int v1), (2, .int v2), (4, .long v4), (6, .int v6)] [] G φ) (fun _ _ G φ h => J_no h) ?_
    intro kc43 hk43 v4 v6 G
    unfold lp_X10_share_43
    refine J_iload 4 hX dX10_share_43 rfl ?_
    refine J_aload_n 0 hX dX10_share_45 fz0 rfl ?_
    refine J_getR (b := 188) hX dX10_share_46 lf_X10_13 sk_186 rfl (by decide) rfl ?_
    refine J_iload_n 1 hX dX10_share_49 fz1 rfl ?_
    refine J_iald hX dX10_share_50 sk_188 ln_188 ?_
    refine J_icmp_ge (tgt := 102) hX dX10_share_51 rfl ?_ ?_
    · refine J_iload_n 2 hX dX10_share_102 fz2 rfl ?_
      refine J_i2l hX dX10_share_103 ?_
      refine J_lconst hX dX10_share_104 fy0 ?_
      refine J_aload_n 0 hX dX10_share_105 fz0 rfl ?_
      refine J_getR (b := 188) hX dX10_share_106 lf_X10_13 sk_186 rfl (by decide) rfl ?_
      refine J_iload_n 1 hX dX10_share_109 fz1 rfl ?_
      refine J_iald hX dX10_share_110 sk_188 ln_188 ?_
      refine J_iconst hX dX10_share_111 ci_1 ?_
      refine J_isub hX dX10_share_112 ?_
      refine J_i2l hX dX10_share_113 ?_
      refine J_callSI (As := [.long (v2.toInt64), .long (0 : Int64), .long (((gI G 188 v1.toNatClampNeg) - (1 : Int32)).toInt64)]) (st := []) hX ms_X10_100 rfl rfl (Nat.le_of_ble_eq_true rfl) (Nat.le_of_ble_eq_true rfl) (Nat.le_of_ble_eq_true rfl) dX10_share_114 (fun r G1 h => ok_X10_in  h) fun r114 G114 => ?_
      refine J_if_ne (tgt := 122) hX dX10_share_117 rfl ?_ ?_
      · refine J_aload_n 0 hX dX10_share_122 fz0 rfl ?_
        refine J_callVI (As := []) (st := []) (b := 186) hX mv_X10_421 sk_186 rfl rfl rfl (Nat.le_of_ble_eq_true rfl) (Nat.le_of_ble_eq_true rfl) (Nat.le_of_ble_eq_true rfl) dX10_share_123 (fun r G1 h => ok_X10_winsInAll  h) fun r123 G123 => ?_
        refine J_istore (lv' := [(6, .int r123), (0, .ref (AD Y 186)), (1, .int v1), (2, .int v2), (4, .long v4)]) hX dX10_share_126 (Nat.le_of_ble_eq_true rfl) rfl ?_
        refine J_iconst hX dX10_share_128 ci_0 ?_
        refine J_istore (lv' := [(7, .int (0 : Int32)), (6, .int r123), (0, .ref (AD Y 186)), (1, .int v1), (2, .int v2), (4, .long v4)]) hX dX10_share_129 (Nat.le_of_ble_eq_true rfl) rfl ?_
        refine J_iconst hX dX10_share_131 ci_0 ?_
        refine J_istore (lv' := [(8, .int (0 : Int32)), (7, .int (0 : Int32)), (6, .int r123), (0, .ref (AD Y 186)), (1, .int v1), (2, .int v2), (4, .long v4)]) hX dX10_share_132 (Nat.le_of_ble_eq_true rfl) rfl ?_
        refine J_sub (lv' := [(0, .ref (AD Y 186)), (1, .int v1), (2, .int v2), (4, .long v4), (6, .int r123), (7, .int (0 : Int32)), (8, .int (0 : Int32))]) [3, 4, 5, 6, 2, 1, 0] rfl ?_
        exact K134 v4 r123 FU (0 : Int32) (0 : Int32) G123
      · refine J_iconst hX dX10_share_120 cim_1 ?_
        exact J_retI hR dX10_share_121
    · refine J_aload_n 0 hX dX10_share_54 fz0 rfl ?_
      refine J_getR (b := 189) hX dX10_share_55 lf_X10_16 sk_186 rfl (by decide) rfl ?_
      refine J_bipush hX dX10_share_58 cb_60 ?_
      refine J_iload_n 1 hX dX10_share_60 fz1 rfl ?_
      refine J_imul hX dX10_share_61 ?_
      refine J_iload 4 hX dX10_share_62 rfl ?_
      refine J_iadd hX dX10_share_64 ?_
      refine J_lald hX dX10_share_65 sk_189 ln_189 ?_
      refine J_lconst hX dX10_share_66 fy1 ?_
      refine J_ldc2 hX dX10_share_67 ll_X10_327 ?_
      refine J_callSI (As := [.long (gJ G 189 (((60 : Int32) * v1) + v6).toNatClampNeg), .long (1 : Int64), .long (9999 : Int64)]) (st := []) hX ms_X10_100 rfl rfl (Nat.le_of_ble_eq_true rfl) (Nat.le_of_ble_eq_true rfl) (Nat.le_of_ble_eq_true rfl) dX10_share_70 (fun r G1 h => ok_X10_in  h) fun r70 G70 => ?_
      refine J_if_ne (tgt := 79) hX dX10_share_73 rfl ?_ ?_
      · refine J_lload 3 hX dX10_share_79 rfl ?_
        refine J_aload_n 0 hX dX10_share_81 fz0 rfl ?_
        refine J_getR (b := 189) hX dX10_share_82 lf_X10_16 sk_186 rfl (by decide) rfl ?_
        refine J_bipush hX dX10_share_85 cb_60 ?_
        refine J_iload_n 1 hX dX10_share_87 fz1 rfl ?_
        refine J_imul hX dX10_share_88 ?_
        refine J_iload 4 hX dX10_share_89 rfl ?_
        refine J_iadd hX dX10_share_91 ?_
        refine J_lald hX dX10_share_92 sk_189 ln_189 ?_
        refine J_ladd hX dX10_share_93 ?_
        refine J_lt (mk := Value.long) fun x94 => ?_
        refine J_lstore (lv' := [(4, .long x94), (0, .ref (AD Y 186)), (1, .int v1), (2, .int v2), (6, .int v6)]) hX dX10_share_94 (Nat.le_of_ble_eq_true rfl) rfl ?_
        refine J_iinc (lv' := [(6, .int (v6 + (1 : Int32))), (4, .long x94), (0, .ref (AD Y 186)), (1, .int v1), (2, .int v2)]) 4 hX dX10_share_96 rfl ci_1 (Nat.le_of_ble_eq_true rfl) rfl ?_
        refine J_goto (tgt := 43) hX dX10_share_99 rfl ?_
        refine J_sub (lv' := [(0, .ref (AD Y 186)), (1, .int v1), (2, .int v2), (4, .long x94), (6, .int (v6 + (1 : Int32)))]) [2, 3, 4, 1, 0] rfl ?_
        exact hk43 x94 (v6 + (1 : Int32)) G70
      · refine J_bipush hX dX10_share_76 cbm_2 ?_
        exact J_retI hR dX10_share_78
  unfold f_X10_share
  refine J_aload_n 0 hX dX10_share_0 fz0 rfl ?_
  refine J_iconst hX dX10_share_1 ci_0 ?_
  refine J_putI hX dX10_share_2 lf_X10_95 lpt_9_0 sk_186 rfl fun G2 => ?_
  refine J_aload_n 0 hX dX10_share_5 fz0 rfl ?_
  refine J_iload_n 1 hX dX10_share_6 fz1 rfl ?_
  refine J_callVI (As := [.int v1]) (st := []) (b := 186) hX mv_X10_339 sk_186 rfl rfl rfl (Nat.le_of_ble_eq_true rfl) (Nat.le_of_ble_eq_true rfl) (Nat.le_of_ble_eq_true rfl) dX10_share_7 (fun r G1 h => ok_X10_whyNot  h) fun r7 G7 => ?_
  refine J_istore_n (lv' := [(3, .int r7), (0, .ref (AD Y 186)), (1, .int v1), (2, .int v2)]) hX dX10_share_10 fz3 (Nat.le_of_ble_eq_true rfl) rfl ?_
  refine J_iload_n 0 hX dX10_share_11 fz3 rfl ?_
  refine J_if_eq (tgt := 17) hX dX10_share_12 rfl ?_ ?_
  · refine J_aload_n 1 hX dX10_share_17 fz0 rfl ?_
    refine J_getR (b := 188) hX dX10_share_18 lf_X10_13 sk_186 rfl (by decide) rfl ?_
    refine J_iload_n 2 hX dX10_share_21 fz1 rfl ?_
    refine J_iald hX dX10_share_22 sk_188 ln_188 ?_
    refine J_i2l hX dX10_share_23 ?_
    refine J_lconst hX dX10_share_24 fy1 ?_
    refine J_ldc2 hX dX10_share_25 ll_X10_413 ?_
    refine J_callSI (As := [.long ((gI G7 188 v1.toNatClampNeg).toInt64), .long (1 : Int64), .long (8 : Int64)]) (st := []) hX ms_X10_100 rfl rfl (Nat.le_of_ble_eq_true rfl) (Nat.le_of_ble_eq_true rfl) (Nat.le_of_ble_eq_true rfl) dX10_share_28 (fun r G1 h => ok_X10_in  h) fun r28 G28 => ?_
    refine J_if_ne (tgt := 37) hX dX10_share_31 rfl ?_ ?_
    · refine J_lconst hX dX10_share_37 fy0 ?_
      refine J_lstore (lv' := [(4, .long (0 : Int64)), (3, .int r7), (0, .ref (AD Y 186)), (1, .int v1), (2, .int v2)]) hX dX10_share_38 (Nat.le_of_ble_eq_true rfl) rfl ?_
      refine J_iconst hX dX10_share_40 ci_0 ?_
      refine J_istore (lv' := [(6, .int (0 : Int32)), (4, .long (0 : Int64)), (3, .int r7), (0, .ref (AD Y 186)), (1, .int v1), (2, .int v2)]) hX dX10_share_41 (Nat.le_of_ble_eq_true rfl) rfl ?_
      refine J_sub (lv' := [(0, .ref (AD Y 186)), (1, .int v1), (2, .int v2), (4, .long (0 : Int64)), (6, .int (0 : Int32))]) [3, 4, 5, 1, 0] rfl ?_
      exact K43  FU (0 : Int64) (0 : Int32) G28
    · refine J_bipush hX dX10_share_34 cbm_2 ?_
      exact J_retI hR dX10_share_36
  · refine J_iload_n 0 hX dX10_share_15 fz3 rfl ?_
    exact J_retI hR dX10_share_16
set_option maxHeartbeats 4000000 in
set_option maxRecDepth 100000 in
theorem ok_X10_choose {Y : DX} {v0 : Int32} {v1 : Int32}  {G : GM} {r : Int64} {G' : GM} (hf : f_X10_choose v0 v1 G = some (r, G')) : OkJ Y 1 M_X10_choose [.int v0, .int v1] G r G' := by
  refine okJ_of (lv0 := [(0, .int v0), (1, .int v1)]) (by decide +kernel) rfl (Nat.le_of_ble_eq_true rfl) ?_
  intro X Q hX hR
  have hX : CXok X Y RX10 cX10_choose 5 _ := hX
  revert hf
  show J X Y 5 Q 0 [(0, .int v0), (1, .int v1)] [] G (f_X10_choose v0 v1 G = some (r, G'))
  have K16 : ∀  (n : Nat) (v2 : Int64) (v4 : Int32) (G : GM), J X Y 5 Q 16 [(0, .int v0), (1, .int v1), (2, .long v2), (4, .int v4)] [] G (wl2 n (lp_X10_choose_16 v0 v1) v2 v4 G = some (r, G')) := by
    refine wl2_ind (R := fun v2 v4 G φ => J X Y 5 Q 16 [(0, .int v0), (1, .int v1), (2, .long v2), (4, .int v4)] [] G φ) (fun _ _ G φ h => J_no h) ?_
    intro kc16 hk16 v2 v4 G
    unfold lp_X10_choose_16
    refine J_iload 3 hX dX10_choose_16 rfl ?_
    refine J_iload_n 1 hX dX10_choose_18 fz1 rfl ?_
    refine J_icmp_ge (tgt := 42) hX dX10_choose_19 rfl ?_ ?_
    · refine J_lload_n 2 hX dX10_choose_42 fz2 rfl ?_
      exact J_retJ hR dX10_choose_43
    · refine J_lload_n 2 hX dX10_choose_22 fz2 rfl ?_
      refine J_iload_n 0 hX dX10_choose_23 fz0 rfl ?_
      refine J_iload 3 hX dX10_choose_24 rfl ?_
      refine J_isub hX dX10_choose_26 ?_
      refine J_i2l hX dX10_choose_27 ?_
      refine J_lmul hX dX10_choose_28 ?_
      refine J_iload 3 hX dX10_choose_29 rfl ?_
      refine J_iconst hX dX10_choose_31 ci_1 ?_
      refine J_iadd hX dX10_choose_32 ?_
      refine J_i2l hX dX10_choose_33 ?_
      refine J_ldiv hX dX10_choose_34 ?_
      refine J_lt (mk := Value.long) fun x35 => ?_
      refine J_lstore_n (lv' := [(2, .long x35), (0, .int v0), (1, .int v1), (4, .int v4)]) hX dX10_choose_35 fz2 (Nat.le_of_ble_eq_true rfl) rfl ?_
      refine J_iinc (lv' := [(4, .int (v4 + (1 : Int32))), (2, .long x35), (0, .int v0), (1, .int v1)]) 3 hX dX10_choose_36 rfl ci_1 (Nat.le_of_ble_eq_true rfl) rfl ?_
      refine J_goto (tgt := 16) hX dX10_choose_39 rfl ?_
      refine J_sub (lv' := [(0, .int v0), (1, .int v1), (2, .long x35), (4, .int (v4 + (1 : Int32)))]) [2, 3, 1, 0] rfl ?_
      exact hk16 x35 (v4 + (1 : Int32)) G
  unfold f_X10_choose
  refine J_iload_n 1 hX dX10_choose_0 fz1 rfl ?_
  refine J_if_lt (tgt := 9) hX dX10_choose_1 rfl ?_ ?_
  · refine J_lconst hX dX10_choose_9 fy0 ?_
    exact J_retJ hR dX10_choose_10
  · refine J_iload_n 1 hX dX10_choose_4 fz1 rfl ?_
    refine J_iload_n 0 hX dX10_choose_5 fz0 rfl ?_
    refine J_icmp_le (tgt := 11) hX dX10_choose_6 rfl ?_ ?_
    · refine J_lconst hX dX10_choose_11 fy1 ?_
      refine J_lstore_n (lv' := [(2, .long (1 : Int64)), (0, .int v0), (1, .int v1)]) hX dX10_choose_12 fz2 (Nat.le_of_ble_eq_true rfl) rfl ?_
      refine J_iconst hX dX10_choose_13 ci_0 ?_
      refine J_istore (lv' := [(4, .int (0 : Int32)), (2, .long (1 : Int64)), (0, .int v0), (1, .int v1)]) hX dX10_choose_14 (Nat.le_of_ble_eq_true rfl) rfl ?_
      refine J_sub (lv' := [(0, .int v0), (1, .int v1), (2, .long (1 : Int64)), (4, .int (0 : Int32))]) [2, 3, 1, 0] rfl ?_
      exact K16  FU (1 : Int64) (0 : Int32) G
    · refine J_lconst hX dX10_choose_9 fy0 ?_
      exact J_retJ hR dX10_choose_10
set_option maxHeartbeats 4000000 in
set_option maxRecDepth 100000 in
theorem ok_X10_setsOf {Y : DX} {v1 : Int32} {v2 : Int32} {v3 : Int32} {v4 : Int32}  {G : GM} {r : Int64} {G' : GM} (hf : f_X10_setsOf v1 v2 v3 v4 G = some (r, G')) : OkJ Y 4 M_X10_setsOf [.ref (AD Y 186), .int v1, .int v2, .int v3, .int v4] G r G' := by
  refine okJ_of (lv0 := [(0, .ref (AD Y 186)), (1, .int v1), (2, .int v2), (3, .int v3), (4, .int v4)]) (by decide +kernel) rfl (Nat.le_of_ble_eq_true rfl) ?_
  intro X Q hX hR
  have hX : CXok X Y RX10 cX10_setsOf 10 _ := hX
  revert hf
  show J X Y 10 Q 0 [(0, .ref (AD Y 186)), (1, .int v1), (2, .int v2), (3, .int v3), (4, .int v4)] [] G (f_X10_setsOf v1 v2 v3 v4 G = some (r, G'))
  have K6 : ∀  (n : Nat) (v5 : Int64) (v7 : Int32) (G : GM), J X Y 10 Q 6 [(0, .ref (AD Y 186)), (1, .int v1), (2, .int v2), (3, .int v3), (4, .int v4), (5, .long v5), (7, .int v7)] [] G (wl2 n (lp_X10_setsOf_6 v1 v2 v3 v4) v5 v7 G = some (r, G')) := by
    refine wl2_ind (R := fun v5 v7 G φ => J X Y 10 Q 6 [(0, .ref (AD Y 186)), (1, .int v1), (2, .int v2), (3, .int v3), (4, .int v4), (5, .long v5), (7, .int v7)] [] G φ) (fun _ _ G φ h => J_no h) ?_
    intro kc6 hk6 v5 v7 G
    unfold lp_X10_setsOf_6
    have K28 : ∀ (v5 : Int64) (v7 : Int32) (s0 : Int64) (G : GM), J X Y 10 Q 28 [(0, .ref (AD Y 186)), (1, .int v1), (2, .int v2), (3, .int v3), (4, .int v4), (5, .long v5), (7, .int v7)] [.long s0] G (k_X10_setsOf_28 v1 v2 v3 v4 v5 v7 s0 kc6 G = some (r, G')) := by
      intro v5 v7 s0 G
      unfold k_X10_setsOf_28
      refine J_lstore (lv' := [(8, .long s0), (0, .ref (AD Y 186)), (1, .int v1), (2, .int v2), (3, .int v3), (4, .int v4), (5, .long v5), (7, .int v7)]) hX dX10_setsOf_28 (Nat.le_of_ble_eq_true rfl) rfl ?_
      refine J_lload 6 hX dX10_setsOf_30 rfl ?_
      refine J_lload 0 hX dX10_setsOf_32 rfl ?_
      refine J_iload 7 hX dX10_setsOf_34 rfl ?_
      refine J_iconst hX dX10_setsOf_36 ci_1 ?_
      refine J_isub hX dX10_setsOf_37 ?_
      refine J_iload_n 4 hX dX10_setsOf_38 fz3 rfl ?_
      refine J_iconst hX dX10_setsOf_39 ci_1 ?_
      refine J_isub hX dX10_setsOf_40 ?_
      refine J_callSJ (As := [.int (v7 - (1 : Int32)), .int (v3 - (1 : Int32))]) (st := [.long s0, .long v5]) hX ms_X10_424 rfl rfl (Nat.le_of_ble_eq_true rfl) (Nat.le_of_ble_eq_true rfl) (Nat.le_of_ble_eq_true rfl) dX10_setsOf_41 (fun r G1 h => ok_X10_choose  h) fun r41 G41 => ?_
      refine J_lmul hX dX10_setsOf_44 ?_
      refine J_iload_n 2 hX dX10_setsOf_45 fz1 rfl ?_
      refine J_iload 7 hX dX10_setsOf_46 rfl ?_
      refine J_callSJ (As := [.int v1, .int v7]) (st := [.long (s0 * r41), .long v5]) hX ms_X10_424 rfl rfl (Nat.le_of_ble_eq_true rfl) (Nat.le_of_ble_eq_true rfl) (Nat.le_of_ble_eq_true rfl) dX10_setsOf_48 (fun r G1 h => ok_X10_choose  h) fun r48 G48 => ?_
      refine J_lmul hX dX10_setsOf_51 ?_
      refine J_aload_n 1 hX dX10_setsOf_52 fz0 rfl ?_
      refine J_callVI (As := []) (st := [.long ((s0 * r41) * r48), .long v5]) (b := 186) hX mv_X10_332 sk_186 rfl rfl rfl (Nat.le_of_ble_eq_true rfl) (Nat.le_of_ble_eq_true rfl) (Nat.le_of_ble_eq_true rfl) dX10_setsOf_53 (fun r G1 h => ok_X10_all  h) fun r53 G53 => ?_
      refine J_iload 7 hX dX10_setsOf_56 rfl ?_
      refine J_iload_n 3 hX dX10_setsOf_58 fz2 rfl ?_
      refine J_imul hX dX10_setsOf_59 ?_
      refine J_isub hX dX10_setsOf_60 ?_
      refine J_iload 5 hX dX10_setsOf_61 rfl ?_
      refine J_iload 7 hX dX10_setsOf_63 rfl ?_
      refine J_iload_n 3 hX dX10_setsOf_65 fz2 rfl ?_
      refine J_imul hX dX10_setsOf_66 ?_
      refine J_isub hX dX10_setsOf_67 ?_
      refine J_callSJ (As := [.int (r53 - (v7 * v2)), .int (v4 - (v7 * v2))]) (st := [.long ((s0 * r41) * r48), .long v5]) hX ms_X10_424 rfl rfl (Nat.le_of_ble_eq_true rfl) (Nat.le_of_ble_eq_true rfl) (Nat.le_of_ble_eq_true rfl) dX10_setsOf_68 (fun r G1 h => ok_X10_choose  h) fun r68 G68 => ?_
      refine J_lmul hX dX10_setsOf_71 ?_
      refine J_ladd hX dX10_setsOf_72 ?_
      refine J_lt (mk := Value.long) fun x73 => ?_
      refine J_lstore (lv' := [(5, .long x73), (8, .long s0), (0, .ref (AD Y 186)), (1, .int v1), (2, .int v2), (3, .int v3), (4, .int v4), (7, .int v7)]) hX dX10_setsOf_73 (Nat.le_of_ble_eq_true rfl) rfl ?_
      refine J_iinc (lv' := [(7, .int (v7 + (1 : Int32))), (5, .long x73), (8, .long s0), (0, .ref (AD Y 186)), (1, .int v1), (2, .int v2), (3, .int v3), (4, .int v4)]) 7 hX dX10_setsOf_75 rfl ci_1 (Nat.le_of_ble_eq_true rfl) rfl ?_
      refine J_goto (tgt := 6) hX dX10_setsOf_78 rfl ?_
      refine J_sub (lv' := [(0, .ref (AD Y 186)), (1, .int v1), (2, .int v2), (3, .int v3), (4, .int v4), (5, .long x73), (7, .int (v7 + (1 : Int32)))]) [3, 4, 5, 6, 7, 1, 0] rfl ?_
      exact hk6 x73 (v7 + (1 : Int32)) G68
    refine J_iload 6 hX dX10_setsOf_6 rfl ?_
    refine J_iload_n 1 hX dX10_setsOf_8 fz1 rfl ?_
    refine J_icmp_gt (tgt := 81) hX dX10_setsOf_9 rfl ?_ ?_
    · refine J_lload 5 hX dX10_setsOf_81 rfl ?_
      exact J_retJ hR dX10_setsOf_83
    · refine J_iload 6 hX dX10_setsOf_12 rfl ?_
      refine J_iload_n 3 hX dX10_setsOf_14 fz3 rfl ?_
      refine J_isub hX dX10_setsOf_15 ?_
      refine J_iconst hX dX10_setsOf_16 ci_2 ?_
      refine J_iremc hX dX10_setsOf_17 (by decide) ?_
      refine J_if_ne (tgt := 25) hX dX10_setsOf_18 rfl ?_ ?_
      · refine J_ldc2 hX dX10_setsOf_25 ll_X10_139 ?_
        exact K28 v5 v7 (-1 : Int64) G
      · refine J_lconst hX dX10_setsOf_21 fy1 ?_
        refine J_goto (tgt := 28) hX dX10_setsOf_22 rfl ?_
        exact K28 v5 v7 (1 : Int64) G
  unfold f_X10_setsOf
  refine J_lconst hX dX10_setsOf_0 fy0 ?_
  refine J_lstore (lv' := [(5, .long (0 : Int64)), (0, .ref (AD Y 186)), (1, .int v1), (2, .int v2), (3, .int v3), (4, .int v4)]) hX dX10_setsOf_1 (Nat.le_of_ble_eq_true rfl) rfl ?_
  refine J_iload_n 4 hX dX10_setsOf_3 fz3 rfl ?_
  refine J_istore (lv' := [(7, .int v3), (5, .long (0 : Int64)), (0, .ref (AD Y 186)), (1, .int v1), (2, .int v2), (3, .int v3), (4, .int v4)]) hX dX10_setsOf_4 (Nat.le_of_ble_eq_true rfl) rfl ?_
  refine J_sub (lv' := [(0, .ref (AD Y 186)), (1, .int v1), (2, .int v2), (3, .int v3), (4, .int v4), (5, .long (0 : Int64)), (7, .int v3)]) [2, 3, 4, 5, 6, 1, 0] rfl ?_
  exact K6  FU (0 : Int64) v3 G
set_option maxHeartbeats 4000000 in
set_option maxRecDepth 100000 in
theorem ok_X10_setsOfKind {Y : DX} {v1 : Int32} {v2 : Int32}  {G : GM} {r : Int64} {G' : GM} (hf : f_X10_setsOfKind v1 v2 G = some (r, G')) : OkJ Y 5 M_X10_setsOfKind [.ref (AD Y 186), .int v1, .int v2] G r G' := by
  refine okJ_of (lv0 := [(0, .ref (AD Y 186)), (1, .int v1), (2, .int v2)]) (by decide +kernel) rfl (Nat.le_of_ble_eq_true rfl) ?_
  intro X Q hX hR
  have hX : CXok X Y RX10 cX10_setsOfKind 4 _ := hX
  revert hf
  show J X Y 4 Q 0 [(0, .ref (AD Y 186)), (1, .int v1), (2, .int v2)] [] G (f_X10_setsOfKind v1 v2 G = some (r, G'))
  unfold f_X10_setsOfKind
  refine J_aload_n 0 hX dX10_setsOfKind_0 fz0 rfl ?_
  refine J_getR (b := 193) hX dX10_setsOfKind_1 lf_X10_34 sk_186 rfl (by decide) rfl ?_
  refine J_iconst hX dX10_setsOfKind_4 ci_1 ?_
  refine J_iald hX dX10_setsOfKind_5 sk_193 ln_193 ?_
  refine J_lt (mk := Value.int) fun x6 => ?_
  refine J_istore_n (lv' := [(3, .int x6), (0, .ref (AD Y 186)), (1, .int v1), (2, .int v2)]) hX dX10_setsOfKind_6 fz3 (Nat.le_of_ble_eq_true rfl) rfl ?_
  refine J_iload_n 2 hX dX10_setsOfKind_7 fz1 rfl ?_
  refine J_iconst hX dX10_setsOfKind_8 ci_2 ?_
  refine J_icmp_ne (tgt := 30) hX dX10_setsOfKind_9 rfl ?_ ?_
  · refine J_aload_n 1 hX dX10_setsOfKind_30 fz0 rfl ?_
    refine J_iload_n 0 hX dX10_setsOfKind_31 fz3 rfl ?_
    refine J_aload_n 1 hX dX10_setsOfKind_32 fz0 rfl ?_
    refine J_getR (b := 193) hX dX10_setsOfKind_33 lf_X10_34 sk_186 rfl (by decide) rfl ?_
    refine J_iconst hX dX10_setsOfKind_36 ci_2 ?_
    refine J_iald hX dX10_setsOfKind_37 sk_193 ln_193 ?_
    refine J_iload_n 2 hX dX10_setsOfKind_38 fz1 rfl ?_
    refine J_iconst hX dX10_setsOfKind_39 ci_1 ?_
    refine J_iadd hX dX10_setsOfKind_40 ?_
    refine J_iload_n 3 hX dX10_setsOfKind_41 fz2 rfl ?_
    refine J_callVJ (As := [.int x6, .int (gI G 193 (2 : Int32).toNatClampNeg), .int (v1 + (1 : Int32)), .int v2]) (st := []) (b := 186) hX mv_X10_428 sk_186 rfl rfl rfl (Nat.le_of_ble_eq_true rfl) (Nat.le_of_ble_eq_true rfl) (Nat.le_of_ble_eq_true rfl) dX10_setsOfKind_42 (fun r G1 h => ok_X10_setsOf  h) fun r42 G42 => ?_
    exact J_retJ hR dX10_setsOfKind_45
  · refine J_aload_n 1 hX dX10_setsOfKind_12 fz0 rfl ?_
    refine J_iconst hX dX10_setsOfKind_13 ci_1 ?_
    refine J_iload_n 0 hX dX10_setsOfKind_14 fz3 rfl ?_
    refine J_aload_n 1 hX dX10_setsOfKind_15 fz0 rfl ?_
    refine J_getR (b := 193) hX dX10_setsOfKind_16 lf_X10_34 sk_186 rfl (by decide) rfl ?_
    refine J_iconst hX dX10_setsOfKind_19 ci_2 ?_
    refine J_iald hX dX10_setsOfKind_20 sk_193 ln_193 ?_
    refine J_imul hX dX10_setsOfKind_21 ?_
    refine J_iconst hX dX10_setsOfKind_22 ci_1 ?_
    refine J_iload_n 3 hX dX10_setsOfKind_23 fz2 rfl ?_
    refine J_callVJ (As := [.int (1 : Int32), .int (x6 * (gI G 193 (2 : Int32).toNatClampNeg)), .int (1 : Int32), .int v2]) (st := []) (b := 186) hX mv_X10_428 sk_186 rfl rfl rfl (Nat.le_of_ble_eq_true rfl) (Nat.le_of_ble_eq_true rfl) (Nat.le_of_ble_eq_true rfl) dX10_setsOfKind_24 (fun r G1 h => ok_X10_setsOf  h) fun r24 G24 => ?_
    refine J_goto (tgt := 45) hX dX10_setsOfKind_27 rfl ?_
    exact J_retJ hR dX10_setsOfKind_45
set_option maxHeartbeats 4000000 in
set_option maxRecDepth 100000 in
theorem ok_X10_common {Y : DX} {v0 : Int64} {v2 : Int64}  {G : GM} {r : Int64} {G' : GM} (hf : f_X10_common v0 v2 G = some (r, G')) : OkJ Y 1 M_X10_common [.long v0, .long v2] G r G' := by
  refine okJ_of (lv0 := [(0, .long v0), (2, .long v2)]) (by decide +kernel) rfl (Nat.le_of_ble_eq_true rfl) ?_
  intro X Q hX hR
  have hX : CXok X Y RX10 cX10_common 10 _ := hX
  revert hf
  show J X Y 10 Q 0 [(0, .long v0), (2, .long v2)] [] G (f_X10_common v0 v2 G = some (r, G'))
  have K6 : ∀  (n : Nat) (v4 : Int64) (v6 : Int64) (G : GM), J X Y 10 Q 6 [(4, .long v4), (6, .long v6)] [] G (wl2 n (lp_X10_common_6 v0 v2) v4 v6 G = some (r, G')) := by
    refine wl2_ind (R := fun v4 v6 G φ => J X Y 10 Q 6 [(4, .long v4), (6, .long v6)] [] G φ) (fun _ _ G φ h => J_no h) ?_
    intro kc6 hk6 v4 v6 G
    unfold lp_X10_common_6
    refine J_lload 1 hX dX10_common_6 rfl ?_
    refine J_lconst hX dX10_common_8 fy0 ?_
    refine J_lcmp hX dX10_common_9 ?_
    refine J_if_eq (tgt := 31) hX dX10_common_10 rfl ?_ ?_
    · refine J_lload 0 hX dX10_common_31 rfl ?_
      exact J_retJ hR dX10_common_33
    · refine J_lload 0 hX dX10_common_13 rfl ?_
      refine J_lload 1 hX dX10_common_15 rfl ?_
      refine J_lrem hX dX10_common_17 ?_
      refine J_lt (mk := Value.long) fun x18 => ?_
      refine J_lstore (lv' := [(8, .long x18), (4, .long v4), (6, .long v6)]) hX dX10_common_18 (Nat.le_of_ble_eq_true rfl) rfl ?_
      refine J_lload 2 hX dX10_common_20 rfl ?_
      refine J_lstore (lv' := [(4, .long v6), (8, .long x18), (6, .long v6)]) hX dX10_common_22 (Nat.le_of_ble_eq_true rfl) rfl ?_
      refine J_lload 1 hX dX10_common_24 rfl ?_
      refine J_lstore (lv' := [(6, .long x18), (4, .long v6), (8, .long x18)]) hX dX10_common_26 (Nat.le_of_ble_eq_true rfl) rfl ?_
      refine J_goto (tgt := 6) hX dX10_common_28 rfl ?_
      refine J_sub (lv' := [(4, .long v6), (6, .long x18)]) [1, 0] rfl ?_
      exact hk6 v6 x18 G
  unfold f_X10_common
  refine J_lload_n 0 hX dX10_common_0 fz0 rfl ?_
  refine J_lstore (lv' := [(4, .long v0), (0, .long v0), (2, .long v2)]) hX dX10_common_1 (Nat.le_of_ble_eq_true rfl) rfl ?_
  refine J_lload_n 2 hX dX10_common_3 fz2 rfl ?_
  refine J_lstore (lv' := [(6, .long v2), (4, .long v0), (0, .long v0), (2, .long v2)]) hX dX10_common_4 (Nat.le_of_ble_eq_true rfl) rfl ?_
  refine J_sub (lv' := [(4, .long v0), (6, .long v2)]) [1, 0] rfl ?_
  exact K6  FU v0 v2 G
set_option maxHeartbeats 4000000 in
set_option maxRecDepth 100000 in
theorem ok_X10_told {Y : DX} {v0 : Int64} {v2 : Int64} {v4 : Int32}  {G : GM} {r : Int64} {G' : GM} (hf : f_X10_told v0 v2 v4 G = some (r, G')) : OkJ Y 2 M_X10_told [.long v0, .long v2, .int v4] G r G' := by
  refine okJ_of (lv0 := [(0, .long v0), (2, .long v2), (4, .int v4)]) (by decide +kernel) rfl (Nat.le_of_ble_eq_true rfl) ?_
  intro X Q hX hR
  have hX : CXok X Y RX10 cX10_told 5 _ := hX
  revert hf
  show J X Y 5 Q 0 [(0, .long v0), (2, .long v2), (4, .int v4)] [] G (f_X10_told v0 v2 v4 G = some (r, G'))
  have K10 : ∀ (s0 : Int64) (G : GM), J X Y 5 Q 10 [(0, .long v0), (2, .long v2)] [.long s0] G (k_X10_told_10 v0 v2 v4 s0 G = some (r, G')) := by
    intro s0 G
    unfold k_X10_told_10
    refine J_lload_n 0 hX dX10_told_10 fz0 rfl ?_
    refine J_lload_n 1 hX dX10_told_11 fz2 rfl ?_
    refine J_callSJ (As := [.long v0, .long v2]) (st := [.long s0]) hX ms_X10_432 rfl rfl (Nat.le_of_ble_eq_true rfl) (Nat.le_of_ble_eq_true rfl) (Nat.le_of_ble_eq_true rfl) dX10_told_12 (fun r G1 h => ok_X10_common  h) fun r12 G12 => ?_
    refine J_ldiv hX dX10_told_15 ?_
    exact J_retJ hR dX10_told_16
  unfold f_X10_told
  refine J_iload 2 hX dX10_told_0 rfl ?_
  refine J_if_ne (tgt := 9) hX dX10_told_2 rfl ?_ ?_
  · refine J_lload_n 1 hX dX10_told_9 fz2 rfl ?_
    refine J_sub (lv' := [(0, .long v0), (2, .long v2)]) [0, 1] rfl ?_
    exact K10 v2 G
  · refine J_lload_n 0 hX dX10_told_5 fz0 rfl ?_
    refine J_goto (tgt := 10) hX dX10_told_6 rfl ?_
    refine J_sub (lv' := [(0, .long v0), (2, .long v2)]) [0, 1] rfl ?_
    exact K10 v0 G
set_option maxHeartbeats 4000000 in
set_option maxRecDepth 100000 in
theorem ok_X10_setsOfStrip {Y : DX} {v1 : Int32} {v2 : Int32}  {G : GM} {r : Int64} {G' : GM} (hf : f_X10_setsOfStrip v1 v2 G = some (r, G')) : OkJ Y 5 M_X10_setsOfStrip [.ref (AD Y 186), .int v1, .int v2] G r G' := by
  refine okJ_of (lv0 := [(0, .ref (AD Y 186)), (1, .int v1), (2, .int v2)]) (by decide +kernel) rfl (Nat.le_of_ble_eq_true rfl) ?_
  intro X Q hX hR
  have hX : CXok X Y RX10 cX10_setsOfStrip 4 _ := hX
  revert hf
  show J X Y 4 Q 0 [(0, .ref (AD Y 186)), (1, .int v1), (2, .int v2)] [] G (f_X10_setsOfStrip v1 v2 G = some (r, G'))
  unfold f_X10_setsOfStrip
  refine J_aload_n 0 hX dX10_setsOfStrip_0 fz0 rfl ?_
  refine J_getR (b := 193) hX dX10_setsOfStrip_1 lf_X10_34 sk_186 rfl (by decide) rfl ?_
  refine J_iconst hX dX10_setsOfStrip_4 ci_1 ?_
  refine J_iald hX dX10_setsOfStrip_5 sk_193 ln_193 ?_
  refine J_lt (mk := Value.int) fun x6 => ?_
  refine J_istore_n (lv' := [(3, .int x6), (0, .ref (AD Y 186)), (1, .int v1), (2, .int v2)]) hX dX10_setsOfStrip_6 fz3 (Nat.le_of_ble_eq_true rfl) rfl ?_
  refine J_iload_n 2 hX dX10_setsOfStrip_7 fz1 rfl ?_
  refine J_if_ne (tgt := 34) hX dX10_setsOfStrip_8 rfl ?_ ?_
  · refine J_aload_n 1 hX dX10_setsOfStrip_34 fz0 rfl ?_
    refine J_aload_n 1 hX dX10_setsOfStrip_35 fz0 rfl ?_
    refine J_getR (b := 193) hX dX10_setsOfStrip_36 lf_X10_34 sk_186 rfl (by decide) rfl ?_
    refine J_iconst hX dX10_setsOfStrip_39 ci_0 ?_
    refine J_iald hX dX10_setsOfStrip_40 sk_193 ln_193 ?_
    refine J_iload_n 0 hX dX10_setsOfStrip_41 fz3 rfl ?_
    refine J_aload_n 1 hX dX10_setsOfStrip_42 fz0 rfl ?_
    refine J_getR (b := 193) hX dX10_setsOfStrip_43 lf_X10_34 sk_186 rfl (by decide) rfl ?_
    refine J_iconst hX dX10_setsOfStrip_46 ci_2 ?_
    refine J_iald hX dX10_setsOfStrip_47 sk_193 ln_193 ?_
    refine J_imul hX dX10_setsOfStrip_48 ?_
    refine J_iconst hX dX10_setsOfStrip_49 ci_1 ?_
    refine J_iload_n 3 hX dX10_setsOfStrip_50 fz2 rfl ?_
    refine J_callVJ (As := [.int (gI G 193 (0 : Int32).toNatClampNeg), .int (x6 * (gI G 193 (2 : Int32).toNatClampNeg)), .int (1 : Int32), .int v2]) (st := []) (b := 186) hX mv_X10_428 sk_186 rfl rfl rfl (Nat.le_of_ble_eq_true rfl) (Nat.le_of_ble_eq_true rfl) (Nat.le_of_ble_eq_true rfl) dX10_setsOfStrip_51 (fun r G1 h => ok_X10_setsOf  h) fun r51 G51 => ?_
    exact J_retJ hR dX10_setsOfStrip_54
  · refine J_aload_n 1 hX dX10_setsOfStrip_11 fz0 rfl ?_
    refine J_aload_n 1 hX dX10_setsOfStrip_12 fz0 rfl ?_
    refine J_getR (b := 193) hX dX10_setsOfStrip_13 lf_X10_34 sk_186 rfl (by decide) rfl ?_
    refine J_iconst hX dX10_setsOfStrip_16 ci_0 ?_
    refine J_iald hX dX10_setsOfStrip_17 sk_193 ln_193 ?_
    refine J_iload_n 0 hX dX10_setsOfStrip_18 fz3 rfl ?_
    refine J_imul hX dX10_setsOfStrip_19 ?_
    refine J_aload_n 1 hX dX10_setsOfStrip_20 fz0 rfl ?_
    refine J_getR (b := 193) hX dX10_setsOfStrip_21 lf_X10_34 sk_186 rfl (by decide) rfl ?_
    refine J_iconst hX dX10_setsOfStrip_24 ci_2 ?_
    refine J_iald hX dX10_setsOfStrip_25 sk_193 ln_193 ?_
    refine J_iconst hX dX10_setsOfStrip_26 ci_1 ?_
    refine J_iload_n 3 hX dX10_setsOfStrip_27 fz2 rfl ?_
    refine J_callVJ (As := [.int ((gI G 193 (0 : Int32).toNatClampNeg) * x6), .int (gI G 193 (2 : Int32).toNatClampNeg), .int (1 : Int32), .int v2]) (st := []) (b := 186) hX mv_X10_428 sk_186 rfl rfl rfl (Nat.le_of_ble_eq_true rfl) (Nat.le_of_ble_eq_true rfl) (Nat.le_of_ble_eq_true rfl) dX10_setsOfStrip_28 (fun r G1 h => ok_X10_setsOf  h) fun r28 G28 => ?_
    refine J_goto (tgt := 54) hX dX10_setsOfStrip_31 rfl ?_
    exact J_retJ hR dX10_setsOfStrip_54
set_option maxHeartbeats 4000000 in
set_option maxRecDepth 100000 in
theorem ok_X10_isChance {Y : DX} {v1 : Int32} {v2 : Int32} {v3 : Int32}  {G : GM} {r : Int32} {G' : GM} (hf : f_X10_isChance v1 v2 v3 G = some (r, G')) : OkI Y 4 M_X10_isChance [.ref (AD Y 186), .int v1, .int v2, .int v3] G r G' := by
  refine okZ_of (lv0 := [(0, .ref (AD Y 186)), (1, .int v1), (2, .int v2), (3, .int v3)]) (by decide +kernel) rfl (Nat.le_of_ble_eq_true rfl) ?_
  intro X Q hX hR
  have hX : CXok X Y RX10 cX10_isChance 4 _ := hX
  revert hf
  show J X Y 4 Q 0 [(0, .ref (AD Y 186)), (1, .int v1), (2, .int v2), (3, .int v3)] [] G (f_X10_isChance v1 v2 v3 G = some (r, G'))
  unfold f_X10_isChance
  refine J_aload_n 0 hX dX10_isChance_0 fz0 rfl ?_
  refine J_callVI (As := []) (st := []) (b := 186) hX mv_X10_324 sk_186 rfl rfl rfl (Nat.le_of_ble_eq_true rfl) (Nat.le_of_ble_eq_true rfl) (Nat.le_of_ble_eq_true rfl) dX10_isChance_1 (fun r G1 h => ok_X10_isHall  h) fun r1 G1 => ?_
  refine J_if_eq (tgt := 42) hX dX10_isChance_4 rfl ?_ ?_
  · refine J_iconst hX dX10_isChance_42 ci_0 ?_
    exact J_retZ hR (by decide) dX10_isChance_43
  · refine J_iload_n 1 hX dX10_isChance_7 fz1 rfl ?_
    refine J_callSI (As := [.int v1]) (st := []) hX ms_X10_361 rfl rfl (Nat.le_of_ble_eq_true rfl) (Nat.le_of_ble_eq_true rfl) (Nat.le_of_ble_eq_true rfl) dX10_isChance_8 (fun r G1 h => ok_X10_isKind  h) fun r8 G8 => ?_
    refine J_if_eq (tgt := 42) hX dX10_isChance_11 rfl ?_ ?_
    · refine J_iconst hX dX10_isChance_42 ci_0 ?_
      exact J_retZ hR (by decide) dX10_isChance_43
    · refine J_iload_n 2 hX dX10_isChance_14 fz2 rfl ?_
      refine J_i2l hX dX10_isChance_15 ?_
      refine J_lconst hX dX10_isChance_16 fy0 ?_
      refine J_aload_n 0 hX dX10_isChance_17 fz0 rfl ?_
      refine J_callVI (As := []) (st := [.long (0 : Int64), .long (v2.toInt64)]) (b := 186) hX mv_X10_332 sk_186 rfl rfl rfl (Nat.le_of_ble_eq_true rfl) (Nat.le_of_ble_eq_true rfl) (Nat.le_of_ble_eq_true rfl) dX10_isChance_18 (fun r G1 h => ok_X10_all  h) fun r18 G18 => ?_
      refine J_i2l hX dX10_isChance_21 ?_
      refine J_callSI (As := [.long (v2.toInt64), .long (0 : Int64), .long (r18.toInt64)]) (st := []) hX ms_X10_100 rfl rfl (Nat.le_of_ble_eq_true rfl) (Nat.le_of_ble_eq_true rfl) (Nat.le_of_ble_eq_true rfl) dX10_isChance_22 (fun r G1 h => ok_X10_in  h) fun r22 G22 => ?_
      refine J_if_eq (tgt := 42) hX dX10_isChance_25 rfl ?_ ?_
      · refine J_iconst hX dX10_isChance_42 ci_0 ?_
        exact J_retZ hR (by decide) dX10_isChance_43
      · refine J_iload_n 3 hX dX10_isChance_28 fz3 rfl ?_
        refine J_i2l hX dX10_isChance_29 ?_
        refine J_lconst hX dX10_isChance_30 fy0 ?_
        refine J_lconst hX dX10_isChance_31 fy1 ?_
        refine J_callSI (As := [.long (v3.toInt64), .long (0 : Int64), .long (1 : Int64)]) (st := []) hX ms_X10_100 rfl rfl (Nat.le_of_ble_eq_true rfl) (Nat.le_of_ble_eq_true rfl) (Nat.le_of_ble_eq_true rfl) dX10_isChance_32 (fun r G1 h => ok_X10_in  h) fun r32 G32 => ?_
        refine J_if_eq (tgt := 42) hX dX10_isChance_35 rfl ?_ ?_
        · refine J_iconst hX dX10_isChance_42 ci_0 ?_
          exact J_retZ hR (by decide) dX10_isChance_43
        · refine J_iconst hX dX10_isChance_38 ci_1 ?_
          refine J_goto (tgt := 43) hX dX10_isChance_39 rfl ?_
          exact J_retZ hR (by decide) dX10_isChance_43
set_option maxHeartbeats 4000000 in
set_option maxRecDepth 100000 in
theorem ok_X10_chance {Y : DX} {v1 : Int32} {v2 : Int32} {v3 : Int32}  {G : GM} {r : Int64} {G' : GM} (hf : f_X10_chance v1 v2 v3 G = some (r, G')) : OkJ Y 6 M_X10_chance [.ref (AD Y 186), .int v1, .int v2, .int v3] G r G' := by
  refine okJ_of (lv0 := [(0, .ref (AD Y 186)), (1, .int v1), (2, .int v2), (3, .int v3)]) (by decide +kernel) rfl (Nat.le_of_ble_eq_true rfl) ?_
  intro X Q hX hR
  have hX : CXok X Y RX10 cX10_chance 4 _ := hX
  revert hf
  show J X Y 4 Q 0 [(0, .ref (AD Y 186)), (1, .int v1), (2, .int v2), (3, .int v3)] [] G (f_X10_chance v1 v2 v3 G = some (r, G'))
  unfold f_X10_chance
  refine J_aload_n 0 hX dX10_chance_0 fz0 rfl ?_
  refine J_iconst hX dX10_chance_1 ci_0 ?_
  refine J_putI hX dX10_chance_2 lf_X10_95 lpt_9_0 sk_186 rfl fun G2 => ?_
  refine J_aload_n 0 hX dX10_chance_5 fz0 rfl ?_
  refine J_iload_n 1 hX dX10_chance_6 fz1 rfl ?_
  refine J_iload_n 2 hX dX10_chance_7 fz2 rfl ?_
  refine J_iload_n 3 hX dX10_chance_8 fz3 rfl ?_
  refine J_callVI (As := [.int v1, .int v2, .int v3]) (st := []) (b := 186) hX mv_X10_436 sk_186 rfl rfl rfl (Nat.le_of_ble_eq_true rfl) (Nat.le_of_ble_eq_true rfl) (Nat.le_of_ble_eq_true rfl) dX10_chance_9 (fun r G1 h => ok_X10_isChance  h) fun r9 G9 => ?_
  refine J_if_eq (tgt := 36) hX dX10_chance_12 rfl ?_ ?_
  · refine J_ldc2 hX dX10_chance_36 ll_X10_446 ?_
    exact J_retJ hR dX10_chance_39
  · refine J_aload_n 0 hX dX10_chance_15 fz0 rfl ?_
    refine J_iload_n 1 hX dX10_chance_16 fz1 rfl ?_
    refine J_iload_n 2 hX dX10_chance_17 fz2 rfl ?_
    refine J_callVJ (As := [.int v1, .int v2]) (st := []) (b := 186) hX mv_X10_439 sk_186 rfl rfl rfl (Nat.le_of_ble_eq_true rfl) (Nat.le_of_ble_eq_true rfl) (Nat.le_of_ble_eq_true rfl) dX10_chance_18 (fun r G1 h => ok_X10_setsOfKind  h) fun r18 G18 => ?_
    refine J_aload_n 0 hX dX10_chance_21 fz0 rfl ?_
    refine J_callVI (As := []) (st := [.long r18]) (b := 186) hX mv_X10_332 sk_186 rfl rfl rfl (Nat.le_of_ble_eq_true rfl) (Nat.le_of_ble_eq_true rfl) (Nat.le_of_ble_eq_true rfl) dX10_chance_22 (fun r G1 h => ok_X10_all  h) fun r22 G22 => ?_
    refine J_iload_n 2 hX dX10_chance_25 fz2 rfl ?_
    refine J_callSJ (As := [.int r22, .int v2]) (st := [.long r18]) hX ms_X10_424 rfl rfl (Nat.le_of_ble_eq_true rfl) (Nat.le_of_ble_eq_true rfl) (Nat.le_of_ble_eq_true rfl) dX10_chance_26 (fun r G1 h => ok_X10_choose  h) fun r26 G26 => ?_
    refine J_iload_n 3 hX dX10_chance_29 fz3 rfl ?_
    refine J_callSJ (As := [.long r18, .long r26, .int v3]) (st := []) hX ms_X10_442 rfl rfl (Nat.le_of_ble_eq_true rfl) (Nat.le_of_ble_eq_true rfl) (Nat.le_of_ble_eq_true rfl) dX10_chance_30 (fun r G1 h => ok_X10_told  h) fun r30 G30 => ?_
    refine J_goto (tgt := 39) hX dX10_chance_33 rfl ?_
    exact J_retJ hR dX10_chance_39
set_option maxHeartbeats 4000000 in
set_option maxRecDepth 100000 in
theorem ok_X10_some {Y : DX} {v1 : Int32} {v2 : Int32} {v3 : Int32}  {G : GM} {r : Int64} {G' : GM} (hf : f_X10_some v1 v2 v3 G = some (r, G')) : OkJ Y 6 M_X10_some [.ref (AD Y 186), .int v1, .int v2, .int v3] G r G' := by
  refine okJ_of (lv0 := [(0, .ref (AD Y 186)), (1, .int v1), (2, .int v2), (3, .int v3)]) (by decide +kernel) rfl (Nat.le_of_ble_eq_true rfl) ?_
  intro X Q hX hR
  have hX : CXok X Y RX10 cX10_some 4 _ := hX
  revert hf
  show J X Y 4 Q 0 [(0, .ref (AD Y 186)), (1, .int v1), (2, .int v2), (3, .int v3)] [] G (f_X10_some v1 v2 v3 G = some (r, G'))
  have K20 : ∀ (G : GM), J X Y 4 Q 20 [] [] G (k_X10_some_20 v1 v2 v3 G = some (r, G')) := by
    intro G
    unfold k_X10_some_20
    refine J_ldc2 hX dX10_some_20 ll_X10_446 ?_
    exact J_retJ hR dX10_some_23
  unfold f_X10_some
  refine J_aload_n 0 hX dX10_some_0 fz0 rfl ?_
  refine J_iconst hX dX10_some_1 ci_0 ?_
  refine J_putI hX dX10_some_2 lf_X10_95 lpt_9_0 sk_186 rfl fun G2 => ?_
  refine J_aload_n 0 hX dX10_some_5 fz0 rfl ?_
  refine J_iload_n 1 hX dX10_some_6 fz1 rfl ?_
  refine J_iload_n 2 hX dX10_some_7 fz2 rfl ?_
  refine J_iload_n 3 hX dX10_some_8 fz3 rfl ?_
  refine J_callVI (As := [.int v1, .int v2, .int v3]) (st := []) (b := 186) hX mv_X10_436 sk_186 rfl rfl rfl (Nat.le_of_ble_eq_true rfl) (Nat.le_of_ble_eq_true rfl) (Nat.le_of_ble_eq_true rfl) dX10_some_9 (fun r G1 h => ok_X10_isChance  h) fun r9 G9 => ?_
  refine J_if_eq (tgt := 20) hX dX10_some_12 rfl ?_ ?_
  · refine J_sub (lv' := []) [] rfl ?_
    exact K20 G9
  · refine J_iload_n 1 hX dX10_some_15 fz1 rfl ?_
    refine J_iconst hX dX10_some_16 ci_1 ?_
    refine J_icmp_ne (tgt := 24) hX dX10_some_17 rfl ?_ ?_
    · refine J_aload_n 0 hX dX10_some_24 fz0 rfl ?_
      refine J_iload_n 1 hX dX10_some_25 fz1 rfl ?_
      refine J_iload_n 2 hX dX10_some_26 fz2 rfl ?_
      refine J_callVJ (As := [.int v1, .int v2]) (st := []) (b := 186) hX mv_X10_448 sk_186 rfl rfl rfl (Nat.le_of_ble_eq_true rfl) (Nat.le_of_ble_eq_true rfl) (Nat.le_of_ble_eq_true rfl) dX10_some_27 (fun r G1 h => ok_X10_setsOfStrip  h) fun r27 G27 => ?_
      refine J_aload_n 0 hX dX10_some_30 fz0 rfl ?_
      refine J_callVI (As := []) (st := [.long r27]) (b := 186) hX mv_X10_332 sk_186 rfl rfl rfl (Nat.le_of_ble_eq_true rfl) (Nat.le_of_ble_eq_true rfl) (Nat.le_of_ble_eq_true rfl) dX10_some_31 (fun r G1 h => ok_X10_all  h) fun r31 G31 => ?_
      refine J_iload_n 2 hX dX10_some_34 fz2 rfl ?_
      refine J_callSJ (As := [.int r31, .int v2]) (st := [.long r27]) hX ms_X10_424 rfl rfl (Nat.le_of_ble_eq_true rfl) (Nat.le_of_ble_eq_true rfl) (Nat.le_of_ble_eq_true rfl) dX10_some_35 (fun r G1 h => ok_X10_choose  h) fun r35 G35 => ?_
      refine J_iload_n 3 hX dX10_some_38 fz3 rfl ?_
      refine J_callSJ (As := [.long r27, .long r35, .int v3]) (st := []) hX ms_X10_442 rfl rfl (Nat.le_of_ble_eq_true rfl) (Nat.le_of_ble_eq_true rfl) (Nat.le_of_ble_eq_true rfl) dX10_some_39 (fun r G1 h => ok_X10_told  h) fun r39 G39 => ?_
      exact J_retJ hR dX10_some_42
    · refine J_sub (lv' := []) [] rfl ?_
      exact K20 G9
set_option maxHeartbeats 4000000 in
set_option maxRecDepth 100000 in
theorem ok_X10_just {Y : DX} {v1 : Int32} {v2 : Int32} {v3 : Int32}  {G : GM} {r : Int64} {G' : GM} (hf : f_X10_just v1 v2 v3 G = some (r, G')) : OkJ Y 6 M_X10_just [.ref (AD Y 186), .int v1, .int v2, .int v3] G r G' := by
  refine okJ_of (lv0 := [(0, .ref (AD Y 186)), (1, .int v1), (2, .int v2), (3, .int v3)]) (by decide +kernel) rfl (Nat.le_of_ble_eq_true rfl) ?_
  intro X Q hX hR
  have hX : CXok X Y RX10 cX10_just 6 _ := hX
  revert hf
  show J X Y 6 Q 0 [(0, .ref (AD Y 186)), (1, .int v1), (2, .int v2), (3, .int v3)] [] G (f_X10_just v1 v2 v3 G = some (r, G'))
  have K25 : ∀ (G : GM), J X Y 6 Q 25 [] [] G (k_X10_just_25 v1 v2 v3 G = some (r, G')) := by
    intro G
    unfold k_X10_just_25
    refine J_ldc2 hX dX10_just_25 ll_X10_446 ?_
    exact J_retJ hR dX10_just_28
  unfold f_X10_just
  refine J_aload_n 0 hX dX10_just_0 fz0 rfl ?_
  refine J_iconst hX dX10_just_1 ci_0 ?_
  refine J_putI hX dX10_just_2 lf_X10_95 lpt_9_0 sk_186 rfl fun G2 => ?_
  refine J_aload_n 0 hX dX10_just_5 fz0 rfl ?_
  refine J_iload_n 1 hX dX10_just_6 fz1 rfl ?_
  refine J_iload_n 2 hX dX10_just_7 fz2 rfl ?_
  refine J_iload_n 3 hX dX10_just_8 fz3 rfl ?_
  refine J_callVI (As := [.int v1, .int v2, .int v3]) (st := []) (b := 186) hX mv_X10_436 sk_186 rfl rfl rfl (Nat.le_of_ble_eq_true rfl) (Nat.le_of_ble_eq_true rfl) (Nat.le_of_ble_eq_true rfl) dX10_just_9 (fun r G1 h => ok_X10_isChance  h) fun r9 G9 => ?_
  refine J_if_eq (tgt := 25) hX dX10_just_12 rfl ?_ ?_
  · refine J_sub (lv' := []) [] rfl ?_
    exact K25 G9
  · refine J_iload_n 1 hX dX10_just_15 fz1 rfl ?_
    refine J_iconst hX dX10_just_16 ci_1 ?_
    refine J_icmp_eq (tgt := 25) hX dX10_just_17 rfl ?_ ?_
    · refine J_sub (lv' := []) [] rfl ?_
      exact K25 G9
    · refine J_iload_n 2 hX dX10_just_20 fz2 rfl ?_
      refine J_iconst hX dX10_just_21 ci_1 ?_
      refine J_icmp_ge (tgt := 29) hX dX10_just_22 rfl ?_ ?_
      · refine J_aload_n 0 hX dX10_just_29 fz0 rfl ?_
        refine J_iload_n 1 hX dX10_just_30 fz1 rfl ?_
        refine J_iload_n 2 hX dX10_just_31 fz2 rfl ?_
        refine J_callVJ (As := [.int v1, .int v2]) (st := []) (b := 186) hX mv_X10_448 sk_186 rfl rfl rfl (Nat.le_of_ble_eq_true rfl) (Nat.le_of_ble_eq_true rfl) (Nat.le_of_ble_eq_true rfl) dX10_just_32 (fun r G1 h => ok_X10_setsOfStrip  h) fun r32 G32 => ?_
        refine J_iload_n 2 hX dX10_just_35 fz2 rfl ?_
        refine J_i2l hX dX10_just_36 ?_
        refine J_lmul hX dX10_just_37 ?_
        refine J_aload_n 0 hX dX10_just_38 fz0 rfl ?_
        refine J_iload_n 1 hX dX10_just_39 fz1 rfl ?_
        refine J_iload_n 2 hX dX10_just_40 fz2 rfl ?_
        refine J_iconst hX dX10_just_41 ci_1 ?_
        refine J_isub hX dX10_just_42 ?_
        refine J_callVJ (As := [.int v1, .int (v2 - (1 : Int32))]) (st := [.long (r32 * (v2.toInt64))]) (b := 186) hX mv_X10_448 sk_186 rfl rfl rfl (Nat.le_of_ble_eq_true rfl) (Nat.le_of_ble_eq_true rfl) (Nat.le_of_ble_eq_true rfl) dX10_just_43 (fun r G1 h => ok_X10_setsOfStrip  h) fun r43 G43 => ?_
        refine J_aload_n 0 hX dX10_just_46 fz0 rfl ?_
        refine J_callVI (As := []) (st := [.long r43, .long (r32 * (v2.toInt64))]) (b := 186) hX mv_X10_332 sk_186 rfl rfl rfl (Nat.le_of_ble_eq_true rfl) (Nat.le_of_ble_eq_true rfl) (Nat.le_of_ble_eq_true rfl) dX10_just_47 (fun r G1 h => ok_X10_all  h) fun r47 G47 => ?_
        refine J_iload_n 2 hX dX10_just_50 fz2 rfl ?_
        refine J_isub hX dX10_just_51 ?_
        refine J_iconst hX dX10_just_52 ci_1 ?_
        refine J_iadd hX dX10_just_53 ?_
        refine J_i2l hX dX10_just_54 ?_
        refine J_lmul hX dX10_just_55 ?_
        refine J_lsub hX dX10_just_56 ?_
        refine J_lt (mk := Value.long) fun x57 => ?_
        refine J_lstore (lv' := [(4, .long x57), (0, .ref (AD Y 186)), (1, .int v1), (2, .int v2), (3, .int v3)]) hX dX10_just_57 (Nat.le_of_ble_eq_true rfl) rfl ?_
        refine J_lload 0 hX dX10_just_59 rfl ?_
        refine J_aload_n 1 hX dX10_just_61 fz0 rfl ?_
        refine J_callVI (As := []) (st := [.long x57]) (b := 186) hX mv_X10_332 sk_186 rfl rfl rfl (Nat.le_of_ble_eq_true rfl) (Nat.le_of_ble_eq_true rfl) (Nat.le_of_ble_eq_true rfl) dX10_just_62 (fun r G1 h => ok_X10_all  h) fun r62 G62 => ?_
        refine J_iload_n 3 hX dX10_just_65 fz2 rfl ?_
        refine J_callSJ (As := [.int r62, .int v2]) (st := [.long x57]) hX ms_X10_424 rfl rfl (Nat.le_of_ble_eq_true rfl) (Nat.le_of_ble_eq_true rfl) (Nat.le_of_ble_eq_true rfl) dX10_just_66 (fun r G1 h => ok_X10_choose  h) fun r66 G66 => ?_
        refine J_iload_n 3 hX dX10_just_69 fz2 rfl ?_
        refine J_i2l hX dX10_just_70 ?_
        refine J_lmul hX dX10_just_71 ?_
        refine J_iload_n 4 hX dX10_just_72 fz3 rfl ?_
        refine J_callSJ (As := [.long x57, .long (r66 * (v2.toInt64)), .int v3]) (st := []) hX ms_X10_442 rfl rfl (Nat.le_of_ble_eq_true rfl) (Nat.le_of_ble_eq_true rfl) (Nat.le_of_ble_eq_true rfl) dX10_just_73 (fun r G1 h => ok_X10_told  h) fun r73 G73 => ?_
        exact J_retJ hR dX10_just_76
      · refine J_sub (lv' := []) [] rfl ?_
        exact K25 G9
set_option maxHeartbeats 4000000 in
set_option maxRecDepth 100000 in
theorem ok_X10_likely {Y : DX} {v1 : Int32} {v2 : Int32} {v3 : Int32}  {G : GM} {r : Int32} {G' : GM} (hf : f_X10_likely v1 v2 v3 G = some (r, G')) : OkI Y 6 M_X10_likely [.ref (AD Y 186), .int v1, .int v2, .int v3] G r G' := by
  refine okI_of (lv0 := [(0, .ref (AD Y 186)), (1, .int v1), (2, .int v2), (3, .int v3)]) (by decide +kernel) rfl (Nat.le_of_ble_eq_true rfl) ?_
  intro X Q hX hR
  have hX : CXok X Y RX10 cX10_likely 5 _ := hX
  revert hf
  show J X Y 5 Q 0 [(0, .ref (AD Y 186)), (1, .int v1), (2, .int v2), (3, .int v3)] [] G (f_X10_likely v1 v2 v3 G = some (r, G'))
  have K54 : ∀  (n : Nat) (v4 : Int32) (G : GM), J X Y 5 Q 54 [(0, .ref (AD Y 186)), (1, .int v1), (2, .int v2), (3, .int v3), (4, .int v4)] [] G (wl1 n (lp_X10_likely_54 v1 v2 v3) v4 G = some (r, G')) := by
    refine wl1_ind (R := fun v4 G φ => J X Y 5 Q 54 [(0, .ref (AD Y 186)), (1, .int v1), (2, .int v2), (3, .int v3), (4, .int v4)] [] G φ) (fun _ G φ h => J_no h) ?_
    intro kc54 hk54 v4 G
    unfold lp_X10_likely_54
    refine J_iload 4 hX dX10_likely_54 rfl ?_
    refine J_aload_n 0 hX dX10_likely_56 fz0 rfl ?_
    refine J_callVI (As := []) (st := [.int v4]) (b := 186) hX mv_X10_332 sk_186 rfl rfl rfl (Nat.le_of_ble_eq_true rfl) (Nat.le_of_ble_eq_true rfl) (Nat.le_of_ble_eq_true rfl) dX10_likely_57 (fun r G1 h => ok_X10_all  h) fun r57 G57 => ?_
    refine J_icmp_gt (tgt := 98) hX dX10_likely_60 rfl ?_ ?_
    · refine J_iconst hX dX10_likely_98 cim_1 ?_
      exact J_retI hR dX10_likely_99
    · refine J_aload_n 0 hX dX10_likely_63 fz0 rfl ?_
      refine J_iload_n 1 hX dX10_likely_64 fz1 rfl ?_
      refine J_iload 4 hX dX10_likely_65 rfl ?_
      refine J_callVJ (As := [.int v1, .int v4]) (st := []) (b := 186) hX mv_X10_448 sk_186 rfl rfl rfl (Nat.le_of_ble_eq_true rfl) (Nat.le_of_ble_eq_true rfl) (Nat.le_of_ble_eq_true rfl) dX10_likely_67 (fun r G1 h => ok_X10_setsOfStrip  h) fun r67 G67 => ?_
      refine J_iload_n 3 hX dX10_likely_70 fz3 rfl ?_
      refine J_i2l hX dX10_likely_71 ?_
      refine J_lmul hX dX10_likely_72 ?_
      refine J_iload_n 2 hX dX10_likely_73 fz2 rfl ?_
      refine J_i2l hX dX10_likely_74 ?_
      refine J_aload_n 0 hX dX10_likely_75 fz0 rfl ?_
      refine J_callVI (As := []) (st := [.long (v2.toInt64), .long (r67 * (v3.toInt64))]) (b := 186) hX mv_X10_332 sk_186 rfl rfl rfl (Nat.le_of_ble_eq_true rfl) (Nat.le_of_ble_eq_true rfl) (Nat.le_of_ble_eq_true rfl) dX10_likely_76 (fun r G1 h => ok_X10_all  h) fun r76 G76 => ?_
      refine J_iload 4 hX dX10_likely_79 rfl ?_
      refine J_callSJ (As := [.int r76, .int v4]) (st := [.long (v2.toInt64), .long (r67 * (v3.toInt64))]) hX ms_X10_424 rfl rfl (Nat.le_of_ble_eq_true rfl) (Nat.le_of_ble_eq_true rfl) (Nat.le_of_ble_eq_true rfl) dX10_likely_81 (fun r G1 h => ok_X10_choose  h) fun r81 G81 => ?_
      refine J_lmul hX dX10_likely_84 ?_
      refine J_lcmp hX dX10_likely_85 ?_
      refine J_if_lt (tgt := 92) hX dX10_likely_86 rfl ?_ ?_
      · refine J_iinc (lv' := [(4, .int (v4 + (1 : Int32))), (0, .ref (AD Y 186)), (1, .int v1), (2, .int v2), (3, .int v3)]) 4 hX dX10_likely_92 rfl ci_1 (Nat.le_of_ble_eq_true rfl) rfl ?_
        refine J_goto (tgt := 54) hX dX10_likely_95 rfl ?_
        refine J_sub (lv' := [(0, .ref (AD Y 186)), (1, .int v1), (2, .int v2), (3, .int v3), (4, .int (v4 + (1 : Int32)))]) [1, 2, 3, 4, 0] rfl ?_
        exact hk54 (v4 + (1 : Int32)) G81
      · refine J_iload 4 hX dX10_likely_89 rfl ?_
        exact J_retI hR dX10_likely_91
  unfold f_X10_likely
  refine J_aload_n 0 hX dX10_likely_0 fz0 rfl ?_
  refine J_iconst hX dX10_likely_1 ci_0 ?_
  refine J_putI hX dX10_likely_2 lf_X10_95 lpt_9_0 sk_186 rfl fun G2 => ?_
  refine J_aload_n 0 hX dX10_likely_5 fz0 rfl ?_
  refine J_callVI (As := []) (st := []) (b := 186) hX mv_X10_324 sk_186 rfl rfl rfl (Nat.le_of_ble_eq_true rfl) (Nat.le_of_ble_eq_true rfl) (Nat.le_of_ble_eq_true rfl) dX10_likely_6 (fun r G1 h => ok_X10_isHall  h) fun r6 G6 => ?_
  refine J_if_eq (tgt := 48) hX dX10_likely_9 rfl ?_ ?_
  · refine J_bipush hX dX10_likely_48 cbm_2 ?_
    exact J_retI hR dX10_likely_50
  · refine J_iload_n 1 hX dX10_likely_12 fz1 rfl ?_
    refine J_callSI (As := [.int v1]) (st := []) hX ms_X10_361 rfl rfl (Nat.le_of_ble_eq_true rfl) (Nat.le_of_ble_eq_true rfl) (Nat.le_of_ble_eq_true rfl) dX10_likely_13 (fun r G1 h => ok_X10_isKind  h) fun r13 G13 => ?_
    refine J_if_eq (tgt := 48) hX dX10_likely_16 rfl ?_ ?_
    · refine J_bipush hX dX10_likely_48 cbm_2 ?_
      exact J_retI hR dX10_likely_50
    · refine J_iload_n 1 hX dX10_likely_19 fz1 rfl ?_
      refine J_iconst hX dX10_likely_20 ci_1 ?_
      refine J_icmp_eq (tgt := 48) hX dX10_likely_21 rfl ?_ ?_
      · refine J_bipush hX dX10_likely_48 cbm_2 ?_
        exact J_retI hR dX10_likely_50
      · refine J_iload_n 2 hX dX10_likely_24 fz2 rfl ?_
        refine J_i2l hX dX10_likely_25 ?_
        refine J_lconst hX dX10_likely_26 fy0 ?_
        refine J_ldc2 hX dX10_likely_27 ll_X10_451 ?_
        refine J_callSI (As := [.long (v2.toInt64), .long (0 : Int64), .long (1000 : Int64)]) (st := []) hX ms_X10_100 rfl rfl (Nat.le_of_ble_eq_true rfl) (Nat.le_of_ble_eq_true rfl) (Nat.le_of_ble_eq_true rfl) dX10_likely_30 (fun r G1 h => ok_X10_in  h) fun r30 G30 => ?_
        refine J_if_eq (tgt := 48) hX dX10_likely_33 rfl ?_ ?_
        · refine J_bipush hX dX10_likely_48 cbm_2 ?_
          exact J_retI hR dX10_likely_50
        · refine J_iload_n 3 hX dX10_likely_36 fz3 rfl ?_
          refine J_i2l hX dX10_likely_37 ?_
          refine J_lconst hX dX10_likely_38 fy1 ?_
          refine J_ldc2 hX dX10_likely_39 ll_X10_451 ?_
          refine J_callSI (As := [.long (v3.toInt64), .long (1 : Int64), .long (1000 : Int64)]) (st := []) hX ms_X10_100 rfl rfl (Nat.le_of_ble_eq_true rfl) (Nat.le_of_ble_eq_true rfl) (Nat.le_of_ble_eq_true rfl) dX10_likely_42 (fun r G1 h => ok_X10_in  h) fun r42 G42 => ?_
          refine J_if_ne (tgt := 51) hX dX10_likely_45 rfl ?_ ?_
          · refine J_iconst hX dX10_likely_51 ci_0 ?_
            refine J_istore (lv' := [(4, .int (0 : Int32)), (0, .ref (AD Y 186)), (1, .int v1), (2, .int v2), (3, .int v3)]) hX dX10_likely_52 (Nat.le_of_ble_eq_true rfl) rfl ?_
            refine J_sub (lv' := [(0, .ref (AD Y 186)), (1, .int v1), (2, .int v2), (3, .int v3), (4, .int (0 : Int32))]) [1, 2, 3, 4, 0] rfl ?_
            exact K54  FU (0 : Int32) G42
          · refine J_bipush hX dX10_likely_48 cbm_2 ?_
            exact J_retI hR dX10_likely_50
set_option maxHeartbeats 4000000 in
set_option maxRecDepth 100000 in
theorem ok_X10_mean {Y : DX} {v1 : Int32} {v2 : Int32}  {G : GM} {r : Int32} {G' : GM} (hf : f_X10_mean v1 v2 G = some (r, G')) : OkI Y 4 M_X10_mean [.ref (AD Y 186), .int v1, .int v2] G r G' := by
  refine okI_of (lv0 := [(0, .ref (AD Y 186)), (1, .int v1), (2, .int v2)]) (by decide +kernel) rfl (Nat.le_of_ble_eq_true rfl) ?_
  intro X Q hX hR
  have hX : CXok X Y RX10 cX10_mean 3 _ := hX
  revert hf
  show J X Y 3 Q 0 [(0, .ref (AD Y 186)), (1, .int v1), (2, .int v2)] [] G (f_X10_mean v1 v2 G = some (r, G'))
  unfold f_X10_mean
  refine J_aload_n 0 hX dX10_mean_0 fz0 rfl ?_
  refine J_iconst hX dX10_mean_1 ci_0 ?_
  refine J_putI hX dX10_mean_2 lf_X10_95 lpt_9_0 sk_186 rfl fun G2 => ?_
  refine J_aload_n 0 hX dX10_mean_5 fz0 rfl ?_
  refine J_callVI (As := []) (st := []) (b := 186) hX mv_X10_324 sk_186 rfl rfl rfl (Nat.le_of_ble_eq_true rfl) (Nat.le_of_ble_eq_true rfl) (Nat.le_of_ble_eq_true rfl) dX10_mean_6 (fun r G1 h => ok_X10_isHall  h) fun r6 G6 => ?_
  refine J_if_eq (tgt := 36) hX dX10_mean_9 rfl ?_ ?_
  · refine J_bipush hX dX10_mean_36 cbm_2 ?_
    exact J_retI hR dX10_mean_38
  · refine J_iload_n 1 hX dX10_mean_12 fz1 rfl ?_
    refine J_i2l hX dX10_mean_13 ?_
    refine J_lconst hX dX10_mean_14 fy1 ?_
    refine J_aload_n 0 hX dX10_mean_15 fz0 rfl ?_
    refine J_callVI (As := []) (st := [.long (1 : Int64), .long (v1.toInt64)]) (b := 186) hX mv_X10_332 sk_186 rfl rfl rfl (Nat.le_of_ble_eq_true rfl) (Nat.le_of_ble_eq_true rfl) (Nat.le_of_ble_eq_true rfl) dX10_mean_16 (fun r G1 h => ok_X10_all  h) fun r16 G16 => ?_
    refine J_i2l hX dX10_mean_19 ?_
    refine J_callSI (As := [.long (v1.toInt64), .long (1 : Int64), .long (r16.toInt64)]) (st := []) hX ms_X10_100 rfl rfl (Nat.le_of_ble_eq_true rfl) (Nat.le_of_ble_eq_true rfl) (Nat.le_of_ble_eq_true rfl) dX10_mean_20 (fun r G1 h => ok_X10_in  h) fun r20 G20 => ?_
    refine J_if_eq (tgt := 36) hX dX10_mean_23 rfl ?_ ?_
    · refine J_bipush hX dX10_mean_36 cbm_2 ?_
      exact J_retI hR dX10_mean_38
    · refine J_iload_n 2 hX dX10_mean_26 fz2 rfl ?_
      refine J_i2l hX dX10_mean_27 ?_
      refine J_lconst hX dX10_mean_28 fy0 ?_
      refine J_lconst hX dX10_mean_29 fy1 ?_
      refine J_callSI (As := [.long (v2.toInt64), .long (0 : Int64), .long (1 : Int64)]) (st := []) hX ms_X10_100 rfl rfl (Nat.le_of_ble_eq_true rfl) (Nat.le_of_ble_eq_true rfl) (Nat.le_of_ble_eq_true rfl) dX10_mean_30 (fun r G1 h => ok_X10_in  h) fun r30 G30 => ?_
      refine J_if_ne (tgt := 39) hX dX10_mean_33 rfl ?_ ?_
      · refine J_iload_n 1 hX dX10_mean_39 fz1 rfl ?_
        refine J_i2l hX dX10_mean_40 ?_
        refine J_aload_n 0 hX dX10_mean_41 fz0 rfl ?_
        refine J_callVI (As := []) (st := [.long (v1.toInt64)]) (b := 186) hX mv_X10_332 sk_186 rfl rfl rfl (Nat.le_of_ble_eq_true rfl) (Nat.le_of_ble_eq_true rfl) (Nat.le_of_ble_eq_true rfl) dX10_mean_42 (fun r G1 h => ok_X10_all  h) fun r42 G42 => ?_
        refine J_iconst hX dX10_mean_45 ci_1 ?_
        refine J_iadd hX dX10_mean_46 ?_
        refine J_i2l hX dX10_mean_47 ?_
        refine J_lmul hX dX10_mean_48 ?_
        refine J_iload_n 1 hX dX10_mean_49 fz1 rfl ?_
        refine J_i2l hX dX10_mean_50 ?_
        refine J_lconst hX dX10_mean_51 fy1 ?_
        refine J_ladd hX dX10_mean_52 ?_
        refine J_iload_n 2 hX dX10_mean_53 fz2 rfl ?_
        refine J_callSJ (As := [.long ((v1.toInt64) * ((r42 + (1 : Int32)).toInt64)), .long ((v1.toInt64) + (1 : Int64)), .int v2]) (st := []) hX ms_X10_442 rfl rfl (Nat.le_of_ble_eq_true rfl) (Nat.le_of_ble_eq_true rfl) (Nat.le_of_ble_eq_true rfl) dX10_mean_54 (fun r G1 h => ok_X10_told  h) fun r54 G54 => ?_
        refine J_l2i hX dX10_mean_57 ?_
        exact J_retI hR dX10_mean_58
      · refine J_bipush hX dX10_mean_36 cbm_2 ?_
        exact J_retI hR dX10_mean_38
set_option maxHeartbeats 4000000 in
set_option maxRecDepth 100000 in
theorem ok_X10_evenings {Y : DX} {v1 : Int32} {v2 : Int32} {v3 : Int32} {v4 : Int32}  {G : GM} {r : Int32} {G' : GM} (hf : f_X10_evenings v1 v2 v3 v4 G = some (r, G')) : OkI Y 31 M_X10_evenings [.ref (AD Y 186), .int v1, .int v2, .int v3, .int v4] G r G' := by
  refine okI_of (lv0 := [(0, .ref (AD Y 186)), (1, .int v1), (2, .int v2), (3, .int v3), (4, .int v4)]) (by decide +kernel) rfl (Nat.le_of_ble_eq_true rfl) ?_
  intro X Q hX hR
  have hX : CXok X Y RX10 cX10_evenings 10 _ := hX
  revert hf
  show J X Y 10 Q 0 [(0, .ref (AD Y 186)), (1, .int v1), (2, .int v2), (3, .int v3), (4, .int v4)] [] G (f_X10_evenings v1 v2 v3 v4 G = some (r, G'))
  have K77 : ∀  (n : Nat) (v5 : Int32) (v6 : Int32) (v7 : Int32) (v8 : Int32) (G : GM), J X Y 10 Q 77 [(0, .ref (AD Y 186)), (1, .int v1), (2, .int v2), (3, .int v3), (4, .int v4), (5, .int v5), (6, .int v6), (7, .int v7), (8, .int v8)] [] G (wl4 n (lp_X10_evenings_77 v1 v2 v3 v4) v5 v6 v7 v8 G = some (r, G')) := by
    refine wl4_ind (R := fun v5 v6 v7 v8 G φ => J X Y 10 Q 77 [(0, .ref (AD Y 186)), (1, .int v1), (2, .int v2), (3, .int v3), (4, .int v4), (5, .int v5), (6, .int v6), (7, .int v7), (8, .int v8)] [] G φ) (fun _ _ _ _ G φ h => J_no h) ?_
    intro kc77 hk77 v5 v6 v7 v8 G
    unfold lp_X10_evenings_77
    have K167 : ∀ (v5 : Int32) (v6 : Int32) (v8 : Int32) (s0 : Int32) (s1 : Int32) (G : GM), J X Y 10 Q 167 [(0, .ref (AD Y 186)), (1, .int v1), (2, .int v2), (3, .int v3), (4, .int v4), (5, .int v5), (6, .int v6), (8, .int v8)] [.int s0, .int s1] G (k_X10_evenings_167 v1 v2 v3 v4 v5 v6 v8 s0 s1 kc77 G = some (r, G')) := by
      intro v5 v6 v8 s0 s1 G
      unfold k_X10_evenings_167
      refine J_iadd hX dX10_evenings_167 ?_
      refine J_lt (mk := Value.int) fun x168 => ?_
      refine J_istore (lv' := [(7, .int x168), (0, .ref (AD Y 186)), (1, .int v1), (2, .int v2), (3, .int v3), (4, .int v4), (5, .int v5), (6, .int v6), (8, .int v8)]) hX dX10_evenings_168 (Nat.le_of_ble_eq_true rfl) rfl ?_
      refine J_iinc (lv' := [(8, .int (v8 + (1 : Int32))), (7, .int x168), (0, .ref (AD Y 186)), (1, .int v1), (2, .int v2), (3, .int v3), (4, .int v4), (5, .int v5), (6, .int v6)]) 8 hX dX10_evenings_170 rfl ci_1 (Nat.le_of_ble_eq_true rfl) rfl ?_
      refine J_goto (tgt := 77) hX dX10_evenings_173 rfl ?_
      refine J_sub (lv' := [(0, .ref (AD Y 186)), (1, .int v1), (2, .int v2), (3, .int v3), (4, .int v4), (5, .int v5), (6, .int v6), (7, .int x168), (8, .int (v8 + (1 : Int32)))]) [2, 3, 4, 5, 6, 7, 8, 1, 0] rfl ?_
      exact hk77 v5 v6 x168 (v8 + (1 : Int32)) G
    have K150 : ∀ (v5 : Int32) (v7 : Int32) (v8 : Int32) (s0 : Int32) (G : GM), J X Y 10 Q 150 [(0, .ref (AD Y 186)), (1, .int v1), (2, .int v2), (3, .int v3), (4, .int v4), (5, .int v5), (7, .int v7), (8, .int v8)] [.int s0] G (k_X10_evenings_150 v1 v2 v3 v4 v5 v7 v8 s0 kc77 G = some (r, G')) := by
      intro v5 v7 v8 s0 G
      unfold k_X10_evenings_150
      refine J_istore (lv' := [(6, .int s0), (0, .ref (AD Y 186)), (1, .int v1), (2, .int v2), (3, .int v3), (4, .int v4), (5, .int v5), (7, .int v7), (8, .int v8)]) hX dX10_evenings_150 (Nat.le_of_ble_eq_true rfl) rfl ?_
      refine J_iload 7 hX dX10_evenings_152 rfl ?_
      refine J_aload_n 1 hX dX10_evenings_154 fz0 rfl ?_
      refine J_getI hX dX10_evenings_155 lf_X10_374 sk_186 rfl ?_
      refine J_iconst hX dX10_evenings_158 ci_1 ?_
      refine J_icmp_le (tgt := 166) hX dX10_evenings_159 rfl ?_ ?_
      · refine J_iconst hX dX10_evenings_166 ci_0 ?_
        refine J_sub (lv' := [(0, .ref (AD Y 186)), (1, .int v1), (2, .int v2), (3, .int v3), (4, .int v4), (5, .int v5), (6, .int s0), (8, .int v8)]) [1, 2, 3, 4, 5, 6, 0, 8] rfl ?_
        exact K167 v5 s0 v8 (0 : Int32) v7 G
      · refine J_iconst hX dX10_evenings_162 ci_1 ?_
        refine J_goto (tgt := 167) hX dX10_evenings_163 rfl ?_
        refine J_sub (lv' := [(0, .ref (AD Y 186)), (1, .int v1), (2, .int v2), (3, .int v3), (4, .int v4), (5, .int v5), (6, .int s0), (8, .int v8)]) [1, 2, 3, 4, 5, 6, 0, 8] rfl ?_
        exact K167 v5 s0 v8 (1 : Int32) v7 G
    have K143 : ∀ (v5 : Int32) (v7 : Int32) (v8 : Int32) (v9 : Int32) (G : GM), J X Y 10 Q 143 [(0, .ref (AD Y 186)), (1, .int v1), (2, .int v2), (3, .int v3), (4, .int v4), (5, .int v5), (7, .int v7), (8, .int v8), (9, .int v9)] [] G (k_X10_evenings_143 v1 v2 v3 v4 v5 v7 v8 v9 kc77 G = some (r, G')) := by
      intro v5 v7 v8 v9 G
      unfold k_X10_evenings_143
      refine J_iload 8 hX dX10_evenings_143 rfl ?_
      refine J_goto (tgt := 150) hX dX10_evenings_145 rfl ?_
      refine J_sub (lv' := [(0, .ref (AD Y 186)), (1, .int v1), (2, .int v2), (3, .int v3), (4, .int v4), (5, .int v5), (7, .int v7), (8, .int v8)]) [0, 1, 2, 3, 4, 5, 6, 7] rfl ?_
      exact K150 v5 v7 v8 v9 G
    have K121 : ∀ (v5 : Int32) (v6 : Int32) (v7 : Int32) (v8 : Int32) (s0 : Int32) (G : GM), J X Y 10 Q 121 [(0, .ref (AD Y 186)), (1, .int v1), (2, .int v2), (3, .int v3), (4, .int v4), (5, .int v5), (6, .int v6), (7, .int v7), (8, .int v8)] [.int s0] G (k_X10_evenings_121 v1 v2 v3 v4 v5 v6 v7 v8 s0 kc77 G = some (r, G')) := by
      intro v5 v6 v7 v8 s0 G
      unfold k_X10_evenings_121
      refine J_istore (lv' := [(9, .int s0), (0, .ref (AD Y 186)), (1, .int v1), (2, .int v2), (3, .int v3), (4, .int v4), (5, .int v5), (6, .int v6), (7, .int v7), (8, .int v8)]) hX dX10_evenings_121 (Nat.le_of_ble_eq_true rfl) rfl ?_
      refine J_iload 6 hX dX10_evenings_123 rfl ?_
      refine J_iload 0 hX dX10_evenings_125 rfl ?_
      refine J_iadd hX dX10_evenings_127 ?_
      refine J_lt (mk := Value.int) fun x128 => ?_
      refine J_istore (lv' := [(5, .int x128), (9, .int s0), (0, .ref (AD Y 186)), (1, .int v1), (2, .int v2), (3, .int v3), (4, .int v4), (6, .int v6), (7, .int v7), (8, .int v8)]) hX dX10_evenings_128 (Nat.le_of_ble_eq_true rfl) rfl ?_
      refine J_iload 7 hX dX10_evenings_130 rfl ?_
      refine J_iconst hX dX10_evenings_132 cim_1 ?_
      refine J_icmp_eq (tgt := 143) hX dX10_evenings_133 rfl ?_ ?_
      · refine J_sub (lv' := [(0, .ref (AD Y 186)), (1, .int v1), (2, .int v2), (3, .int v3), (4, .int v4), (5, .int x128), (7, .int v7), (8, .int v8), (9, .int s0)]) [2, 3, 4, 5, 6, 0, 8, 9, 1] rfl ?_
        exact K143 x128 v7 v8 s0 G
      · refine J_iload 1 hX dX10_evenings_136 rfl ?_
        refine J_iload 7 hX dX10_evenings_138 rfl ?_
        refine J_icmp_ge (tgt := 148) hX dX10_evenings_140 rfl ?_ ?_
        · refine J_iload 7 hX dX10_evenings_148 rfl ?_
          refine J_sub (lv' := [(0, .ref (AD Y 186)), (1, .int v1), (2, .int v2), (3, .int v3), (4, .int v4), (5, .int x128), (7, .int v7), (8, .int v8)]) [2, 3, 4, 5, 6, 0, 8, 9] rfl ?_
          exact K150 x128 v7 v8 v6 G
        · refine J_sub (lv' := [(0, .ref (AD Y 186)), (1, .int v1), (2, .int v2), (3, .int v3), (4, .int v4), (5, .int x128), (7, .int v7), (8, .int v8), (9, .int s0)]) [2, 3, 4, 5, 6, 0, 8, 9, 1] rfl ?_
          exact K143 x128 v7 v8 s0 G
    refine J_iload 8 hX dX10_evenings_77 rfl ?_
    refine J_iload_n 2 hX dX10_evenings_79 fz2 rfl ?_
    refine J_icmp_ge (tgt := 176) hX dX10_evenings_80 rfl ?_ ?_
    · refine J_iload 4 hX dX10_evenings_176 rfl ?_
      refine J_if_ne (tgt := 186) hX dX10_evenings_178 rfl ?_ ?_
      · refine J_iload 4 hX dX10_evenings_186 rfl ?_
        refine J_iconst hX dX10_evenings_188 ci_1 ?_
        refine J_icmp_ne (tgt := 197) hX dX10_evenings_189 rfl ?_ ?_
        · refine J_iload 7 hX dX10_evenings_197 rfl ?_
          exact J_retI hR dX10_evenings_199
        · refine J_iload 6 hX dX10_evenings_192 rfl ?_
          refine J_goto (tgt := 199) hX dX10_evenings_194 rfl ?_
          exact J_retI hR dX10_evenings_199
      · refine J_iload 5 hX dX10_evenings_181 rfl ?_
        refine J_goto (tgt := 199) hX dX10_evenings_183 rfl ?_
        exact J_retI hR dX10_evenings_199
    · refine J_aload_n 0 hX dX10_evenings_83 fz0 rfl ?_
      refine J_iconst hX dX10_evenings_84 ci_5 ?_
      refine J_iload_n 1 hX dX10_evenings_85 fz1 rfl ?_
      refine J_i2l hX dX10_evenings_86 ?_
      refine J_iload 8 hX dX10_evenings_87 rfl ?_
      refine J_i2l hX dX10_evenings_89 ?_
      refine J_ladd hX dX10_evenings_90 ?_
      refine J_callVV (As := [.int (5 : Int32), .long ((v1.toInt64) + (v8.toInt64))]) (st := []) (b := 186) hX mv_X10_252 sk_186 rfl rfl rfl (Nat.le_of_ble_eq_true rfl) (Nat.le_of_ble_eq_true rfl) (Nat.le_of_ble_eq_true rfl) dX10_evenings_91 (fun G1 h => ok_X10_callsBy  h) fun G91 => ?_
      refine J_aload_n 0 hX dX10_evenings_94 fz0 rfl ?_
      refine J_iconst hX dX10_evenings_95 ci_5 ?_
      refine J_iload_n 3 hX dX10_evenings_96 fz3 rfl ?_
      refine J_callVV (As := [.int (5 : Int32), .int v3]) (st := []) (b := 186) hX mv_X10_377 sk_186 rfl rfl rfl (Nat.le_of_ble_eq_true rfl) (Nat.le_of_ble_eq_true rfl) (Nat.le_of_ble_eq_true rfl) dX10_evenings_97 (fun G1 h => ok_X10_races  h) fun G97 => ?_
      refine J_aload_n 0 hX dX10_evenings_100 fz0 rfl ?_
      refine J_getI hX dX10_evenings_101 lf_X10_371 sk_186 rfl ?_
      refine J_iconst hX dX10_evenings_104 cim_1 ?_
      refine J_icmp_ne (tgt := 117) hX dX10_evenings_105 rfl ?_ ?_
      · refine J_aload_n 0 hX dX10_evenings_117 fz0 rfl ?_
        refine J_getI hX dX10_evenings_118 lf_X10_371 sk_186 rfl ?_
        exact K121 v5 v6 v7 v8 (gI G97 186 40) G97
      · refine J_aload_n 0 hX dX10_evenings_108 fz0 rfl ?_
        refine J_callVI (As := []) (st := []) (b := 186) hX mv_X10_332 sk_186 rfl rfl rfl (Nat.le_of_ble_eq_true rfl) (Nat.le_of_ble_eq_true rfl) (Nat.le_of_ble_eq_true rfl) dX10_evenings_109 (fun r G1 h => ok_X10_all  h) fun r109 G109 => ?_
        refine J_iconst hX dX10_evenings_112 ci_1 ?_
        refine J_iadd hX dX10_evenings_113 ?_
        refine J_goto (tgt := 121) hX dX10_evenings_114 rfl ?_
        exact K121 v5 v6 v7 v8 (r109 + (1 : Int32)) G109
  unfold f_X10_evenings
  refine J_aload_n 0 hX dX10_evenings_0 fz0 rfl ?_
  refine J_iconst hX dX10_evenings_1 ci_0 ?_
  refine J_putI hX dX10_evenings_2 lf_X10_95 lpt_9_0 sk_186 rfl fun G2 => ?_
  refine J_aload_n 0 hX dX10_evenings_5 fz0 rfl ?_
  refine J_callVI (As := []) (st := []) (b := 186) hX mv_X10_324 sk_186 rfl rfl rfl (Nat.le_of_ble_eq_true rfl) (Nat.le_of_ble_eq_true rfl) (Nat.le_of_ble_eq_true rfl) dX10_evenings_6 (fun r G1 h => ok_X10_isHall  h) fun r6 G6 => ?_
  refine J_if_eq (tgt := 56) hX dX10_evenings_9 rfl ?_ ?_
  · refine J_bipush hX dX10_evenings_56 cbm_2 ?_
    exact J_retI hR dX10_evenings_58
  · refine J_iload_n 1 hX dX10_evenings_12 fz1 rfl ?_
    refine J_i2l hX dX10_evenings_13 ?_
    refine J_lconst hX dX10_evenings_14 fy0 ?_
    refine J_ldc2 hX dX10_evenings_15 ll_X10_348 ?_
    refine J_callSI (As := [.long (v1.toInt64), .long (0 : Int64), .long (2000000000 : Int64)]) (st := []) hX ms_X10_100 rfl rfl (Nat.le_of_ble_eq_true rfl) (Nat.le_of_ble_eq_true rfl) (Nat.le_of_ble_eq_true rfl) dX10_evenings_18 (fun r G1 h => ok_X10_in  h) fun r18 G18 => ?_
    refine J_if_eq (tgt := 56) hX dX10_evenings_21 rfl ?_ ?_
    · refine J_bipush hX dX10_evenings_56 cbm_2 ?_
      exact J_retI hR dX10_evenings_58
    · refine J_iload_n 2 hX dX10_evenings_24 fz2 rfl ?_
      refine J_i2l hX dX10_evenings_25 ?_
      refine J_lconst hX dX10_evenings_26 fy1 ?_
      refine J_ldc2 hX dX10_evenings_27 ll_X10_453 ?_
      refine J_callSI (As := [.long (v2.toInt64), .long (1 : Int64), .long (20 : Int64)]) (st := []) hX ms_X10_100 rfl rfl (Nat.le_of_ble_eq_true rfl) (Nat.le_of_ble_eq_true rfl) (Nat.le_of_ble_eq_true rfl) dX10_evenings_30 (fun r G1 h => ok_X10_in  h) fun r30 G30 => ?_
      refine J_if_eq (tgt := 56) hX dX10_evenings_33 rfl ?_ ?_
      · refine J_bipush hX dX10_evenings_56 cbm_2 ?_
        exact J_retI hR dX10_evenings_58
      · refine J_iload_n 3 hX dX10_evenings_36 fz3 rfl ?_
        refine J_callSI (As := [.int v3]) (st := []) hX ms_X10_361 rfl rfl (Nat.le_of_ble_eq_true rfl) (Nat.le_of_ble_eq_true rfl) (Nat.le_of_ble_eq_true rfl) dX10_evenings_37 (fun r G1 h => ok_X10_isKind  h) fun r37 G37 => ?_
        refine J_if_eq (tgt := 56) hX dX10_evenings_40 rfl ?_ ?_
        · refine J_bipush hX dX10_evenings_56 cbm_2 ?_
          exact J_retI hR dX10_evenings_58
        · refine J_iload 4 hX dX10_evenings_43 rfl ?_
          refine J_i2l hX dX10_evenings_45 ?_
          refine J_lconst hX dX10_evenings_46 fy0 ?_
          refine J_ldc2 hX dX10_evenings_47 ll_X10_359 ?_
          refine J_callSI (As := [.long (v4.toInt64), .long (0 : Int64), .long (2 : Int64)]) (st := []) hX ms_X10_100 rfl rfl (Nat.le_of_ble_eq_true rfl) (Nat.le_of_ble_eq_true rfl) (Nat.le_of_ble_eq_true rfl) dX10_evenings_50 (fun r G1 h => ok_X10_in  h) fun r50 G50 => ?_
          refine J_if_ne (tgt := 59) hX dX10_evenings_53 rfl ?_ ?_
          · refine J_aload_n 0 hX dX10_evenings_59 fz0 rfl ?_
            refine J_iconst hX dX10_evenings_60 ci_0 ?_
            refine J_iconst hX dX10_evenings_61 ci_5 ?_
            refine J_callVV (As := [.int (0 : Int32), .int (5 : Int32)]) (st := []) (b := 186) hX mv_X10_256 sk_186 rfl rfl rfl (Nat.le_of_ble_eq_true rfl) (Nat.le_of_ble_eq_true rfl) (Nat.le_of_ble_eq_true rfl) dX10_evenings_62 (fun G1 h => ok_X10_copyHall  h) fun G62 => ?_
            refine J_iconst hX dX10_evenings_65 ci_0 ?_
            refine J_istore (lv' := [(5, .int (0 : Int32)), (0, .ref (AD Y 186)), (1, .int v1), (2, .int v2), (3, .int v3), (4, .int v4)]) hX dX10_evenings_66 (Nat.le_of_ble_eq_true rfl) rfl ?_
            refine J_iconst hX dX10_evenings_68 cim_1 ?_
            refine J_istore (lv' := [(6, .int (-1 : Int32)), (5, .int (0 : Int32)), (0, .ref (AD Y 186)), (1, .int v1), (2, .int v2), (3, .int v3), (4, .int v4)]) hX dX10_evenings_69 (Nat.le_of_ble_eq_true rfl) rfl ?_
            refine J_iconst hX dX10_evenings_71 ci_0 ?_
            refine J_istore (lv' := [(7, .int (0 : Int32)), (6, .int (-1 : Int32)), (5, .int (0 : Int32)), (0, .ref (AD Y 186)), (1, .int v1), (2, .int v2), (3, .int v3), (4, .int v4)]) hX dX10_evenings_72 (Nat.le_of_ble_eq_true rfl) rfl ?_
            refine J_iconst hX dX10_evenings_74 ci_0 ?_
            refine J_istore (lv' := [(8, .int (0 : Int32)), (7, .int (0 : Int32)), (6, .int (-1 : Int32)), (5, .int (0 : Int32)), (0, .ref (AD Y 186)), (1, .int v1), (2, .int v2), (3, .int v3), (4, .int v4)]) hX dX10_evenings_75 (Nat.le_of_ble_eq_true rfl) rfl ?_
            refine J_sub (lv' := [(0, .ref (AD Y 186)), (1, .int v1), (2, .int v2), (3, .int v3), (4, .int v4), (5, .int (0 : Int32)), (6, .int (-1 : Int32)), (7, .int (0 : Int32)), (8, .int (0 : Int32))]) [4, 5, 6, 7, 8, 3, 2, 1, 0] rfl ?_
            exact K77  FU (0 : Int32) (-1 : Int32) (0 : Int32) (0 : Int32) G62
          · refine J_bipush hX dX10_evenings_56 cbm_2 ?_
            exact J_retI hR dX10_evenings_58
set_option maxHeartbeats 4000000 in
set_option maxRecDepth 100000 in
theorem ok_X10_judge {Y : DX} {v1 : Int32}  {G : GM} {r : Int32} {G' : GM} (hf : f_X10_judge v1 G = some (r, G')) : OkI Y 4 M_X10_judge [.ref (AD Y 186), .int v1] G r G' := by
  refine okI_of (lv0 := [(0, .ref (AD Y 186)), (1, .int v1)]) (by decide +kernel) rfl (Nat.le_of_ble_eq_true rfl) ?_
  intro X Q hX hR
  have hX : CXok X Y RX10 cX10_judge 4 _ := hX
  revert hf
  show J X Y 4 Q 0 [(0, .ref (AD Y 186)), (1, .int v1)] [] G (f_X10_judge v1 G = some (r, G'))
  have K19 : ∀  (n : Nat) (v3 : Int32) (G : GM), J X Y 4 Q 19 [(0, .ref (AD Y 186)), (1, .int v1), (3, .int v3)] [] G (wl1 n (lp_X10_judge_19 v1) v3 G = some (r, G')) := by
    refine wl1_ind (R := fun v3 G φ => J X Y 4 Q 19 [(0, .ref (AD Y 186)), (1, .int v1), (3, .int v3)] [] G φ) (fun _ G φ h => J_no h) ?_
    intro kc19 hk19 v3 G
    unfold lp_X10_judge_19
    refine J_iload_n 2 hX dX10_judge_19 fz3 rfl ?_
    refine J_aload_n 0 hX dX10_judge_20 fz0 rfl ?_
    refine J_getR (b := 188) hX dX10_judge_21 lf_X10_13 sk_186 rfl (by decide) rfl ?_
    refine J_iload_n 1 hX dX10_judge_24 fz1 rfl ?_
    refine J_iald hX dX10_judge_25 sk_188 ln_188 ?_
    refine J_icmp_ge (tgt := 65) hX dX10_judge_26 rfl ?_ ?_
    · refine J_iload_n 2 hX dX10_judge_65 fz3 rfl ?_
      exact J_retI hR dX10_judge_66
    · refine J_iload_n 2 hX dX10_judge_29 fz3 rfl ?_
      refine J_aload_n 0 hX dX10_judge_30 fz0 rfl ?_
      refine J_callVI (As := []) (st := [.int v3]) (b := 186) hX mv_X10_332 sk_186 rfl rfl rfl (Nat.le_of_ble_eq_true rfl) (Nat.le_of_ble_eq_true rfl) (Nat.le_of_ble_eq_true rfl) dX10_judge_31 (fun r G1 h => ok_X10_all  h) fun r31 G31 => ?_
      refine J_icmp_ge (tgt := 65) hX dX10_judge_34 rfl ?_ ?_
      · refine J_iload_n 2 hX dX10_judge_65 fz3 rfl ?_
        exact J_retI hR dX10_judge_66
      · refine J_aload_n 0 hX dX10_judge_37 fz0 rfl ?_
        refine J_getR (b := 189) hX dX10_judge_38 lf_X10_16 sk_186 rfl (by decide) rfl ?_
        refine J_bipush hX dX10_judge_41 cb_60 ?_
        refine J_iload_n 1 hX dX10_judge_43 fz1 rfl ?_
        refine J_imul hX dX10_judge_44 ?_
        refine J_iload_n 2 hX dX10_judge_45 fz3 rfl ?_
        refine J_iadd hX dX10_judge_46 ?_
        refine J_lald hX dX10_judge_47 sk_189 ln_189 ?_
        refine J_aload_n 0 hX dX10_judge_48 fz0 rfl ?_
        refine J_getR (b := 197) hX dX10_judge_49 lf_X10_46 sk_186 rfl (by decide) rfl ?_
        refine J_iload_n 2 hX dX10_judge_52 fz3 rfl ?_
        refine J_iald hX dX10_judge_53 sk_197 ln_197 ?_
        refine J_i2l hX dX10_judge_54 ?_
        refine J_lcmp hX dX10_judge_55 ?_
        refine J_if_ne (tgt := 65) hX dX10_judge_56 rfl ?_ ?_
        · refine J_iload_n 2 hX dX10_judge_65 fz3 rfl ?_
          exact J_retI hR dX10_judge_66
        · refine J_iinc (lv' := [(3, .int (v3 + (1 : Int32))), (0, .ref (AD Y 186)), (1, .int v1)]) 2 hX dX10_judge_59 rfl ci_1 (Nat.le_of_ble_eq_true rfl) rfl ?_
          refine J_goto (tgt := 19) hX dX10_judge_62 rfl ?_
          refine J_sub (lv' := [(0, .ref (AD Y 186)), (1, .int v1), (3, .int (v3 + (1 : Int32)))]) [1, 2, 0] rfl ?_
          exact hk19 (v3 + (1 : Int32)) G31
  unfold f_X10_judge
  refine J_aload_n 0 hX dX10_judge_0 fz0 rfl ?_
  refine J_iconst hX dX10_judge_1 ci_0 ?_
  refine J_putI hX dX10_judge_2 lf_X10_95 lpt_9_0 sk_186 rfl fun G2 => ?_
  refine J_aload_n 0 hX dX10_judge_5 fz0 rfl ?_
  refine J_iload_n 1 hX dX10_judge_6 fz1 rfl ?_
  refine J_callVI (As := [.int v1]) (st := []) (b := 186) hX mv_X10_339 sk_186 rfl rfl rfl (Nat.le_of_ble_eq_true rfl) (Nat.le_of_ble_eq_true rfl) (Nat.le_of_ble_eq_true rfl) dX10_judge_7 (fun r G1 h => ok_X10_whyNot  h) fun r7 G7 => ?_
  refine J_istore_n (lv' := [(2, .int r7), (0, .ref (AD Y 186)), (1, .int v1)]) hX dX10_judge_10 fz2 (Nat.le_of_ble_eq_true rfl) rfl ?_
  refine J_iload_n 0 hX dX10_judge_11 fz2 rfl ?_
  refine J_if_eq (tgt := 17) hX dX10_judge_12 rfl ?_ ?_
  · refine J_iconst hX dX10_judge_17 ci_0 ?_
    refine J_istore_n (lv' := [(3, .int (0 : Int32)), (2, .int r7), (0, .ref (AD Y 186)), (1, .int v1)]) hX dX10_judge_18 fz3 (Nat.le_of_ble_eq_true rfl) rfl ?_
    refine J_sub (lv' := [(0, .ref (AD Y 186)), (1, .int v1), (3, .int (0 : Int32))]) [2, 3, 0] rfl ?_
    exact K19  FU (0 : Int32) G7
  · refine J_iload_n 0 hX dX10_judge_15 fz2 rfl ?_
    exact J_retI hR dX10_judge_16
set_option maxHeartbeats 4000000 in
set_option maxRecDepth 100000 in
theorem ok_X10_count {Y : DX} {v1 : Int32}  {G : GM} {r : Int32} {G' : GM} (hf : f_X10_count v1 G = some (r, G')) : OkI Y 1 M_X10_count [.ref (AD Y 186), .int v1] G r G' := by
  refine okI_of (lv0 := [(0, .ref (AD Y 186)), (1, .int v1)]) (by decide +kernel) rfl (Nat.le_of_ble_eq_true rfl) ?_
  intro X Q hX hR
  have hX : CXok X Y RX10 cX10_count 4 _ := hX
  revert hf
  show J X Y 4 Q 0 [(0, .ref (AD Y 186)), (1, .int v1)] [] G (f_X10_count v1 G = some (r, G'))
  have K128 : ∀  (n : Nat) (v2 : Int32) (v3 : Int32) (G : GM), J X Y 4 Q 128 [(0, .ref (AD Y 186)), (2, .int v2), (3, .int v3)] [] G (wl2 n (lp_X10_count_128 v1) v2 v3 G = some (r, G')) := by
    refine wl2_ind (R := fun v2 v3 G φ => J X Y 4 Q 128 [(0, .ref (AD Y 186)), (2, .int v2), (3, .int v3)] [] G φ) (fun _ _ G φ h => J_no h) ?_
    intro kc128 hk128 v2 v3 G
    unfold lp_X10_count_128
    have K149 : ∀ (v3 : Int32) (s0 : Int32) (s1 : Int32) (G : GM), J X Y 4 Q 149 [(0, .ref (AD Y 186)), (3, .int v3)] [.int s0, .int s1] G (k_X10_count_149 v1 v3 s0 s1 kc128 G = some (r, G')) := by
      intro v3 s0 s1 G
      unfold k_X10_count_149
      refine J_iadd hX dX10_count_149 ?_
      refine J_lt (mk := Value.int) fun x150 => ?_
      refine J_istore_n (lv' := [(2, .int x150), (0, .ref (AD Y 186)), (3, .int v3)]) hX dX10_count_150 fz2 (Nat.le_of_ble_eq_true rfl) rfl ?_
      refine J_iinc (lv' := [(3, .int (v3 + (1 : Int32))), (2, .int x150), (0, .ref (AD Y 186))]) 2 hX dX10_count_151 rfl ci_1 (Nat.le_of_ble_eq_true rfl) rfl ?_
      refine J_goto (tgt := 128) hX dX10_count_154 rfl ?_
      refine J_sub (lv' := [(0, .ref (AD Y 186)), (2, .int x150), (3, .int (v3 + (1 : Int32)))]) [2, 1, 0] rfl ?_
      exact hk128 x150 (v3 + (1 : Int32)) G
    refine J_iload_n 2 hX dX10_count_128 fz3 rfl ?_
    refine J_iconst hX dX10_count_129 ci_4 ?_
    refine J_icmp_ge (tgt := 157) hX dX10_count_130 rfl ?_ ?_
    · refine J_iload_n 1 hX dX10_count_157 fz2 rfl ?_
      exact J_retI hR dX10_count_158
    · refine J_iload_n 1 hX dX10_count_133 fz2 rfl ?_
      refine J_aload_n 0 hX dX10_count_134 fz0 rfl ?_
      refine J_getR (b := 187) hX dX10_count_135 lf_X10_7 sk_186 rfl (by decide) rfl ?_
      refine J_iload_n 2 hX dX10_count_138 fz3 rfl ?_
      refine J_iald hX dX10_count_139 sk_187 ln_187 ?_
      refine J_iconst hX dX10_count_140 cim_1 ?_
      refine J_icmp_ne (tgt := 148) hX dX10_count_141 rfl ?_ ?_
      · refine J_iconst hX dX10_count_148 ci_1 ?_
        refine J_sub (lv' := [(0, .ref (AD Y 186)), (3, .int v3)]) [0, 2] rfl ?_
        exact K149 v3 (1 : Int32) v2 G
      · refine J_iconst hX dX10_count_144 ci_0 ?_
        refine J_goto (tgt := 149) hX dX10_count_145 rfl ?_
        refine J_sub (lv' := [(0, .ref (AD Y 186)), (3, .int v3)]) [0, 2] rfl ?_
        exact K149 v3 (0 : Int32) v2 G
  unfold f_X10_count
  refine J_aload_n 0 hX dX10_count_0 fz0 rfl ?_
  refine J_iconst hX dX10_count_1 ci_0 ?_
  refine J_putI hX dX10_count_2 lf_X10_95 lpt_9_0 sk_186 rfl fun G2 => ?_
  refine J_iconst hX dX10_count_5 ci_0 ?_
  refine J_istore_n (lv' := [(2, .int (0 : Int32)), (0, .ref (AD Y 186)), (1, .int v1)]) hX dX10_count_6 fz2 (Nat.le_of_ble_eq_true rfl) rfl ?_
  refine J_iload_n 2 hX dX10_count_7 fz1 rfl ?_
  refine J_case (fun ht8_0 => ?_) (fun ht8_0 => ?_)
  · refine J_tswIn (off := 56) (tgt := 64) hX dX10_count_8 (by rw [ht8_0]; decide) (by rw [ht8_0]; decide) (by rw [ht8_0]; decide +kernel) rfl ?_
    refine J_aload_n 1 hX dX10_count_64 fz0 rfl ?_
    refine J_getR (b := 193) hX dX10_count_65 lf_X10_34 sk_186 rfl (by decide) rfl ?_
    refine J_iconst hX dX10_count_68 ci_0 ?_
    refine J_iald hX dX10_count_69 sk_193 ln_193 ?_
    exact J_retI hR dX10_count_70
  · refine J_case (fun ht8_1 => ?_) (fun ht8_1 => ?_)
    · refine J_tswIn (off := 63) (tgt := 71) hX dX10_count_8 (by rw [ht8_1]; decide) (by rw [ht8_1]; decide) (by rw [ht8_1]; decide +kernel) rfl ?_
      refine J_aload_n 1 hX dX10_count_71 fz0 rfl ?_
      refine J_getR (b := 193) hX dX10_count_72 lf_X10_34 sk_186 rfl (by decide) rfl ?_
      refine J_iconst hX dX10_count_75 ci_1 ?_
      refine J_iald hX dX10_count_76 sk_193 ln_193 ?_
      exact J_retI hR dX10_count_77
    · refine J_case (fun ht8_2 => ?_) (fun ht8_2 => ?_)
      · refine J_tswIn (off := 70) (tgt := 78) hX dX10_count_8 (by rw [ht8_2]; decide) (by rw [ht8_2]; decide) (by rw [ht8_2]; decide +kernel) rfl ?_
        refine J_aload_n 1 hX dX10_count_78 fz0 rfl ?_
        refine J_getR (b := 193) hX dX10_count_79 lf_X10_34 sk_186 rfl (by decide) rfl ?_
        refine J_iconst hX dX10_count_82 ci_2 ?_
        refine J_iald hX dX10_count_83 sk_193 ln_193 ?_
        exact J_retI hR dX10_count_84
      · refine J_case (fun ht8_3 => ?_) (fun ht8_3 => ?_)
        · refine J_tswIn (off := 77) (tgt := 85) hX dX10_count_8 (by rw [ht8_3]; decide) (by rw [ht8_3]; decide) (by rw [ht8_3]; decide +kernel) rfl ?_
          refine J_aload_n 1 hX dX10_count_85 fz0 rfl ?_
          refine J_getR (b := 193) hX dX10_count_86 lf_X10_34 sk_186 rfl (by decide) rfl ?_
          refine J_iconst hX dX10_count_89 ci_3 ?_
          refine J_iald hX dX10_count_90 sk_193 ln_193 ?_
          exact J_retI hR dX10_count_91
        · refine J_case (fun ht8_4 => ?_) (fun ht8_4 => ?_)
          · refine J_tswIn (off := 84) (tgt := 92) hX dX10_count_8 (by rw [ht8_4]; decide) (by rw [ht8_4]; decide) (by rw [ht8_4]; decide +kernel) rfl ?_
            refine J_aload_n 1 hX dX10_count_92 fz0 rfl ?_
            refine J_getR (b := 193) hX dX10_count_93 lf_X10_34 sk_186 rfl (by decide) rfl ?_
            refine J_iconst hX dX10_count_96 ci_4 ?_
            refine J_iald hX dX10_count_97 sk_193 ln_193 ?_
            exact J_retI hR dX10_count_98
          · refine J_case (fun ht8_5 => ?_) (fun ht8_5 => ?_)
            · refine J_tswIn (off := 91) (tgt := 99) hX dX10_count_8 (by rw [ht8_5]; decide) (by rw [ht8_5]; decide) (by rw [ht8_5]; decide +kernel) rfl ?_
              refine J_aload_n 1 hX dX10_count_99 fz0 rfl ?_
              refine J_getR (b := 192) hX dX10_count_100 lf_X10_31 sk_186 rfl (by decide) rfl ?_
              refine J_iconst hX dX10_count_103 ci_0 ?_
              refine J_iald hX dX10_count_104 sk_192 ln_192 ?_
              exact J_retI hR dX10_count_105
            · refine J_case (fun ht8_6 => ?_) (fun ht8_6 => ?_)
              · refine J_tswIn (off := 98) (tgt := 106) hX dX10_count_8 (by rw [ht8_6]; decide) (by rw [ht8_6]; decide) (by rw [ht8_6]; decide +kernel) rfl ?_
                refine J_aload_n 1 hX dX10_count_106 fz0 rfl ?_
                refine J_getI hX dX10_count_107 lf_X10_112 sk_186 rfl ?_
                exact J_retI hR dX10_count_110
              · refine J_case (fun ht8_7 => ?_) (fun ht8_7 => ?_)
                · refine J_tswIn (off := 103) (tgt := 111) hX dX10_count_8 (by rw [ht8_7]; decide) (by rw [ht8_7]; decide) (by rw [ht8_7]; decide +kernel) rfl ?_
                  refine J_aload_n 1 hX dX10_count_111 fz0 rfl ?_
                  refine J_getR (b := 193) hX dX10_count_112 lf_X10_34 sk_186 rfl (by decide) rfl ?_
                  refine J_iconst hX dX10_count_115 ci_5 ?_
                  refine J_iald hX dX10_count_116 sk_193 ln_193 ?_
                  exact J_retI hR dX10_count_117
                · refine J_case (fun ht8_8 => ?_) (fun ht8_8 => ?_)
                  · refine J_tswIn (off := 110) (tgt := 118) hX dX10_count_8 (by rw [ht8_8]; decide) (by rw [ht8_8]; decide) (by rw [ht8_8]; decide +kernel) rfl ?_
                    refine J_aload_n 1 hX dX10_count_118 fz0 rfl ?_
                    refine J_getR (b := 193) hX dX10_count_119 lf_X10_34 sk_186 rfl (by decide) rfl ?_
                    refine J_bipush hX dX10_count_122 cb_6 ?_
                    refine J_iald hX dX10_count_124 sk_193 ln_193 ?_
                    exact J_retI hR dX10_count_125
                  · refine J_case (fun ht8_9 => ?_) (fun ht8_9 => ?_)
                    · refine J_tswIn (off := 118) (tgt := 126) hX dX10_count_8 (by rw [ht8_9]; decide) (by rw [ht8_9]; decide) (by rw [ht8_9]; decide +kernel) rfl ?_
                      refine J_iconst hX dX10_count_126 ci_0 ?_
                      refine J_istore_n (lv' := [(3, .int (0 : Int32)), (2, .int (0 : Int32)), (0, .ref (AD Y 186)), (1, .int v1)]) hX dX10_count_127 fz3 (Nat.le_of_ble_eq_true rfl) rfl ?_
                      refine J_sub (lv' := [(0, .ref (AD Y 186)), (2, .int (0 : Int32)), (3, .int (0 : Int32))]) [2, 1, 0] rfl ?_
                      exact K128  FU (0 : Int32) (0 : Int32) G2
                    · refine J_tswOut (tgt := 159) hX dX10_count_8 (by have e_ht8_0 := ne_toInt ht8_0; rw [show ((0 : Int32).toInt) = 0 from by decide] at e_ht8_0; have e_ht8_1 := ne_toInt ht8_1; rw [show ((1 : Int32).toInt) = 1 from by decide] at e_ht8_1; have e_ht8_2 := ne_toInt ht8_2; rw [show ((2 : Int32).toInt) = 2 from by decide] at e_ht8_2; have e_ht8_3 := ne_toInt ht8_3; rw [show ((3 : Int32).toInt) = 3 from by decide] at e_ht8_3; have e_ht8_4 := ne_toInt ht8_4; rw [show ((4 : Int32).toInt) = 4 from by decide] at e_ht8_4; have e_ht8_5 := ne_toInt ht8_5; rw [show ((5 : Int32).toInt) = 5 from by decide] at e_ht8_5; have e_ht8_6 := ne_toInt ht8_6; rw [show ((6 : Int32).toInt) = 6 from by decide] at e_ht8_6; have e_ht8_7 := ne_toInt ht8_7; rw [show ((7 : Int32).toInt) = 7 from by decide] at e_ht8_7; have e_ht8_8 := ne_toInt ht8_8; rw [show ((8 : Int32).toInt) = 8 from by decide] at e_ht8_8; have e_ht8_9 := ne_toInt ht8_9; rw [show ((9 : Int32).toInt) = 9 from by decide] at e_ht8_9; omega) rfl ?_
                      refine J_iconst hX dX10_count_159 cim_1 ?_
                      exact J_retI hR dX10_count_160
set_option maxHeartbeats 4000000 in
set_option maxRecDepth 100000 in
theorem ok_X10_keep {Y : DX} {v1 : Int32}  {G : GM} {r : Int32} {G' : GM} (hf : f_X10_keep v1 G = some (r, G')) : OkI Y 3 M_X10_keep [.ref (AD Y 186), .int v1] G r G' := by
  refine okI_of (lv0 := [(0, .ref (AD Y 186)), (1, .int v1)]) (by decide +kernel) rfl (Nat.le_of_ble_eq_true rfl) ?_
  intro X Q hX hR
  have hX : CXok X Y RX10 cX10_keep 2 _ := hX
  revert hf
  show J X Y 2 Q 0 [(0, .ref (AD Y 186)), (1, .int v1)] [] G (f_X10_keep v1 G = some (r, G'))
  unfold f_X10_keep
  refine J_aload_n 0 hX dX10_keep_0 fz0 rfl ?_
  refine J_iconst hX dX10_keep_1 ci_0 ?_
  refine J_putI hX dX10_keep_2 lf_X10_95 lpt_9_0 sk_186 rfl fun G2 => ?_
  refine J_iload_n 1 hX dX10_keep_5 fz1 rfl ?_
  refine J_i2l hX dX10_keep_6 ?_
  refine J_lconst hX dX10_keep_7 fy0 ?_
  refine J_ldc2 hX dX10_keep_8 ll_X10_359 ?_
  refine J_callSI (As := [.long (v1.toInt64), .long (0 : Int64), .long (2 : Int64)]) (st := []) hX ms_X10_100 rfl rfl (Nat.le_of_ble_eq_true rfl) (Nat.le_of_ble_eq_true rfl) (Nat.le_of_ble_eq_true rfl) dX10_keep_11 (fun r G1 h => ok_X10_in  h) fun r11 G11 => ?_
  refine J_if_ne (tgt := 20) hX dX10_keep_14 rfl ?_ ?_
  · refine J_aload_n 0 hX dX10_keep_20 fz0 rfl ?_
    refine J_iconst hX dX10_keep_21 ci_0 ?_
    refine J_iconst hX dX10_keep_22 ci_1 ?_
    refine J_iload_n 1 hX dX10_keep_23 fz1 rfl ?_
    refine J_iadd hX dX10_keep_24 ?_
    refine J_callVV (As := [.int (0 : Int32), .int ((1 : Int32) + v1)]) (st := []) (b := 186) hX mv_X10_256 sk_186 rfl rfl rfl (Nat.le_of_ble_eq_true rfl) (Nat.le_of_ble_eq_true rfl) (Nat.le_of_ble_eq_true rfl) dX10_keep_25 (fun G1 h => ok_X10_copyHall  h) fun G25 => ?_
    refine J_aload_n 0 hX dX10_keep_28 fz0 rfl ?_
    refine J_getR (b := 198) hX dX10_keep_29 lf_X10_49 sk_186 rfl (by decide) rfl ?_
    refine J_iload_n 1 hX dX10_keep_32 fz1 rfl ?_
    refine J_iconst hX dX10_keep_33 ci_1 ?_
    refine J_zast hX dX10_keep_34 sk_198 ln_198 fun G34 => ?_
    refine J_iconst hX dX10_keep_35 ci_0 ?_
    exact J_retI hR dX10_keep_36
  · refine J_bipush hX dX10_keep_17 cbm_2 ?_
    exact J_retI hR dX10_keep_19
set_option maxHeartbeats 4000000 in
set_option maxRecDepth 100000 in
theorem ok_X10_back {Y : DX} {v1 : Int32}  {G : GM} {r : Int32} {G' : GM} (hf : f_X10_back v1 G = some (r, G')) : OkI Y 3 M_X10_back [.ref (AD Y 186), .int v1] G r G' := by
  refine okI_of (lv0 := [(0, .ref (AD Y 186)), (1, .int v1)]) (by decide +kernel) rfl (Nat.le_of_ble_eq_true rfl) ?_
  intro X Q hX hR
  have hX : CXok X Y RX10 cX10_back 2 _ := hX
  revert hf
  show J X Y 2 Q 0 [(0, .ref (AD Y 186)), (1, .int v1)] [] G (f_X10_back v1 G = some (r, G'))
  unfold f_X10_back
  refine J_aload_n 0 hX dX10_back_0 fz0 rfl ?_
  refine J_iconst hX dX10_back_1 ci_0 ?_
  refine J_putI hX dX10_back_2 lf_X10_95 lpt_9_0 sk_186 rfl fun G2 => ?_
  refine J_iload_n 1 hX dX10_back_5 fz1 rfl ?_
  refine J_i2l hX dX10_back_6 ?_
  refine J_lconst hX dX10_back_7 fy0 ?_
  refine J_ldc2 hX dX10_back_8 ll_X10_359 ?_
  refine J_callSI (As := [.long (v1.toInt64), .long (0 : Int64), .long (2 : Int64)]) (st := []) hX ms_X10_100 rfl rfl (Nat.le_of_ble_eq_true rfl) (Nat.le_of_ble_eq_true rfl) (Nat.le_of_ble_eq_true rfl) dX10_back_11 (fun r G1 h => ok_X10_in  h) fun r11 G11 => ?_
  refine J_if_ne (tgt := 20) hX dX10_back_14 rfl ?_ ?_
  · refine J_aload_n 0 hX dX10_back_20 fz0 rfl ?_
    refine J_getR (b := 198) hX dX10_back_21 lf_X10_49 sk_186 rfl (by decide) rfl ?_
    refine J_iload_n 1 hX dX10_back_24 fz1 rfl ?_
    refine J_zald hX dX10_back_25 sk_198 ln_198 ?_
    refine J_if_ne (tgt := 32) hX dX10_back_26 rfl ?_ ?_
    · refine J_aload_n 0 hX dX10_back_32 fz0 rfl ?_
      refine J_iconst hX dX10_back_33 ci_1 ?_
      refine J_iload_n 1 hX dX10_back_34 fz1 rfl ?_
      refine J_iadd hX dX10_back_35 ?_
      refine J_iconst hX dX10_back_36 ci_0 ?_
      refine J_callVV (As := [.int ((1 : Int32) + v1), .int (0 : Int32)]) (st := []) (b := 186) hX mv_X10_256 sk_186 rfl rfl rfl (Nat.le_of_ble_eq_true rfl) (Nat.le_of_ble_eq_true rfl) (Nat.le_of_ble_eq_true rfl) dX10_back_37 (fun G1 h => ok_X10_copyHall  h) fun G37 => ?_
      refine J_iconst hX dX10_back_40 ci_0 ?_
      exact J_retI hR dX10_back_41
    · refine J_bipush hX dX10_back_29 cbm_6 ?_
      exact J_retI hR dX10_back_31
  · refine J_bipush hX dX10_back_17 cbm_2 ?_
    exact J_retI hR dX10_back_19
