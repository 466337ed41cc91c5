abbrev M_J0_coder_7d493 : MI := (yJ0_coder_7d493, cJ0_coder_7d493, 1, some .byte)
abbrev M_J0_isLatin1_aae02 : MI := (yJ0_isLatin1_aae02, cJ0_isLatin1_aae02, 1, some .boolean)
abbrev M_J1_charAt_3b067 : MI := (yJ1_charAt_3b067, cJ1_charAt_3b067, 2, some .char)
abbrev M_J0_checkIndex_df160 : MI := (yJ0_checkIndex_df160, cJ0_checkIndex_df160, 2, none)
abbrev M_J3_checkIndex_8e157 : MI := (yJ3_checkIndex_8e157, cJ3_checkIndex_8e157, 3, some .int)
abbrev M_J0_length_8abf5 : MI := (yJ0_length_8abf5, cJ0_length_8abf5, 1, some .int)
abbrev M_J0_charAt_5068e : MI := (yJ0_charAt_5068e, cJ0_charAt_5068e, 2, some .char)
theorem mv_J0_335 : LVt RJ0 335 RJ0 M_J0_coder_7d493 0 := ⟨rfl, ⟨by decide, by decide, by decide +kernel⟩, ⟨(mg 609 (by decide +kernel) rfl), (mg 607 (by decide +kernel) rfl), (mg 608 (by decide +kernel) rfl), (mg 163 (by decide +kernel) rfl)⟩, Or.inl (mg 606 (by decide +kernel) rfl)⟩
theorem mv_J0_492 : LVt RJ0 492 RJ0 M_J0_isLatin1_aae02 0 := ⟨rfl, ⟨by decide, by decide, by decide +kernel⟩, ⟨(mg 619 (by decide +kernel) rfl), (mg 617 (by decide +kernel) rfl), (mg 618 (by decide +kernel) rfl), (mg 163 (by decide +kernel) rfl)⟩, Or.inl (mg 616 (by decide +kernel) rfl)⟩
theorem ms_J0_495 : LSt RJ0 495 M_J1_charAt_3b067 2 := ⟨⟨by decide, by decide, by decide +kernel⟩, ⟨(mg 622 (by decide +kernel) rfl), (mg 621 (by decide +kernel) rfl), (mg 164 (by decide +kernel) rfl)⟩, Or.inl (mg 620 (by decide +kernel) rfl)⟩
theorem ms_J1_9 : LSt RJ1 9 M_J0_checkIndex_df160 2 := ⟨⟨by decide, by decide, by decide +kernel⟩, ⟨(mg 625 (by decide +kernel) rfl), (mg 624 (by decide +kernel) rfl), (mg 163 (by decide +kernel) rfl)⟩, Or.inl (mg 623 (by decide +kernel) rfl)⟩
theorem ms_J0_1059 : LSt RJ0 1059 M_J3_checkIndex_8e157 3 := ⟨⟨by decide, by decide, by decide +kernel⟩, ⟨(mg 630 (by decide +kernel) rfl), (mg 629 (by decide +kernel) rfl), (mg 165 (by decide +kernel) rfl)⟩, Or.inl (mg 628 (by decide +kernel) rfl)⟩
theorem mv_X7_179 : LVt RX7 179 RJ0 M_J0_length_8abf5 0 := ⟨rfl, ⟨by decide, by decide, by decide +kernel⟩, ⟨(mg 605 (by decide +kernel) rfl), (mg 603 (by decide +kernel) rfl), (mg 604 (by decide +kernel) rfl), (mg 163 (by decide +kernel) rfl)⟩, Or.inl (mg 602 (by decide +kernel) rfl)⟩
theorem mv_X7_189 : LVt RX7 189 RJ0 M_J0_charAt_5068e 1 := ⟨rfl, ⟨by decide, by decide, by decide +kernel⟩, ⟨(mg 615 (by decide +kernel) rfl), (mg 613 (by decide +kernel) rfl), (mg 614 (by decide +kernel) rfl), (mg 163 (by decide +kernel) rfl)⟩, Or.inl (mg 612 (by decide +kernel) rfl)⟩
section JSTR
variable {X : CX} {Y : DX} {own : String} {cc : ByteArray} {nL d dc n pc tgt index : Nat} {off : Int} {Q : State → Prop} {lv lv' : List (Nat × Value)} {st st0 As : List Value} {G G' : GM} {φ : Prop} {α : Type} {v : α} {p q : Option α} {M : MI}
theorem J_gets_cs (hX : CXok X Y own cc nL d) (hd : decode cc pc = .ok (.getstatic index, 3)) (hl : Cond.fieldLink own index "java/lang/String" "COMPACT_STRINGS" "Z" ∈ lw_good) (k : J X Y nL Q (pc + 3) lv (.int 1 :: st) G φ) : J X Y nL Q pc lv st G φ := fun hφ hw H locs ls hP hS hl2 => va_gets hX.1 hX.2.1 hX.2.2.2.2.2.2.2.1.2.2.1 hS hX.2.2.2.1 (hX.2.2.2.2.1 _ hl) (fun x h => h) hd (k hφ hw H locs ls hP hS hl2)
theorem J_gets_pf (hX : CXok X Y own cc nL d) (hd : decode cc pc = .ok (.getstatic index, 3)) (hl : Cond.fieldLink own index "jdk/internal/util/Preconditions" "SIOOBE_FORMATTER" "Ljava/util/function/BiFunction;" ∈ lw_good) (k : ∀ x : Value, J X Y nL Q (pc + 3) lv (x :: st) G φ) : J X Y nL Q pc lv st G φ := fun hφ hw H locs ls hP hS hl2 => by
  rcases hX.2.2.2.2.2.2.2.1.2.2.2 with h | ⟨t, h⟩
  · exact va_gets hX.1 hX.2.1 h hS hX.2.2.2.1 (hX.2.2.2.2.1 _ hl) (fun x h => h) hd (k _ hφ hw H locs ls hP hS hl2)
  · exact va_gets hX.1 hX.2.1 h hS hX.2.2.2.1 (hX.2.2.2.2.1 _ hl) (fun x h => h) hd (k _ hφ hw H locs ls hP hS hl2)
def SV (Y : DX) (w : Nat) : Nat := Y.2.2.2.2 w
theorem J_sgv {w : Nat} (hX : CXok X Y own cc nL d) (hw0 : w < NS) (hd : decode cc pc = .ok (.getfield index, 3)) (hl : Cond.fieldLink own index "java/lang/String" "value" "[B" ∈ lw_good) (k : J X Y nL Q (pc + 3) lv (.ref (SV Y w) :: st) G φ) : J X Y nL Q pc lv (.ref (yk Y w) :: st) G φ := fun hφ hw H locs ls hP hS hl2 => vk_getf hX.1 hX.2.1 (hX.2.2.2.2.2.2.2.1.1.1 w hw0).2.2.1 hS hX.2.2.2.1 (hX.2.2.2.2.1 _ hl) (fun x h => h) hd (k hφ hw H locs ls hP hS hl2)
theorem J_sgc {w : Nat} (hX : CXok X Y own cc nL d) (hw0 : w < NS) (hd : decode cc pc = .ok (.getfield index, 3)) (hl : Cond.fieldLink own index "java/lang/String" "coder" "B" ∈ lw_good) (k : J X Y nL Q (pc + 3) lv (.int 0 :: st) G φ) : J X Y nL Q pc lv (.ref (yk Y w) :: st) G φ := fun hφ hw H locs ls hP hS hl2 => vk_getf hX.1 hX.2.1 (hX.2.2.2.2.2.2.2.1.1.1 w hw0).2.1 hS hX.2.2.2.1 (hX.2.2.2.2.1 _ hl) (fun x h => h) hd (k hφ hw H locs ls hP hS hl2)
theorem J_sal {w : Nat} (hX : CXok X Y own cc nL d) (hw0 : w < NS) (hd : decode cc pc = .ok (.arraylength, 1)) (k : J X Y nL Q (pc + 1) lv (.int (Int32.ofNat (SLEN w)) :: st) G φ) : J X Y nL Q pc lv (.ref (SV Y w) :: st) G φ := fun hφ hw H locs ls hP hS hl2 => va_tlen hX.1 hX.2.1 (hX.2.2.2.2.2.2.2.1.1.1 w hw0).2.2.2 hS rfl hd (k hφ hw H locs ls hP hS hl2)
theorem J_sba {w : Nat} {i : Int32} (hX : CXok X Y own cc nL d) (hw0 : w < NS) (hi : inb i (SLEN w) = true) (hd : decode cc pc = .ok (.baload, 1)) (k : J X Y nL Q (pc + 1) lv (.int (SCH w i.toNatClampNeg) :: st) G φ) : J X Y nL Q pc lv (.int i :: .ref (SV Y w) :: st) G φ := fun hφ hw H locs ls hP hS hl2 => va_tb hX.1 hX.2.1 (hX.2.2.2.2.2.2.2.1.1.1 w hw0).2.2.2 hS (inb_in hi) rfl hd (k hφ hw H locs ls hP hS hl2)
theorem J_i2c {x z : Int32} (hX : CXok X Y own cc nL d) (hd : decode cc pc = .ok (.i2c, 1)) (hz : (x.toUInt32 % 65536).toInt32 = z) (k : J X Y nL Q (pc + 1) lv (.int z :: st) G φ) : J X Y nL Q pc lv (.int x :: st) G φ := fun hφ hw H locs ls hP hS hl2 => lv_i2c hX.1 hX.2.1 hd hz (k hφ hw H locs ls hP hS hl2)
theorem J_nif_eq {x : Int32} (hX : CXok X Y own cc nL d) (hd : decode cc pc = .ok (.ifCond .eq off, 3)) (ht : (pc : Int) + off = (tgt : Int)) (h : ¬ x = 0) (k : J X Y nL Q (pc + 3) lv st G φ) : J X Y nL Q pc lv (.int x :: st) G φ := fun hφ hw H locs ls hP hS hl2 => lv_if_eq hX.1 hX.2.1 hd ht (fun c => absurd c h) (fun _ => k hφ hw H locs ls hP hS hl2)
theorem J_nif_ne {x : Int32} (hX : CXok X Y own cc nL d) (hd : decode cc pc = .ok (.ifCond .ne off, 3)) (ht : (pc : Int) + off = (tgt : Int)) (h : x = 0) (k : J X Y nL Q (pc + 3) lv st G φ) : J X Y nL Q pc lv (.int x :: st) G φ := fun hφ hw H locs ls hP hS hl2 => lv_if_ne hX.1 hX.2.1 hd ht (fun c => absurd h c) (fun _ => k hφ hw H locs ls hP hS hl2)
theorem J_nif_lt {x : Int32} (hX : CXok X Y own cc nL d) (hd : decode cc pc = .ok (.ifCond .lt off, 3)) (ht : (pc : Int) + off = (tgt : Int)) (h : ¬ x < 0) (k : J X Y nL Q (pc + 3) lv st G φ) : J X Y nL Q pc lv (.int x :: st) G φ := fun hφ hw H locs ls hP hS hl2 => lv_if_lt hX.1 hX.2.1 hd ht (fun c => absurd c h) (fun _ => k hφ hw H locs ls hP hS hl2)
theorem J_yicmp_lt {x y : Int32} (hX : CXok X Y own cc nL d) (hd : decode cc pc = .ok (.if_icmp .lt off, 3)) (ht : (pc : Int) + off = (tgt : Int)) (h : x < y) (k : J X Y nL Q tgt lv st G φ) : J X Y nL Q pc lv (.int y :: .int x :: st) G φ := fun hφ hw H locs ls hP hS hl2 => lv_icmp_lt hX.1 hX.2.1 hd ht (fun _ => k hφ hw H locs ls hP hS hl2) (fun c => absurd h c)
theorem J_callStr {w : Nat} {r : Int32} (hX : CXok X Y own cc nL d) (hw0 : w < NS) (hL : LVt own index "java/lang/String" M n) (hn : As.length = n) (hst : st0 = As.reverse ++ .ref (yk Y w) :: st) (hcat : (st.map fun v => v.category).sum ≤ 8) (hdc : dc + 1 ≤ d) (hml : M.2.2.1 ≤ 100) (hd : decode cc pc = .ok (.invokevirtual index, 3)) (ho : OkI Y dc M (.ref (yk Y w) :: As) G r G') (k : J X Y nL Q (pc + 3) lv (.int r :: st) G' φ) : J X Y nL Q pc lv st0 G φ := by
  intro hφ hw H locs ls hP hS hl
  refine va_calli (runV0 hX hL (ho X.2.1) hdc hml (vk_recv hX.2.2.2.2.2.2.2.1.1 hw0 hS) hn hst hcat hd hw hP hS hl) hS (fun q _ h => h) (fun q h => h) (fun r2 u t H1 locs1 ht hvm hpost hB hz hk1 hS1 => ?_)
  cases hpost
  exact k hφ hB.2.2.2.2.2 H1 locs1 ls (by rw [← ht]; exact hB.1) hS1 hl
theorem J_callSk {r : Int32} (hX : CXok X Y own cc nL d) (hL : LSt own index M n) (hn : As.length = n) (hst : st0 = As.reverse ++ st) (hcat : (st.map fun v => v.category).sum ≤ 8) (hdc : dc + 1 ≤ d) (hml : M.2.2.1 ≤ 100) (hd : decode cc pc = .ok (.invokestatic index, 3)) (ho : OkI Y dc M As G r G') (k : J X Y nL Q (pc + 3) lv (.int r :: st) G' φ) : J X Y nL Q pc lv st0 G φ := by
  intro hφ hw H locs ls hP hS hl
  refine va_calli (runS hX hL (ho X.2.1) hdc hml hn hst hcat hd hw hP hS hl) hS (fun q _ h => h) (fun q h => h) (fun r2 u t H1 locs1 ht hvm hpost hB hz hk1 hS1 => ?_)
  cases hpost
  exact k hφ hB.2.2.2.2.2 H1 locs1 ls (by rw [← ht]; exact hB.1) hS1 hl
theorem J_callSkV (hX : CXok X Y own cc nL d) (hL : LSt own index M n) (hn : As.length = n) (hst : st0 = As.reverse ++ st) (hcat : (st.map fun v => v.category).sum ≤ 8) (hdc : dc + 1 ≤ d) (hml : M.2.2.1 ≤ 100) (hd : decode cc pc = .ok (.invokestatic index, 3)) (ho : OkV Y dc M As G G') (k : J X Y nL Q (pc + 3) lv st G' φ) : J X Y nL Q pc lv st0 G φ := by
  intro hφ hw H locs ls hP hS hl
  refine va_callv (runS hX hL (ho X.2.1) hdc hml hn hst hcat hd hw hP hS hl) hS (fun q _ h => h) (fun q h => h) (fun u t H1 locs1 ht hvm hpost hB hz hk1 hS1 => ?_)
  exact k hφ hB.2.2.2.2.2 H1 locs1 ls (by rw [← ht]; exact hB.1) hS1 hl
theorem J_sub0 (ks : List Nat) (h : lv_pick lv ks = lv') (k : J X Y nL Q pc lv' st G φ) : J X Y nL Q pc lv st G φ := J_sub ks h k

set_option maxRecDepth 100000 in
theorem okS_coder {w : Nat} (hw : w < NS) {G : GM} : OkI Y 1 M_J0_coder_7d493 [.ref (yk Y w)] G 0 G := by
  refine okB_of (lv0 := [(0, .ref (yk Y w))]) (by decide +kernel) rfl (Nat.le_of_ble_eq_true rfl) ?_
  intro X Q hX hR
  have hX : CXok X Y RJ0 cJ0_coder_7d493 1 _ := hX
  suffices h : J X Y 1 Q 0 [(0, .ref (yk Y w))] [] G True from h trivial
  refine J_gets_cs hX dJ0_coder_7d493_0 (mg 610 (by decide +kernel) rfl) ?_
  refine J_nif_eq (tgt := 13) hX dJ0_coder_7d493_3 rfl (by decide) ?_
  refine J_aload_n 0 hX dJ0_coder_7d493_6 fz0 rfl ?_
  refine J_sgc hX hw dJ0_coder_7d493_7 (mg 1925 (by decide +kernel) rfl) ?_
  refine J_goto (tgt := 14) hX dJ0_coder_7d493_10 rfl ?_
  exact fun _ => hR _ _ rfl dJ0_coder_7d493_14
set_option maxRecDepth 100000 in
theorem okS_lat {w : Nat} (hw : w < NS) {G : GM} : OkI Y 1 M_J0_isLatin1_aae02 [.ref (yk Y w)] G 1 G := by
  refine okZ_of (lv0 := [(0, .ref (yk Y w))]) (by decide +kernel) rfl (Nat.le_of_ble_eq_true rfl) ?_
  intro X Q hX hR
  have hX : CXok X Y RJ0 cJ0_isLatin1_aae02 1 _ := hX
  suffices h : J X Y 1 Q 0 [(0, .ref (yk Y w))] [] G True from h trivial
  refine J_gets_cs hX dJ0_isLatin1_aae02_0 (mg 610 (by decide +kernel) rfl) ?_
  refine J_nif_eq (tgt := 17) hX dJ0_isLatin1_aae02_3 rfl (by decide) ?_
  refine J_aload_n 0 hX dJ0_isLatin1_aae02_6 fz0 rfl ?_
  refine J_sgc hX hw dJ0_isLatin1_aae02_7 (mg 1925 (by decide +kernel) rfl) ?_
  refine J_nif_ne (tgt := 17) hX dJ0_isLatin1_aae02_10 rfl rfl ?_
  refine J_iconst hX dJ0_isLatin1_aae02_13 (x := 1) (by decide) ?_
  refine J_goto (tgt := 18) hX dJ0_isLatin1_aae02_14 rfl ?_
  exact fun _ => hR _ _ (Or.inr rfl) dJ0_isLatin1_aae02_18
theorem shr0 (x : Int32) : x >>> ((0 : Int32) &&& 31) = x := by
  apply Int32.toBitVec_inj.mp
  simp
theorem sl_facts : ∀ w, w < NS → SLEN w < 100 ∧ ∀ i, i < SLEN w → (((SCH w i &&& 255).toUInt32 % 65536).toInt32 = SCH w i ∧ narrow .char (.int (SCH w i)) = .int (SCH w i)) := by decide +kernel
set_option maxRecDepth 100000 in
theorem okS_len {w : Nat} (hw : w < NS) {G : GM} : OkI Y 2 M_J0_length_8abf5 [.ref (yk Y w)] G (Int32.ofNat (SLEN w)) G := by
  refine okI_of (lv0 := [(0, .ref (yk Y w))]) (by decide +kernel) rfl (Nat.le_of_ble_eq_true rfl) ?_
  intro X Q hX hR
  have hX : CXok X Y RJ0 cJ0_length_8abf5 1 _ := hX
  suffices h : J X Y 1 Q 0 [(0, .ref (yk Y w))] [] G True from h trivial
  refine J_aload_n 0 hX dJ0_length_8abf5_0 fz0 rfl ?_
  refine J_sgv hX hw dJ0_length_8abf5_1 (mg 1924 (by decide +kernel) rfl) ?_
  refine J_sal hX hw dJ0_length_8abf5_4 ?_
  refine J_aload_n 0 hX dJ0_length_8abf5_5 fz0 rfl ?_
  refine J_callStr (As := []) (st := [.int (Int32.ofNat (SLEN w))]) hX hw mv_J0_335 rfl rfl (Nat.le_of_ble_eq_true rfl) (Nat.le_of_ble_eq_true rfl) (Nat.le_of_ble_eq_true rfl) dJ0_length_8abf5_6 (okS_coder hw) ?_
  refine J_ishr hX dJ0_length_8abf5_9 ?_
  rw [shr0]
  exact fun _ => hR _ _ dJ0_length_8abf5_10
theorem lg3 {i n : Int32} {x : Value} (hx : x.category = 1) : (lg_sl [.int i, .int n, x]).length ≤ 3 := by
  unfold lg_sl
  simp only [List.flatMap_cons, List.flatMap_nil, hx]
  exact Nat.le_of_ble_eq_true rfl
set_option maxRecDepth 100000 in
theorem okS_pre {i n : Int32} (hi : ¬ i < 0) (hn : i < n) {x : Value} (hx : x.category = 1) {G : GM} : OkI Y 1 M_J3_checkIndex_8e157 [.int i, .int n, x] G i G := by
  refine okI_of (lv0 := [(0, .int i), (1, .int n), (2, x)]) (by decide +kernel) rfl (lg3 hx) ?_
  intro X Q hX hR
  have hX : CXok X Y RJ3 cJ3_checkIndex_8e157 3 _ := hX
  suffices h : J X Y 3 Q 0 [(0, .int i), (1, .int n), (2, x)] [] G True from h trivial
  refine J_iload_n 0 hX dJ3_checkIndex_8e157_0 fz0 rfl ?_
  refine J_nif_lt (tgt := 9) hX dJ3_checkIndex_8e157_1 rfl hi ?_
  refine J_iload_n 0 hX dJ3_checkIndex_8e157_4 fz0 rfl ?_
  refine J_iload_n 1 hX dJ3_checkIndex_8e157_5 fz1 rfl ?_
  refine J_yicmp_lt (tgt := 16) hX dJ3_checkIndex_8e157_6 rfl hn ?_
  refine J_iload_n 0 hX dJ3_checkIndex_8e157_16 fz0 rfl ?_
  exact fun _ => hR _ _ dJ3_checkIndex_8e157_17
theorem J_gets_pfc (hX : CXok X Y own cc nL d) (hd : decode cc pc = .ok (.getstatic index, 3)) (hl : Cond.fieldLink own index "jdk/internal/util/Preconditions" "SIOOBE_FORMATTER" "Ljava/util/function/BiFunction;" ∈ lw_good) (k : ∀ x : Value, x.category = 1 → J X Y nL Q (pc + 3) lv (x :: st) G φ) : J X Y nL Q pc lv st G φ := fun hφ hw H locs ls hP hS hl2 => by
  rcases hX.2.2.2.2.2.2.2.1.2.2.2 with h | ⟨t, h⟩
  · exact va_gets hX.1 hX.2.1 h hS hX.2.2.2.1 (hX.2.2.2.2.1 _ hl) (fun x h => h) hd (k _ rfl hφ hw H locs ls hP hS hl2)
  · exact va_gets hX.1 hX.2.1 h hS hX.2.2.2.1 (hX.2.2.2.2.1 _ hl) (fun x h => h) hd (k _ rfl hφ hw H locs ls hP hS hl2)
set_option maxRecDepth 100000 in
theorem okS_ci {i n : Int32} (hi : ¬ i < 0) (hn : i < n) {G : GM} : OkV Y 2 M_J0_checkIndex_df160 [.int i, .int n] G G := by
  refine okV_of (lv0 := [(0, .int i), (1, .int n)]) (by decide +kernel) rfl (Nat.le_of_ble_eq_true rfl) ?_
  intro X Q hX hR
  have hX : CXok X Y RJ0 cJ0_checkIndex_df160 2 _ := hX
  suffices h : J X Y 2 Q 0 [(0, .int i), (1, .int n)] [] G True from h trivial
  refine J_iload_n 0 hX dJ0_checkIndex_df160_0 fz0 rfl ?_
  refine J_iload_n 1 hX dJ0_checkIndex_df160_1 fz1 rfl ?_
  refine J_gets_pfc hX dJ0_checkIndex_df160_2 (mg 626 (by decide +kernel) rfl) fun x hx => ?_
  refine J_callSk (As := [.int i, .int n, x]) (st := []) hX ms_J0_1059 rfl rfl (Nat.le_of_ble_eq_true rfl) (Nat.le_of_ble_eq_true rfl) (Nat.le_of_ble_eq_true rfl) dJ0_checkIndex_df160_5 (okS_pre hi hn hx) ?_
  refine J_pop hX dJ0_checkIndex_df160_8 rfl ?_
  exact fun _ => hR _ _ dJ0_checkIndex_df160_9
theorem inb_lt0 {i : Int32} {n : Nat} (h : inb i n = true) : i.toNatClampNeg < n := by
  simp only [inb, Bool.and_eq_true, decide_eq_true_eq] at h
  exact h.2
theorem inb_n0 {i : Int32} {n : Nat} (h : inb i n = true) : ¬ i < 0 := by
  simp only [inb, Bool.and_eq_true, decide_eq_true_eq] at h
  exact h.1
theorem inb_lt1 {i : Int32} {n : Nat} (h : inb i n = true) (hn : n < 2 ^ 31) : i < Int32.ofNat n := by
  have h1 := inb_lt0 h
  have h0 := inb_n0 h
  obtain ⟨m, hm, rfl⟩ := nI_of h0
  rw [nI_clamp hm] at h1
  exact nI_lt h1 hn
set_option maxRecDepth 100000 in
theorem okS_lch {w : Nat} (hw : w < NS) {i : Int32} (hi : inb i (SLEN w) = true) {G : GM} : OkI Y 3 M_J1_charAt_3b067 [.ref (SV Y w), .int i] G (SCH w i.toNatClampNeg) G := by
  refine okC_of (lv0 := [(0, .ref (SV Y w)), (1, .int i)]) (by decide +kernel) rfl (Nat.le_of_ble_eq_true rfl) ?_
  intro X Q hX hR
  have hX : CXok X Y RJ1 cJ1_charAt_3b067 2 _ := hX
  suffices h : J X Y 2 Q 0 [(0, .ref (SV Y w)), (1, .int i)] [] G True from h trivial
  have hlt := inb_lt0 hi
  have h0 : ¬ i < 0 := inb_n0 hi
  have hn : i < Int32.ofNat (SLEN w) := inb_lt1 hi (by have := (sl_facts w hw).1; omega)
  refine J_iload_n 1 hX dJ1_charAt_3b067_0 fz1 rfl ?_
  refine J_aload_n 0 hX dJ1_charAt_3b067_1 fz0 rfl ?_
  refine J_sal hX hw dJ1_charAt_3b067_2 ?_
  refine J_callSkV (As := [.int i, .int (Int32.ofNat (SLEN w))]) (st := []) hX ms_J1_9 rfl rfl (Nat.le_of_ble_eq_true rfl) (Nat.le_of_ble_eq_true rfl) (Nat.le_of_ble_eq_true rfl) dJ1_charAt_3b067_3 (okS_ci h0 hn) ?_
  refine J_aload_n 0 hX dJ1_charAt_3b067_6 fz0 rfl ?_
  refine J_iload_n 1 hX dJ1_charAt_3b067_7 fz1 rfl ?_
  refine J_sba hX hw hi dJ1_charAt_3b067_8 ?_
  refine J_sipush hX dJ1_charAt_3b067_9 (x := 255) (by decide) ?_
  refine J_iand hX dJ1_charAt_3b067_12 ?_
  refine J_i2c hX dJ1_charAt_3b067_13 ((sl_facts w hw).2 _ hlt).1 ?_
  exact fun _ => hR _ _ ((sl_facts w hw).2 _ hlt).2 dJ1_charAt_3b067_14
set_option maxRecDepth 100000 in
theorem okS_cha {w : Nat} (hw : w < NS) {i : Int32} (hi : inb i (SLEN w) = true) {G : GM} : OkI Y 4 M_J0_charAt_5068e [.ref (yk Y w), .int i] G (SCH w i.toNatClampNeg) G := by
  refine okC_of (lv0 := [(0, .ref (yk Y w)), (1, .int i)]) (by decide +kernel) rfl (Nat.le_of_ble_eq_true rfl) ?_
  intro X Q hX hR
  have hX : CXok X Y RJ0 cJ0_charAt_5068e 2 _ := hX
  suffices h : J X Y 2 Q 0 [(0, .ref (yk Y w)), (1, .int i)] [] G True from h trivial
  have hlt := inb_lt0 hi
  have h0 : ¬ i < 0 := inb_n0 hi
  have hn : i < Int32.ofNat (SLEN w) := inb_lt1 hi (by have := (sl_facts w hw).1; omega)
  refine J_aload_n 0 hX dJ0_charAt_5068e_0 fz0 rfl ?_
  refine J_callStr (As := []) (st := []) hX hw mv_J0_492 rfl rfl (Nat.le_of_ble_eq_true rfl) (Nat.le_of_ble_eq_true rfl) (Nat.le_of_ble_eq_true rfl) dJ0_charAt_5068e_1 (okS_lat hw) ?_
  refine J_nif_eq (tgt := 16) hX dJ0_charAt_5068e_4 rfl (by decide) ?_
  refine J_aload_n 0 hX dJ0_charAt_5068e_7 fz0 rfl ?_
  refine J_sgv hX hw dJ0_charAt_5068e_8 (mg 1924 (by decide +kernel) rfl) ?_
  refine J_iload_n 1 hX dJ0_charAt_5068e_11 fz1 rfl ?_
  refine J_callSk (As := [.ref (SV Y w), .int i]) (st := []) hX ms_J0_495 rfl rfl (Nat.le_of_ble_eq_true rfl) (Nat.le_of_ble_eq_true rfl) (Nat.le_of_ble_eq_true rfl) dJ0_charAt_5068e_12 (okS_lch hw hi) ?_
  exact fun _ => hR _ _ ((sl_facts w hw).2 _ hlt).2 dJ0_charAt_5068e_15
theorem J_slen {w : Nat} (hX : CXok X Y RX7 cc nL d) (hd : decode cc pc = .ok (.invokevirtual 179, 3)) (hw : w < NS) (h1 : 20 ≤ d) (hcat : (st.map fun v => v.category).sum ≤ 8) (k : J X Y nL Q (pc + 3) lv (.int (Int32.ofNat (SLEN w)) :: st) G φ) : J X Y nL Q pc lv (.ref (yk Y w) :: st) G φ :=
  J_callStr (As := []) (st := st) hX hw mv_X7_179 rfl rfl hcat (by omega) (Nat.le_of_ble_eq_true rfl) hd (okS_len hw) k
theorem J_schar {w : Nat} {i : Int32} (hX : CXok X Y RX7 cc nL d) (hd : decode cc pc = .ok (.invokevirtual 189, 3)) (hw : w < NS) (h1 : 20 ≤ d) (hcat : (st.map fun v => v.category).sum ≤ 8) (k : J X Y nL Q (pc + 3) lv (.int (SCH w i.toNatClampNeg) :: st) G (p = some v)) : J X Y nL Q pc lv (.int i :: .ref (yk Y w) :: st) G (gd (inb i (SLEN w)) p = some v) := fun hφ =>
  J_callStr (As := [.int i]) (st := st) (φ := p = some v) hX hw mv_X7_189 rfl rfl hcat (by omega) (Nat.le_of_ble_eq_true rfl) hd (okS_cha hw (gd_some hφ).1) k (gd_some hφ).2
end JSTR
