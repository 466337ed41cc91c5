theorem arr_of {s : State} {b : Nat} {ty : FieldType} (h : (Cond.arrayClass ty).before #[Value.ref b] s = true) : ∃ cA, ArrOfT s cA ty ∧ s.vm.findClass ("[" ++ ty.toString) = some cA := by
  obtain ⟨cA, kA, comp, h1, h2, h3⟩ := Cond.arrayClass_spec h
  exact ⟨cA, fun n z => ⟨fun k h => (by cases h), kA, h2, comp, h3⟩, h1⟩
theorem arr_of2 {s : State} {b : Nat} {ty : FieldType} (h : (Cond.arrayOver (.array ty)).before #[Value.ref b] s = true) : ∃ cA, ArrOfT s cA (.array ty) ∧ s.vm.findClass ("[" ++ (FieldType.array ty).toString) = some cA := by
  obtain ⟨comp, cA, kA, h0, -, h2, h3, h1⟩ := Jvm.Stand.arrayOver_specB h
  exact ⟨cA, fun n z => ⟨fun k h => (by cases h), kA, h2, comp, h3⟩, h1⟩
theorem arr_of3 {s : State} {b : Nat} {C : String} (h : (Cond.arrayOver (.object C)).before #[Value.ref b] s = true) : ∃ cA, ArrOfT s cA (.object C) ∧ va_RA s cA (.object C) := by
  obtain ⟨comp, cA, kA, h0, -, h2, h3, h1⟩ := Cond.arrayOver_spec h
  exact ⟨cA, fun n z => ⟨fun k h => (by cases h), kA, h2, comp, h3⟩, kA, comp, h2, h3, h0, h1⟩
set_option maxHeartbeats 8000000 in
set_option maxRecDepth 100000 in
theorem whole_of (sem : ∀ (L : Nat) (xs : Nat → Int32), L ≤ 3072 → ∃ G', f_L_law L xs 0 G00 = some (1, G')) {p : Program} {e : Env} {s : State} {m : MethodId} {below : List Frame} {meth : Method} {c : Code} (l : Launch) {b L : Nat} {xs : Nat → Int32} (hL : L ≤ 3072) (C0 : lw_At p s m meth c b L xs) : W p l e room_1 s m #[Value.ref b] below meth c s.heap [] 0 0 (lw_Z below #[Value.ref b] s) (entryFrame m ([Value.ref b] : List Value).toArray 4) := by
  obtain ⟨hx, hb, hr, hml, hown, hts, hXs, hbl, hlocks, hgv⟩ := C0
  have hg : ∀ w ∈ lw_good, w.before #[Value.ref b] s = true := fun w h => hts w (List.mem_filter.mp h).1
  have hn : ∀ w ∈ lw_nest, va_Nw w s := fun w h => va_Nw.of (nest_tab h) (hts w (List.mem_filter.mp h).1)
  have hs := flat_of_before _ hgv
  obtain ⟨c0, i0, hk0⟩ := u_known (C := RX0) (T := TX0) (N := 5) (n := 5) hg inG0 (hg (.instantiable RX0 5) (mg 435 (by decide +kernel) rfl))
  obtain ⟨c1, i1, hk1⟩ := u_known (C := RX2) (T := TX2) (N := 5) (n := 5) hg inG1 (hg (.instantiable RX2 5) (mg 333 (by decide +kernel) rfl))
  obtain ⟨c2, i2, hk2⟩ := u_known (C := RX3) (T := TX3) (N := 1) (n := 1) hg inG2 (hg (.instantiable RX3 1) (mg 339 (by decide +kernel) rfl))
  obtain ⟨c3, i3, hk3⟩ := u_known (C := RX4) (T := TX4) (N := 12) (n := 12) hg inG3 (hg (.instantiable RX4 12) (mg 185 (by decide +kernel) rfl))
  obtain ⟨c4, i4, hk4⟩ := u_known (C := RX5) (T := TX5) (N := 10) (n := 10) hg inG4 (hg (.instantiable RX5 10) (mg 179 (by decide +kernel) rfl))
  obtain ⟨c5, i5, hk5⟩ := u_known (C := RX6) (T := TX6) (N := 6) (n := 6) hg inG5 (hg (.instantiable RX6 6) (mg 191 (by decide +kernel) rfl))
  obtain ⟨c6, i6, hk6⟩ := u_known (C := RX7) (T := TX7) (N := 11) (n := 11) hg inG6 (hg (.instantiable RX7 11) (mg 366 (by decide +kernel) rfl))
  obtain ⟨c7, i7, hk7⟩ := u_known (C := RX8) (T := TX8) (N := 4) (n := 4) hg inG7 (hg (.instantiable RX8 4) (mg 413 (by decide +kernel) rfl))
  obtain ⟨c8, i8, hk8⟩ := u_known (C := RX9) (T := TX9) (N := 14) (n := 14) hg inG8 (hg (.instantiable RX9 14) (mg 171 (by decide +kernel) rfl))
  obtain ⟨c9, i9, hk9⟩ := u_known (C := RX10) (T := TX10) (N := 45) (n := 45) hg inG9 (hg (.instantiable RX10 45) (mg 1251 (by decide +kernel) rfl))
  obtain ⟨a10, g10, f10⟩ := arr_of (hg _ ac_g10)
  obtain ⟨a11, g11, f11⟩ := arr_of (hg _ ac_g11)
  obtain ⟨a12, g12, f12⟩ := arr_of (hg _ ac_g12)
  obtain ⟨a13, g13, f13⟩ := arr_of (hg _ ac_g13)
  obtain ⟨a14, g14, f14⟩ := arr_of2 (ty := .int) (hts _ (List.mem_of_getElem? (i := 283) (by decide +kernel)))
  obtain ⟨a15, g15, f15⟩ := arr_of2 (ty := .long) (hts _ (List.mem_of_getElem? (i := 419) (by decide +kernel)))
  obtain ⟨a16, g16, f16⟩ := arr_of3 (C := "BingoHall$Hall") (hts _ (List.mem_of_getElem? (i := 331) (by decide +kernel)))
  have hAO : AOs s := ⟨va_AO.of (hts (.arrayOver (.object "BingoHall$Hall")) (List.mem_of_getElem? (i := 331) (by decide +kernel))), A2_of (hts (.arrayOver (.array .int)) (List.mem_of_getElem? (i := 283) (by decide +kernel))), A2_of (hts (.arrayOver (.array .long)) (List.mem_of_getElem? (i := 419) (by decide +kernel)))⟩
  have hAold : ∀ a : Nat, a < s.heap.size → ¬ CA s.heap.size a := fun a h q => Nat.lt_irrefl _ (Nat.lt_of_lt_of_le h q)
  obtain ⟨kk, vv, hS1, hev⟩ := vk_Sof (args := #[Value.ref b]) (s := s) (N := NS) (tm := tmS) (len := slen) (byt := sbyt) (A := CA s.heap.size) sa_9 (fun i hi => hs _ (sa_1 i hi)) (fun i hi => hs _ (sa_2 i hi)) (fun i hi => hs _ (sa_3 i hi)) (fun i hi => hs _ (sa_4 i hi)) (fun i hi j hj => hs _ (sa_5 i hi j hj)) (fun i j hi hj hij => (sa_6 i hi j hj hij).imp (hs _) (hs _)) hAold
  generalize hD : ((fun k => if k = 0 then c0 else if k = 1 then c1 else if k = 2 then c2 else if k = 3 then c3 else if k = 4 then c4 else if k = 5 then c5 else if k = 6 then c6 else if k = 7 then c7 else if k = 8 then c8 else c9, fun k => if k = 0 then i0 else if k = 1 then i1 else if k = 2 then i2 else if k = 3 then i3 else if k = 4 then i4 else if k = 5 then i5 else if k = 6 then i6 else if k = 7 then i7 else if k = 8 then i8 else i9) : va_G) = D
  generalize hA : ((fun k => if k = 10 then a10 else if k = 11 then a11 else if k = 12 then a12 else if k = 13 then a13 else if k = 14 then a14 else if k = 15 then a15 else a16) : Nat → Nat) = cA
  have hK : va_K D cls (tysY (YB D cA kk vv s.heap.size)) s := by
    subst hD; subst hA
    refine ⟨fun k q hq => ?_, fun k q hq => ?_⟩
    · match k, hq with
      | 0, hq => cases hq; exact hk0
      | 1, hq => cases hq; exact hk1
      | 2, hq => cases hq; exact hk2
      | 3, hq => cases hq; exact hk3
      | 4, hq => cases hq; exact hk4
      | 5, hq => cases hq; exact hk5
      | 6, hq => cases hq; exact hk6
      | 7, hq => cases hq; exact hk7
      | 8, hq => cases hq; exact hk8
      | 9, hq => cases hq; exact hk9
      | k + 10, hq => simp [cls] at hq
    · match k, hq with
      | 0, hq => cases hq; exact ⟨g10, f10⟩
      | 1, hq => cases hq; exact ⟨g11, f11⟩
      | 2, hq => cases hq; exact ⟨g12, f12⟩
      | 3, hq => cases hq; exact ⟨g13, f13⟩
      | 4, hq => cases hq; exact ⟨g14, f14⟩
      | 5, hq => cases hq; exact ⟨g15, f15⟩
      | 6, hq => cases hq; exact ⟨g16, f16⟩
      | k + 7, hq => simp [tysY] at hq
  have hYI : yI (YB D cA kk vv s.heap.size) := fun a c _ _ h => Nat.add_left_cancel (n := s.heap.size) h
  have hAY : ∀ q, AY (YB D cA kk vv s.heap.size) q → CA s.heap.size q := fun q ⟨a, _, h⟩ => by rw [h]; exact Nat.le_add_right _ _
  have hStr : Strs (YB D cA kk vv s.heap.size) s s.heap := by
    refine ⟨hS1.narrow hAY, fun k q hq => ?_, (va_Zof (hts (.laysStatic "java/lang/String" "COMPACT_STRINGS" "Z") (List.mem_of_getElem? (i := 611) (by decide +kernel))) (hg _ (mg 163 (by decide +kernel) rfl)) (va_eqt (hs _ sa_7)) hAold).narrow hAY, (va_Zqof (hts (.laysStatic "jdk/internal/util/Preconditions" "SIOOBE_FORMATTER" "Ljava/util/function/BiFunction;") (List.mem_of_getElem? (i := 627) (by decide +kernel))) (hg _ (mg 165 (by decide +kernel) rfl)) (hs _ sa_8) hAold).narrow hAY⟩
    have hk : k < NS := (List.getElem?_eq_some_iff.mp hq).1
    have e : sIdx.getD k (0, "") = q := by simp [List.getD_eq_getElem?_getD, hq]
    have h1 := hts _ (sa_10 k hk)
    have h2 := hev k hk
    unfold tmS at h2
    rw [e] at h1 h2
    exact vk_R.of h1 h2
  obtain ⟨G', hsem⟩ := sem L xs hL
  have hCC : CCok (p, l, e, room_1, s, m, #[Value.ref b], below, meth, c, 0, 0) (YB D cA kk vv s.heap.size) s.heap.size RL cL_law 4 200 600000 7302250 := ⟨hx, hb, hml, hown, hg, hK, hn, ⟨Nat.le_of_ble_eq_true rfl, Nat.le_of_ble_eq_true rfl, Nat.le_of_ble_eq_true rfl, Nat.le_of_ble_eq_true rfl⟩, Nat.le_refl _, hAO⟩
  rw [lg_entry_eq]
  have main : KC (p, l, e, room_1, s, m, #[Value.ref b], below, meth, c, 0, 0) (YB D cA kk vv s.heap.size) s.heap.size 4 (lw_Z below #[Value.ref b] s) 0 [(0, .ref b)] [] ([] : va_W) s.heap.size 0 0 := by
    generalize hB : s.heap.size = B at *
    have hX := hCC
    refine C_new (fs := [.null, .null, .null, .null, .null, .null, .null, .null, .null, .null, .null, .null, .null, .null]) (sz1 := (B + 1)) (c1 := 1) (k1 := 14) hX dL_law_0 (mg 170 (by decide +kernel) rfl) (mg 171 (by decide +kernel) rfl) (mg 151 (by decide +kernel) rfl) (ci := 8) rfl inG8 tyX9 tyX9_ok dfL_8 (Nat.le_of_ble_eq_true rfl) (Nat.le_of_ble_eq_true rfl) rfl rfl rfl ?_
    refine C_dup hX dL_law_3 rfl ?_
    refine C_call (st := [.ref B]) (sz1 := B + 186) (c1 := 186) (k1 := 6822) hX dL_law_4 mc_L_9 (oc_8 ([] : va_W) B) rfl (Nat.le_of_ble_eq_true rfl) (Nat.le_of_ble_eq_true rfl) (Nat.le_of_ble_eq_true rfl) (Nat.le_of_ble_eq_true rfl) (Nat.le_of_ble_eq_true rfl) rfl rfl ?_
    refine C_astore (lv' := [(1, .ref B), (0, .ref b)]) hX dL_law_7 fz1 (Nat.le_of_ble_eq_true rfl) rfl ?_
    refine C_new (fs := [.int 0, .null, .null, .null, .null, .null, .int 0, .int 0, .int 0, .int 0, .int 0, .long 0, .int 0, .int 0, .int 0, .int 0, .null, .null, .null, .null, .null, .null, .null, .null, .null, .null, .int 0, .int 0, .null, .null, .null, .int 0, .int 0, .long 0, .null, .null, .int 0, .null, .null, .null, .int 0, .int 0, .null, .null, .null]) (sz1 := (B + 187)) (c1 := 187) (k1 := 6867) hX dL_law_8 (mg 1250 (by decide +kernel) rfl) (mg 1251 (by decide +kernel) rfl) (mg 160 (by decide +kernel) rfl) (ci := 9) rfl inG9 tyX10 tyX10_ok dfL_9 (Nat.le_of_ble_eq_true rfl) (Nat.le_of_ble_eq_true rfl) rfl rfl rfl ?_
    refine C_dup hX dL_law_11 rfl ?_
    refine C_call (st := [.ref (B + 186)]) (sz1 := B + 213) (c1 := 213) (k1 := 10823) hX dL_law_12 mc_L_12 (oc_9 ([] ++ CB8 (YB D cA kk vv B) B) (B + 186)) rfl (Nat.le_of_ble_eq_true rfl) (Nat.le_of_ble_eq_true rfl) (Nat.le_of_ble_eq_true rfl) (Nat.le_of_ble_eq_true rfl) (Nat.le_of_ble_eq_true rfl) rfl rfl ?_
    refine C_astore (lv' := [(2, .ref (B + 186)), (1, .ref B), (0, .ref b)]) hX dL_law_15 fz2 (Nat.le_of_ble_eq_true rfl) rfl ?_
    refine C_iconst (x := 0) hX dL_law_16 (by decide) ?_
    refine C_istore (lv' := [(3, .int 0), (2, .ref (B + 186)), (1, .ref B), (0, .ref b)]) hX dL_law_17 fz3 (Nat.le_of_ble_eq_true rfl) rfl ?_
    intro H locs ls hP hDd hz hS hl
    have hP2 : va_P D cls (wcells (YB D cA kk vv B) G00) H := lnk_all hP
    refine va_forget (fun q hq => by rw [hB]; exact hS.2.2 q hq) ?_
    have hX2 : CXok (p, l, e, room_1, s, m, #[Value.ref b], below, meth, c, 213, 10823) (YB D cA kk vv B) RL cL_law 4 200 := ⟨hx, hb, hml, hown, hg, hK, hYI, hStr, hn, ⟨Nat.le_of_ble_eq_true rfl, Nat.le_of_ble_eq_true rfl, Nat.le_of_ble_eq_true rfl, Nat.le_of_ble_eq_true rfl⟩⟩
    have hSc : ScX (p, l, e, room_1, s, m, #[Value.ref b], below, meth, c, 213, 10823) (YB D cA kk vv B) b L xs := ⟨hXs, by show b < s.heap.size; rw [hB]; exact hbl, fun h => Nat.lt_irrefl _ (Nat.lt_of_lt_of_le hbl (hAY b h))⟩
    have hR : RetZ (p, l, e, room_1, s, m, #[Value.ref b], below, meth, c, 213, 10823) (YB D cA kk vv B) cL_law 4 (lw_Z below #[Value.ref b] s) 1 G' := by
      intro pc lv _ hd hw H locs ls hP hS hl
      refine va_forget (fun q hq => by rw [hB]; exact hAY _ (hS.2.2 q hq)) ?_
      refine W.widen (k := 600000) (n := 7302250) (Nat.le_of_ble_eq_true rfl) (Nat.le_of_ble_eq_true rfl) ?_
      exact lw_ret hx hb hr hlocks hd
    exact law_walk (d := 200) (Nat.le_of_ble_eq_true rfl) hX2 hSc hR hsem ⟨by decide +kernel, by decide +kernel⟩ H [] ls hP2 ⟨hS.1, fun q h1 h2 => hS.2.1 q h1 (fun h => Nat.lt_irrefl _ (Nat.lt_of_lt_of_le h1 (by rw [show (XS (p, l, e, room_1, s, m, #[Value.ref b], below, meth, c, 0, 0)).heap.size = B from hB]; exact h))), fun q h => by cases h⟩ (lv_sub hl [3, 2, 1, 0] rfl)
  have hl := lv_entry ([.ref b]) (n := 4) (Nat.le_of_ble_eq_true rfl)
  exact main s.heap [] _ (fun k q h => by simp at h) ⟨fun i j p q h => by simp at h, fun k q h => by simp at h⟩ rfl va_S.rf hl
