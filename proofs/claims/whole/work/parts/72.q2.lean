/-! questions: cell, where, same, sold, call, called -/
theorem m_at0 {c r k : Nat} (G : GM) : f_X10_at (0 : Int32) (nI c) (nI r) (nI k) G = some (nI (15 * c + 5 * r + k), G) := by
  have := m_at (b := 0) (c := c) (r := r) (k := k) G
  rw [Nat.mul_zero, Nat.zero_add] at this
  exact this
theorem SM0 {G : GM} {C R E K s : Nat} {z : Nat → Nat} (h : bh_SM G 0 C R E K z s) {c r k : Nat} (hc : c < 3) (hr : r < 3) (hk : k < 5) : gI G 206 (15 * c + 5 * r + k) = nI (if c < C ∧ r < R ∧ k < K then bh_ST C R E K z s c r k else 0) := by
  have := h c r k hc hr hk
  rwa [Nat.mul_zero, Nat.zero_add] at this
theorem nI_inj {a b : Nat} (ha : a < 2 ^ 31) (hb : b < 2 ^ 31) (h : nI a = nI b) : a = b := (nI_eq ha hb).mp h
theorem q_cell (x1 x2 x3 x4 : Int32) : bh_Qy (f_X9_cell x1 x2 x3 x4) (f_X10_cell x1 x2 x3 x4) := by
  intro G hR
  have hh := bh_nwc hR
  have fT := bh_thr G
  rcases hR.2.2.2.2.1 with h0 | ⟨ln, C, R, E, K, m, pu, bb, z, sv, cl, pr, hN, hC, hM⟩
  · have h02 := bh_sc0 hh h0 fT
    exact bh_qy hR (v := (-2 : Int32)) (by unfold f_X9_cell; rw [c_isSerialN rfl h0 _, ob_s, bh_i0]) (by unfold f_X10_cell; rw [lt_r, m_isSerialN h02 _, ob_s, bh_i0]) (bh_Fr _ _) (bh_thr G)
  have hM2 := bh_scM hN hM fT
  have hV := hN.2.1
  have h45 := bh_N45 hV
  have hbC := hV.1
  have hbR := hV.2.1
  have hbE := hV.2.2.1
  have hbK := hV.2.2.2.1
  have hbm := hN.2.2.1
  have e1 : gI (sI G 186 0 0) 193 1 = nI R := hM2.2.1.2.1
  rcases bh_cls (x := x1) (p := fun j => j < 10000) with ⟨s, hs, rfl⟩ | ns
  rotate_left
  · exact bh_qy hR (v := (-2 : Int32)) (by unfold f_X9_cell; rw [c_isSerial0 rfl hN hC ns, ob_s, bh_i0]) (by unfold f_X10_cell; rw [lt_r, m_isSerial0 hN hM2 ns, ob_s, bh_i0]) (bh_Fr _ _) (bh_thr G)
  rcases bh_cls (x := x2) (p := fun j => j < C) with ⟨c, hc, rfl⟩ | nc
  rotate_left
  · exact bh_qy hR (v := (-2 : Int32)) (by unfold f_X9_cell; rw [c_isSerial1 rfl hN hC hs, ob_s, bh_i1, c_isCard0 rfl hN hC nc, ob_s, bh_i0]) (by unfold f_X10_cell; rw [lt_r, m_isSerial1 hN hM2 hs, ob_s, bh_i1, m_isCard0 hN hM2 nc, ob_s, bh_i0]) (bh_Fr _ _) (bh_thr G)
  rcases bh_cls (x := x3) (p := fun j => j < R) with ⟨r, hr, rfl⟩ | nr
  rotate_left
  · exact bh_qy hR (v := (-2 : Int32)) (by unfold f_X9_cell; rw [c_isSerial1 rfl hN hC hs, ob_s, bh_i1, c_isCard1 rfl hN hC hc, ob_s, bh_i1, hC.2.1.1.2.1, pA0 (by omega) nr]) (by unfold f_X10_cell; rw [lt_r, m_isSerial1 hN hM2 hs, ob_s, bh_i1, m_isCard1 hN hM2 hc, ob_s, bh_i1, show inb (1 : Int32) 48 = true from by decide, gd_t, show (1 : Int32).toNatClampNeg = 1 from by decide, e1, m_in0 (l := 0) (b := (R : Int) - 1) (by decide) (m1_toInt (by omega)) (fun j _ _ h he => nr ⟨j, by omega, he⟩), ob_s, bh_i0]) (bh_Fr _ _) (bh_thr G)
  rcases bh_cls (x := x4) (p := fun j => j < K) with ⟨k, hk, rfl⟩ | nk
  rotate_left
  · exact bh_qy hR (v := (-2 : Int32)) (by unfold f_X9_cell; rw [c_isSerial1 rfl hN hC hs, ob_s, bh_i1, c_isCard1 rfl hN hC hc, ob_s, bh_i1, hC.2.1.1.2.1, pA1 hr (by omega), c_isColumn0 rfl hN hC nk, ob_s, bh_i0]) (by unfold f_X10_cell; rw [lt_r, m_isSerial1 hN hM2 hs, ob_s, bh_i1, m_isCard1 hN hM2 hc, ob_s, bh_i1, show inb (1 : Int32) 48 = true from by decide, gd_t, show (1 : Int32).toNatClampNeg = 1 from by decide, e1, m_in1 (l := 0) (b := (R : Int) - 1) (by omega) (by decide) (m1_toInt (by omega)) (by omega) (by omega), ob_s, bh_i1, m_isColumn0 hN hM2 nk, ob_s, bh_i0]) (bh_Fr _ _) (bh_thr G)
  obtain ⟨G1, e9, p9, F9⟩ := c_deal hh hN hC hs (t := 74) (by decide +kernel) (by omega)
  have FF1 : bh_F bh_SCR G G1 := bh_Fm F9 (fun a q h => h.elim scr_a (fun h => scr_b (by omega)))
  have hC1 := bh_scC hh hN hC FF1
  have hM2 := bh_scM hN hM (bh_Ft FF1 (bh_thr _))
  have e1 : gI (sI G1 186 0 0) 193 1 = nI R := hM2.2.1.2.1
  obtain ⟨G2, e2, p2, -, F2⟩ := m_makes hN hM2 hs
  have hlt := bh_at_lt hc hr hk
  have hCRK := bh_CRK hbC.2 hbR.2 hbK.2
  refine bh_qy hR (v := nI (bh_ST C R E K z s c r k)) (G1 := G1) ?_ (by unfold f_X10_cell; rw [lt_r, m_isSerial1 hN hM2 hs, ob_s, bh_i1, m_isCard1 hN hM2 hc, ob_s, bh_i1, show inb (1 : Int32) 48 = true from by decide, gd_t, show (1 : Int32).toNatClampNeg = 1 from by decide, e1, m_in1 (l := 0) (b := (R : Int) - 1) (by omega) (by decide) (m1_toInt (by omega)) (by omega) (by omega), ob_s, bh_i1, m_isColumn1 hN hM2 hk, ob_s, bh_i1, e2, ov_s, m_at0, ob_s, inb_n (by omega) (by omega), gd_t, nI_clamp (by omega), SM0 p2 (by omega) (by omega) (by omega), if_pos ⟨hc, hr, hk⟩]) FF1 (bh_Ft (bh_thr _) (bh_WS (by omega) F2))
  unfold f_X9_cell
  rw [c_isSerial1 rfl hN hC hs, ob_s, bh_i1, c_isCard1 rfl hN hC hc, ob_s, bh_i1, hC.2.1.1.2.1, pA1 hr (by omega), c_isColumn1 rfl hN hC hk, ob_s, bh_i1, e9, ov_s, F9.2.2.1, bh_placeOf hC1.2.1.1.2.1 hC1.2.1.1.2.2.2 hbC.2 hbR.2 hbK.2 hc hr hk, ob_s, inb_n (by omega) (by omega), gd_t, nI_clamp (by omega), p9.1 c r k hc hr hk]
theorem q_where (x1 x2 : Int32) : bh_Qy (f_X9_where x1 x2) (f_X10_where x1 x2) := by
  intro G hR
  have hh := bh_nwc hR
  have fT := bh_thr G
  rcases hR.2.2.2.2.1 with h0 | ⟨ln, C, R, E, K, m, pu, bb, z, sv, cl, pr, hN, hC, hM⟩
  · have h02 := bh_sc0 hh h0 fT
    exact bh_qy hR (v := (-2 : Int32)) (by unfold f_X9_where; rw [c_isSerialN rfl h0 _, ob_s, bh_i0]) (by unfold f_X10_where; rw [lt_r, m_isSerialN h02 _, ob_s, bh_i0]) (bh_Fr _ _) (bh_thr G)
  have hM2 := bh_scM hN hM fT
  have hV := hN.2.1
  have h45 := bh_N45 hV
  have hbC := hV.1
  have hbR := hV.2.1
  have hbE := hV.2.2.1
  have hbK := hV.2.2.2.1
  have hbm := hN.2.2.1
  rcases bh_cls (x := x1) (p := fun j => j < 10000) with ⟨s, hs, rfl⟩ | ns
  rotate_left
  · exact bh_qy hR (v := (-2 : Int32)) (by unfold f_X9_where; rw [c_isSerial0 rfl hN hC ns, ob_s, bh_i0]) (by unfold f_X10_where; rw [lt_r, m_isSerial0 hN hM2 ns, ob_s, bh_i0]) (bh_Fr _ _) (bh_thr G)
  rcases bh_cls (x := x2) (p := fun j => 1 ≤ j ∧ j < C * R * E + 1) with ⟨v, hv, rfl⟩ | nv
  rotate_left
  · exact bh_qy hR (v := (-2 : Int32)) (by unfold f_X9_where; rw [c_isSerial1 rfl hN hC hs, ob_s, bh_i1, c_isNumber0 rfl hN hC nv, ob_s, bh_i0]) (by unfold f_X10_where; rw [lt_r, m_isSerial1 hN hM2 hs, ob_s, bh_i1, m_isNumber0 hN hM2 nv, ob_s, bh_i0]) (bh_Fr _ _) (bh_thr G)
  obtain ⟨G1, e9, p9, F9⟩ := c_deal hh hN hC hs (t := 74) (by decide +kernel) (by omega)
  have FF1 : bh_F bh_SCR G G1 := bh_Fm F9 (fun a q h => h.elim scr_a (fun h => scr_b (by omega)))
  have hC1 := bh_scC hh hN hC FF1
  have hM2 := bh_scM hN hM (bh_Ft FF1 (bh_thr _))
  obtain ⟨G2, e2, p2, -, F2⟩ := m_makes hN hM2 hs
  have hCRK := bh_CRK hbC.2 hbR.2 hbK.2
  obtain ⟨c0, r0, k0, hc0, hr0, hk0, hv0⟩ := bh_ST_onto hV s hv.1 (by omega)
  have f0 := hC1.2.1.1.1
  have f1 := hC1.2.1.1.2.1
  have f3 := hC1.2.1.1.2.2.2
  refine bh_qy hR (v := nI (100 * c0 + 10 * r0 + k0)) (G1 := G1) (G2 := G2) ?_ ?_ FF1 (bh_Ft (bh_thr _) (bh_WS (by omega) F2))
  · unfold f_X9_where
    rw [c_isSerial1 rfl hN hC hs, ob_s, bh_i1, c_isNumber1 rfl hN hC hv, ob_s, bh_i1, e9, ov_s]
    refine wl1_up (P := fun o => o = some (nI (100 * c0 + 10 * r0 + k0), G1)) (I := fun c G' => G' = G1 ∧ c ≤ c0) (N := C) (by omega) ?_ (n := FU) (i := 0) (Nat.zero_le _) ⟨rfl, Nat.zero_le _⟩ (by unfold FU; omega)
    rintro ka c G' hc' ⟨rfl, c1⟩ hka
    unfold lp_X9_where_40
    rw [F9.2.2.1, f0, if_neg (nI_ge (show c < C from by omega) (by omega))]
    refine wl1_up (P := fun o => o = some (nI (100 * c0 + 10 * r0 + k0), G')) (I := fun r G3 => G3 = G' ∧ (c = c0 → r ≤ r0)) (N := R) (by omega) ?_ (n := FU) (i := 0) (Nat.zero_le _) ⟨rfl, fun _ => Nat.zero_le _⟩ (by unfold FU; omega)
    rintro kb r G3 hr' ⟨rfl, r1⟩ hkb
    unfold lp_X9_where_57
    rw [F9.2.2.1, f1]
    by_cases hr : r < R
    · rw [if_neg (nI_ge hr (by omega))]
      refine wl1_up (P := fun o => o = some (nI (100 * c0 + 10 * r0 + k0), G3)) (I := fun k G4 => G4 = G3 ∧ (c = c0 → r = r0 → k ≤ k0)) (N := K) (by omega) ?_ (n := FU) (i := 0) (Nat.zero_le _) ⟨rfl, fun _ _ => Nat.zero_le _⟩ (by unfold FU; omega)
      rintro kd k G4 hk' ⟨rfl, k1⟩ hkd
      unfold lp_X9_where_75
      rw [F9.2.2.1, f3]
      by_cases hk : k < K
      · have hc : c < C := by omega
        have hlt := bh_at_lt hc hr hk
        have hST := bh_ST_N hV s hc hr hk
        rw [if_neg (nI_ge hk (by omega)), bh_placeOf f1 f3 hbC.2 hbR.2 hbK.2 hc hr hk, ob_s, inb_n (by omega) (by omega), gd_t, nI_clamp (by omega), p9.1 c r k hc hr hk]
        by_cases he : bh_ST C R E K z s c r k = v
        · obtain ⟨rfl, rfl, rfl⟩ := bh_ST_inj hV s hc hr hk hc0 hr0 hk0 (by omega) (by rw [he, hv0])
          rw [if_pos (by rw [he]), show (100 : Int32) = nI 100 from rfl, show (10 : Int32) = nI 10 from rfl, pk_mul, pk_mul, nI_add, nI_add]
        · rw [if_neg (by rw [nI_eq (by omega) (by omega)]; exact he), nI_1]
          refine hkd hk _ ⟨rfl, fun h1 h2 => ?_⟩
          have := k1 h1 h2
          subst h1 h2
          exact Nat.lt_of_le_of_ne this (fun h => he (by rw [h]; exact hv0))
      · have hk2 : k = K := by omega
        subst hk2
        rw [if_pos (nI_le (by omega) (by omega)), nI_1]
        refine hkb hr _ ⟨rfl, fun h1 => ?_⟩
        have := r1 h1
        have h3 := k1 h1
        exact Nat.lt_of_le_of_ne this (fun h => by have := h3 h; omega)
    · have hr2 : r = R := by omega
      subst hr2
      rw [if_pos (nI_le (by omega) (by omega)), nI_1]
      refine hka (by omega) _ ⟨rfl, ?_⟩
      exact Nat.lt_of_le_of_ne c1 (fun h => by have := r1 h; omega)
  · unfold f_X10_where
    rw [lt_r, m_isSerial1 hN hM2 hs, ob_s, bh_i1, m_isNumber1 hN hM2 hv, ob_s, bh_i1, e2, ov_s]
    refine wl1_up (P := fun o => o = some (nI (100 * c0 + 10 * r0 + k0), G2)) (I := fun c G' => G' = G2 ∧ c ≤ c0) (N := 3) (by omega) ?_ (n := FU) (i := 0) (Nat.zero_le _) ⟨rfl, Nat.zero_le _⟩ (by unfold FU; omega)
    rintro ka c G' hc' ⟨rfl, c1⟩ hka
    unfold lp_X10_where_34
    rw [show (3 : Int32) = nI 3 from rfl, if_neg (nI_ge (show c < 3 from by omega) (by omega))]
    refine wl1_up (P := fun o => o = some (nI (100 * c0 + 10 * r0 + k0), G')) (I := fun r G3 => G3 = G' ∧ (c = c0 → r ≤ r0)) (N := 3) (by omega) ?_ (n := FU) (i := 0) (Nat.zero_le _) ⟨rfl, fun _ => Nat.zero_le _⟩ (by unfold FU; omega)
    rintro kb r G3 hr' ⟨rfl, r1⟩ hkb
    unfold lp_X10_where_42
    rw [show (3 : Int32) = nI 3 from rfl]
    by_cases hr : r < 3
    · rw [if_neg (nI_ge hr (by omega))]
      refine wl1_up (P := fun o => o = some (nI (100 * c0 + 10 * r0 + k0), G3)) (I := fun k G4 => G4 = G3 ∧ (c = c0 → r = r0 → k ≤ k0)) (N := 5) (by omega) ?_ (n := FU) (i := 0) (Nat.zero_le _) ⟨rfl, fun _ _ => Nat.zero_le _⟩ (by unfold FU; omega)
      rintro kd k G4 hk' ⟨rfl, k1⟩ hkd
      unfold lp_X10_where_51
      rw [show (5 : Int32) = nI 5 from rfl]
      by_cases hk : k < 5
      · rw [if_neg (nI_ge hk (by omega)), m_at0, ob_s, inb_n (by omega) (by omega), gd_t, nI_clamp (by omega), SM0 p2 (by omega) hr hk]
        by_cases hin : c < C ∧ r < R ∧ k < K
        · have hST := bh_ST_N hV s hin.1 hin.2.1 hin.2.2
          rw [if_pos hin]
          by_cases he : bh_ST C R E K z s c r k = v
          · obtain ⟨rfl, rfl, rfl⟩ := bh_ST_inj hV s hin.1 hin.2.1 hin.2.2 hc0 hr0 hk0 (by omega) (by rw [he, hv0])
            rw [if_pos (by rw [he]), show (100 : Int32) = nI 100 from rfl, show (10 : Int32) = nI 10 from rfl, pk_mul, pk_mul, nI_add, nI_add]
          · rw [if_neg (by rw [nI_eq (by omega) (by omega)]; exact he), nI_1]
            refine hkd hk _ ⟨rfl, fun h1 h2 => ?_⟩
            have := k1 h1 h2
            subst h1 h2
            exact Nat.lt_of_le_of_ne this (fun h => he (by rw [h]; exact hv0))
        · rw [if_neg hin, if_neg (by rw [nI_eq (by omega) (by omega)]; omega), nI_1]
          refine hkd hk _ ⟨rfl, fun h1 h2 => ?_⟩
          have := k1 h1 h2
          omega
      · have hk2 : k = 5 := by omega
        subst hk2
        rw [if_pos (nI_le (by omega) (by omega)), nI_1]
        refine hkb hr _ ⟨rfl, fun h1 => ?_⟩
        have := r1 h1
        have h3 := k1 h1
        exact Nat.lt_of_le_of_ne this (fun h => by have := h3 h; omega)
    · have hr2 : r = 3 := by omega
      subst hr2
      rw [if_pos (nI_le (by omega) (by omega)), nI_1]
      refine hka (by omega) _ ⟨rfl, ?_⟩
      exact Nat.lt_of_le_of_ne c1 (fun h => by have := r1 h; omega)
theorem bh_at_of {C R K q : Nat} (h : q < C * R * K) : ∃ c r k, c < C ∧ r < R ∧ k < K ∧ q = bh_at R K c r k := by
  have hK : 0 < K := Nat.pos_of_ne_zero fun h0 => by subst h0; omega
  have h1 : q / K < C * R := (Nat.div_lt_iff_lt_mul hK).mpr h
  have hR : 0 < R := Nat.pos_of_ne_zero fun h0 => by subst h0; omega
  have h2 : q / K / R < C := (Nat.div_lt_iff_lt_mul hR).mpr h1
  refine ⟨q / K / R, q / K % R, q % K, h2, Nat.mod_lt _ hR, Nat.mod_lt _ hK, ?_⟩
  unfold bh_at
  rw [Nat.mul_comm (q / K / R) R, Nat.div_add_mod, Nat.mul_comm, Nat.div_add_mod]
/-- two strips alike -/
def bh_sam (C R E K : Nat) (z : Nat → Nat) (s t : Nat) : Prop := ∀ c r k, c < C → r < R → k < K → bh_ST C R E K z s c r k = bh_ST C R E K z t c r k
theorem c_areSame {G : GM} {a b : Nat} (ha : LN a = 45) (hb : LN b = 45) : ∃ v, f_X9_areSame a b G = some (v, G) ∧ ((∀ q, q < 45 → gI G a q = gI G b q) → v = 1) ∧ (¬ (∀ q, q < 45 → gI G a q = gI G b q) → v = 0) := by
  unfold f_X9_areSame
  refine wl1_up (P := fun o => ∃ v, o = some (v, G) ∧ ((∀ q, q < 45 → gI G a q = gI G b q) → v = 1) ∧ (¬ (∀ q, q < 45 → gI G a q = gI G b q) → v = 0)) (I := fun i G' => G' = G ∧ ∀ q, q < i → gI G a q = gI G b q) (N := 45) (by omega) ?_ (n := FU) (i := 0) (Nat.zero_le _) ⟨rfl, fun q hq => absurd hq (Nat.not_lt_zero _)⟩ (by unfold FU; omega)
  rintro kc i G' hi' ⟨rfl, q1⟩ hk
  unfold lp_X9_areSame_2
  rw [show (45 : Int32) = nI 45 from rfl]
  by_cases hi : i < 45
  · rw [if_neg (nI_ge hi (by omega)), ha, inb_n hi (by omega), gd_t, hb, inb_n hi (by omega), gd_t, nI_clamp (by omega)]
    by_cases he : gI G' a i = gI G' b i
    · rw [if_pos he, nI_1]
      refine hk hi _ ⟨rfl, fun q hq => ?_⟩
      by_cases hqi : q = i
      · subst hqi; exact he
      · exact q1 q (by omega)
    · rw [if_neg he]
      exact ⟨0, rfl, fun h => absurd (h i hi) he, fun _ => rfl⟩
  · have hi2 : i = 45 := by omega
    subst hi2
    rw [if_pos (nI_le (by omega) (by omega))]
    exact ⟨1, rfl, fun _ => rfl, fun h => absurd q1 h⟩
theorem bh_sam_C {G : GM} {a b C R E K s t : Nat} {z : Nat → Nat} (hV : bh_VH C R E K z) (ha : bh_SC G a C R E K z s) (hb : bh_SC G b C R E K z t) : (∀ q, q < 45 → gI G a q = gI G b q) ↔ bh_sam C R E K z s t := by
  have h45 := bh_N45 hV
  have hCRK := bh_CRK hV.1.2 hV.2.1.2 hV.2.2.2.1.2
  constructor
  · intro h c r k hc hr hk
    have := h _ (Nat.lt_of_lt_of_le (bh_at_lt hc hr hk) hCRK)
    rw [ha.1 c r k hc hr hk, hb.1 c r k hc hr hk] at this
    have h1 := bh_ST_N hV s hc hr hk
    have h2 := bh_ST_N hV t hc hr hk
    exact nI_inj (by omega) (by omega) this
  · intro h q hq
    by_cases hq2 : q < C * R * K
    · obtain ⟨c, r, k, hc, hr, hk, rfl⟩ := bh_at_of hq2
      rw [ha.1 c r k hc hr hk, hb.1 c r k hc hr hk, h c r k hc hr hk]
    · rw [ha.2 q (by omega) hq, hb.2 q (by omega) hq]
theorem bh_q45 {q : Nat} (hq : q < 45) : ∃ c r k, c < 3 ∧ r < 3 ∧ k < 5 ∧ q = 15 * c + 5 * r + k := ⟨q / 15, q / 5 % 3, q % 5, by omega, by omega, by omega, by omega⟩
theorem m_areSame {G : GM} {ln C R E K m pu bb s t : Nat} {z sv cl pr : Nat → Nat} (hN : bh_HN ln C R E K m pu bb z sv cl pr) (hM : bh_HM G 0 ln C R E K m pu bb z sv cl pr) (hs : s < 10000) (ht : t < 10000) : ∃ G' b, f_X10_areSame (0 : Int32) (nI s) (nI t) G = some (b, G') ∧ (bh_sam C R E K z s t → b = 1) ∧ (¬ bh_sam C R E K z s t → b = 0) ∧ bh_F (fun a q => bh_WMk 0 a q ∨ bh_WMk 1 a q) G G' := by
  have hV := hN.2.1
  have h45 := bh_N45 hV
  obtain ⟨hbC, hbR, hbE, hbK, -⟩ := id hV
  unfold f_X10_areSame
  obtain ⟨G1, e1, p1, -, F1⟩ := m_makes hN hM hs
  have hM1 := bh_scM hN hM (bh_WS (by omega) F1)
  obtain ⟨G2, e2, p2, F2⟩ := m_makes1 hN hM1 ht
  rw [e1, ov_s, e2, ov_s]
  have p1' := bh_SM_F p1 F2 (fun q _ h => by unfold bh_WMk; omega)
  have FF : bh_F (fun a q => bh_WMk 0 a q ∨ bh_WMk 1 a q) G G2 := bh_Ft (bh_Fm F1 (fun a q h => Or.inl h)) (bh_Fm F2 (fun a q h => Or.inr h))
  have key : ∀ q, q < 45 → ∃ c r k, c < 3 ∧ r < 3 ∧ k < 5 ∧ q = 15 * c + 5 * r + k ∧ gI G2 206 q = nI (if c < C ∧ r < R ∧ k < K then bh_ST C R E K z s c r k else 0) ∧ gI G2 206 (45 + q) = nI (if c < C ∧ r < R ∧ k < K then bh_ST C R E K z t c r k else 0) := by
    intro q hq
    obtain ⟨c, r, k, hc, hr, hk, rfl⟩ := bh_q45 hq
    refine ⟨c, r, k, hc, hr, hk, rfl, SM0 p1' hc hr hk, ?_⟩
    have := p2 c r k hc hr hk
    rw [show 45 * 1 + 15 * c + 5 * r + k = 45 + (15 * c + 5 * r + k) from by omega] at this
    exact this
  refine wl1_up (P := fun o => ∃ G' b, o = some (b, G') ∧ (bh_sam C R E K z s t → b = 1) ∧ (¬ bh_sam C R E K z s t → b = 0) ∧ bh_F (fun a q => bh_WMk 0 a q ∨ bh_WMk 1 a q) G G') (I := fun i G' => G' = G2 ∧ ∀ q, q < i → gI G2 206 q = gI G2 206 (45 + q)) (N := 45) (by omega) ?_ (n := FU) (i := 0) (Nat.zero_le _) ⟨rfl, fun q hq => absurd hq (Nat.not_lt_zero _)⟩ (by unfold FU; omega)
  rintro kc i G' hi' ⟨rfl, q1⟩ hk
  unfold lp_X10_areSame_17
  rw [show (45 : Int32) = nI 45 from rfl]
  by_cases hi : i < 45
  · rw [if_neg (nI_ge hi (by omega)), inb_n (by omega) (by omega), gd_t, nI_add, inb_n (by omega) (by omega), gd_t, nI_clamp (by omega), nI_clamp (by omega)]
    by_cases he : gI G' 206 i = gI G' 206 (45 + i)
    · rw [if_pos he, nI_1]
      refine hk hi _ ⟨rfl, fun q hq => ?_⟩
      by_cases hqi : q = i
      · subst hqi; exact he
      · exact q1 q (by omega)
    · rw [if_neg he]
      refine ⟨G', 0, rfl, fun hsam => ?_, fun _ => rfl, FF⟩
      exfalso
      obtain ⟨c, r, k, hc, hr, hk2, -, a1, a2⟩ := key i hi
      refine he ?_
      rw [a1, a2]
      by_cases hin : c < C ∧ r < R ∧ k < K
      · rw [if_pos hin, if_pos hin, hsam c r k hin.1 hin.2.1 hin.2.2]
      · rw [if_neg hin, if_neg hin]
  · have hi2 : i = 45 := by omega
    subst hi2
    rw [if_pos (nI_le (by omega) (by omega))]
    refine ⟨G', 1, rfl, fun _ => rfl, fun hns => absurd ?_ hns, FF⟩
    intro c r k hc hr hk2
    have h1 := bh_ST_N hV s hc hr hk2
    have h2 := bh_ST_N hV t hc hr hk2
    obtain ⟨c', r', k', hc', hr', hk', he, a1, a2⟩ := key (15 * c + 5 * r + k) (by omega)
    have : c' = c ∧ r' = r ∧ k' = k := by omega
    obtain ⟨rfl, rfl, rfl⟩ := this
    have h3 := q1 (15 * c' + 5 * r' + k') (by omega)
    rw [a1, a2, if_pos ⟨hc, hr, hk2⟩, if_pos ⟨hc, hr, hk2⟩] at h3
    exact nI_inj (by omega) (by omega) h3
theorem bh_WS2 {G G' : GM} (h : bh_F (fun a q => bh_WMk 0 a q ∨ bh_WMk 1 a q) G G') : bh_F bh_SCR G G' := bh_Fm h (fun a q h => by
  rcases h with (h | h | h | h) | (h | h | h | h)
  · exact scr_d (by omega)
  · exact scr_e (by omega)
  · exact scr_e (by omega)
  · exact scr_e (by omega)
  · exact scr_d (by omega)
  · exact scr_e (by omega)
  · exact scr_e (by omega)
  · exact scr_e (by omega))
theorem q_same (x1 x2 : Int32) : bh_Qy (f_X9_same x1 x2) (f_X10_same x1 x2) := by
  intro G hR
  have hh := bh_nwc hR
  have fT := bh_thr G
  rcases hR.2.2.2.2.1 with h0 | ⟨ln, C, R, E, K, m, pu, bb, z, sv, cl, pr, hN, hC, hM⟩
  · have h02 := bh_sc0 hh h0 fT
    exact bh_qy hR (v := (-2 : Int32)) (by unfold f_X9_same; rw [c_isSerialN rfl h0 _, ob_s, bh_i0]) (by unfold f_X10_same; rw [lt_r, m_isSerialN h02 _, ob_s, bh_i0]) (bh_Fr _ _) (bh_thr G)
  have hM2 := bh_scM hN hM fT
  have hV := hN.2.1
  have h45 := bh_N45 hV
  have hbC := hV.1
  have hbR := hV.2.1
  have hbE := hV.2.2.1
  have hbK := hV.2.2.2.1
  have hbm := hN.2.2.1
  rcases bh_cls (x := x1) (p := fun j => j < 10000) with ⟨s, hs, rfl⟩ | ns
  rotate_left
  · exact bh_qy hR (v := (-2 : Int32)) (by unfold f_X9_same; rw [c_isSerial0 rfl hN hC ns, ob_s, bh_i0]) (by unfold f_X10_same; rw [lt_r, m_isSerial0 hN hM2 ns, ob_s, bh_i0]) (bh_Fr _ _) (bh_thr G)
  rcases bh_cls (x := x2) (p := fun j => j < 10000) with ⟨t, ht, rfl⟩ | nt
  rotate_left
  · exact bh_qy hR (v := (-2 : Int32)) (by unfold f_X9_same; rw [c_isSerial1 rfl hN hC hs, ob_s, bh_i1, c_isSerial0 rfl hN hC nt, ob_s, bh_i0]) (by unfold f_X10_same; rw [lt_r, m_isSerial1 hN hM2 hs, ob_s, bh_i1, m_isSerial0 hN hM2 nt, ob_s, bh_i0]) (bh_Fr _ _) (bh_thr G)
  obtain ⟨G1, e9, p9, F9⟩ := c_deal hh hN hC hs (t := 74) (by decide +kernel) (by omega)
  have FF1 : bh_F bh_SCR G G1 := bh_Fm F9 (fun a q h => h.elim scr_a (fun h => scr_b (by omega)))
  have hC1 := bh_scC hh hN hC FF1
  obtain ⟨G3, e3, p3, F3⟩ := c_deal hh hN hC1 ht (t := 75) (by decide +kernel) (by omega)
  have FF3 : bh_F bh_SCR G G3 := bh_Ft FF1 (bh_Fm F3 (fun a q h => h.elim scr_a (fun h => scr_b (by omega))))
  have p9' := bh_SC_F p9 F3 (fun q => by omega)
  have hiff := bh_sam_C hV p9' p3
  have hM2 := bh_scM hN hM (bh_Ft FF3 (bh_thr _))
  obtain ⟨G2, b, e2, b1, b0, F2⟩ := m_areSame hN hM2 hs ht
  obtain ⟨v, ev, v1, v0⟩ := c_areSame (G := G3) (a := 74) (b := 75) (by decide +kernel) (by decide +kernel)
  by_cases hsam : bh_sam C R E K z s t
  · refine bh_qy hR (v := (1 : Int32)) (G1 := G3) (G2 := G2) ?_ (by unfold f_X10_same; rw [lt_r, m_isSerial1 hN hM2 hs, ob_s, bh_i1, m_isSerial1 hN hM2 ht, ob_s, bh_i1, e2, ob_s, b1 hsam, bh_i1]) FF3 (bh_Ft (bh_thr _) (bh_WS2 F2))
    unfold f_X9_same
    rw [c_isSerial1 rfl hN hC hs, ob_s, bh_i1, c_isSerial1 rfl hN hC ht, ob_s, bh_i1, e9, ov_s, F9.2.2.1, e3, ov_s, ev, ob_s, v1 (hiff.mpr hsam), bh_i1]
  · refine bh_qy hR (v := (0 : Int32)) (G1 := G3) (G2 := G2) ?_ (by unfold f_X10_same; rw [lt_r, m_isSerial1 hN hM2 hs, ob_s, bh_i1, m_isSerial1 hN hM2 ht, ob_s, bh_i1, e2, ob_s, b0 hsam, bh_i0]) FF3 (bh_Ft (bh_thr _) (bh_WS2 F2))
    unfold f_X9_same
    rw [c_isSerial1 rfl hN hC hs, ob_s, bh_i1, c_isSerial1 rfl hN hC ht, ob_s, bh_i1, e9, ov_s, F9.2.2.1, e3, ov_s, ev, ob_s, v0 (fun h => hsam (hiff.mp h)), bh_i0]
