/-! questions: numbers, plans, plan, column, made, cell, where, same, sold, call, called -/
theorem q_numbers : bh_Qy (f_X9_numbers) (f_X10_numbers) := by
  intro G hR
  have hh := bh_nwc hR
  have fT := bh_thr G
  rcases hR.2.2.2.2.1 with h0 | ⟨ln, C, R, E, K, m, pu, bb, z, sv, cl, pr, hN, hC, hM⟩
  · have h02 := bh_sc0 hh h0 fT
    exact bh_qy hR (v := (-2 : Int32)) (by unfold f_X9_numbers; rw [c_noHall rfl h0, ob_s, bh_i0]) (by unfold f_X10_numbers; rw [lt_r, m_noHall h02, ob_s, bh_i0]) (bh_Fr _ _) (bh_thr G)
  have hM2 := bh_scM hN hM fT
  have hV := hN.2.1
  have h45 := bh_N45 hV
  have hbC := hV.1
  have hbR := hV.2.1
  have hbE := hV.2.2.1
  have hbK := hV.2.2.2.1
  have hbm := hN.2.2.1
  exact bh_qy hR (v := nI (C * R * E)) (by unfold f_X9_numbers; rw [c_isHall rfl hN hC, ob_s, bh_i1, hC.2.1.2.1.1, hV.2.2.2.2.2.2.1]) (by unfold f_X10_numbers; rw [lt_r, m_isHall hN hM2, ob_s, bh_i1, m_all hN hM2, ob_s]) (bh_Fr _ _) fT
theorem m_firstOf0 {G : GM} {C R E K k : Nat} {z : Nat → Nat} (hMO : bh_MO G 0 C R E K z) (hK : K ≤ 5) (hk : k ≤ K) : f_X10_firstOf (0 : Int32) (nI k) G = some (nI (1 + bh_sm z k), G) := bh_firstOf (w := 0) hMO (by omega) hK hk
theorem c_np {G : GM} {h ln C R E K m pu bb : Nat} {z sv cl pr : Nat → Nat} (hN : bh_HN ln C R E K m pu bb z sv cl pr) (hC : bh_HC G h ln C R E K m pu bb z sv cl pr) : gI G (h + 1) 8 = nI (bh_np C R E K z) ∧ bh_np C R E K z ≤ 262144 := by
  have hV := hN.2.1
  refine ⟨hC.2.1.2.1.2.2.trans (congrArg nI (bh_np_sum hV.1.1)), ?_⟩
  have hlen := (bh_mx_PL (K := K) (R := R) (E := E) hV.2.2.2.1.2 hV.2.1.2 hV.2.2.1.2).1
  have h2 := bh_sq_len hlen C (bh_PS K z)
  have h3 : 64 ^ C ≤ 64 ^ 3 := Nat.pow_le_pow_right (by omega) hV.1.2
  unfold bh_np bh_pl
  omega
theorem m_plan {G : GM} {ln C R E K m pu bb : Nat} {z sv cl pr : Nat → Nat} (hN : bh_HN ln C R E K m pu bb z sv cl pr) (hM : bh_HM G 0 ln C R E K m pu bb z sv cl pr) (wi : Int32) : ∃ G', f_X10_planOf (0 : Int32) wi G = some G' ∧ gI G' 186 26 = nI (bh_np C R E K z) ∧ (∀ i, i < bh_np C R E K z → wi = nI i → ∀ c k, c < C → k < K → gI G' 200 (5 * c + k) = nI (bh_dg (bh_pln C R E K z i c) k)) ∧ bh_F bh_SCR G G' := by
  have hV := hN.2.1
  obtain ⟨G', e, p, q, F⟩ := bh_planOf (wi := wi) hM.2.1 (by omega) hV.1 hV.2.1.2 hV.2.2.1.2 hV.2.2.2.1.2 (fun k hk => (hV.2.2.2.2.2.1 k hk).2)
  exact ⟨G', e, p, q, bh_Fm F (fun a q h => h.elim (fun h => scr_d (by omega)) (fun h => scr_e (by omega)))⟩
theorem q_plans : bh_Qy (f_X9_plans) (f_X10_plans_) := by
  intro G hR
  have hh := bh_nwc hR
  have fT := bh_thr G
  rcases hR.2.2.2.2.1 with h0 | ⟨ln, C, R, E, K, m, pu, bb, z, sv, cl, pr, hN, hC, hM⟩
  · have h02 := bh_sc0 hh h0 fT
    exact bh_qy hR (v := (-2 : Int32)) (by unfold f_X9_plans; rw [c_noHall rfl h0, ob_s, bh_i0]) (by unfold f_X10_plans_; rw [lt_r, m_noHall h02, ob_s, bh_i0]) (bh_Fr _ _) (bh_thr G)
  have hM2 := bh_scM hN hM fT
  have hV := hN.2.1
  have h45 := bh_N45 hV
  have hbC := hV.1
  have hbR := hV.2.1
  have hbE := hV.2.2.1
  have hbK := hV.2.2.2.1
  have hbm := hN.2.2.1
  obtain ⟨G2, e2, p2, -, F2⟩ := m_plan hN hM2 (-1 : Int32)
  exact bh_qy hR (v := nI (bh_np C R E K z)) (by unfold f_X9_plans; rw [c_isHall rfl hN hC, ob_s, bh_i1, (c_np hN hC).1]) (by unfold f_X10_plans_; rw [lt_r, m_isHall hN hM2, ob_s, bh_i1, e2, ov_s, p2]) (bh_Fr _ _) (bh_Ft fT F2)
theorem q_column (x1 x2 : Int32) : bh_Qy (f_X9_column x1 x2) (f_X10_column x1 x2) := by
  intro G hR
  have hh := bh_nwc hR
  have fT := bh_thr G
  rcases hR.2.2.2.2.1 with h0 | ⟨ln, C, R, E, K, m, pu, bb, z, sv, cl, pr, hN, hC, hM⟩
  · have h02 := bh_sc0 hh h0 fT
    exact bh_qy hR (v := (-2 : Int32)) (by unfold f_X9_column; rw [c_isColumnN rfl h0 _, ob_s, bh_i0]) (by unfold f_X10_column; rw [lt_r, m_isColumnN h02 _, ob_s, bh_i0]) (bh_Fr _ _) (bh_thr G)
  have hM2 := bh_scM hN hM fT
  have hV := hN.2.1
  have h45 := bh_N45 hV
  have hbC := hV.1
  have hbR := hV.2.1
  have hbE := hV.2.2.1
  have hbK := hV.2.2.2.1
  have hbm := hN.2.2.1
  rcases bh_cls (x := x1) (p := fun j => j < K) with ⟨k, hk, rfl⟩ | nk
  rotate_left
  · exact bh_qy hR (v := (-2 : Int32)) (by unfold f_X9_column; rw [c_isColumn0 rfl hN hC nk, ob_s, bh_i0]) (by unfold f_X10_column; rw [lt_r, m_isColumn0 hN hM2 nk, ob_s, bh_i0]) (bh_Fr _ _) (bh_thr G)
  rcases bh_cls (x := x2) (p := fun j => j < 2) with ⟨w, hw, rfl⟩ | nw2
  rotate_left
  · refine bh_qy hR (v := (-2 : Int32)) ?_ (by unfold f_X10_column; rw [lt_r, m_isColumn1 hN hM2 hk, ob_s, bh_i1, m_in0 (l := 0) (b := 1) (by decide) (by decide) (fun j _ _ h he => nw2 ⟨j, by omega, he⟩), ob_s, bh_i0]) (bh_Fr _ _) fT
    unfold f_X9_column
    rw [c_isColumn1 rfl hN hC hk, ob_s, bh_i1]
    by_cases h0 : x2 < 0
    · rw [if_pos h0]
    · rw [if_neg h0]
      obtain ⟨j, hj, rfl⟩ := nI_of h0
      rw [if_neg (by rw [show (1 : Int32) = nI 1 from rfl, nI_leI hj (by omega)]; exact fun h => nw2 ⟨j, by omega, rfl⟩)]
  have e9 := hC.2.1.2.2.1 k hk
  have e10 : gI (sI G 186 0 0) 194 k = nI (z k) := by
    have := hM2.2.1.2.2.2.2 k hk
    rwa [Nat.mul_zero, Nat.zero_add] at this
  by_cases hw0 : w = 0
  · subst hw0
    exact bh_qy hR (v := nI (1 + bh_sm z k)) (by unfold f_X9_column; rw [c_isColumn1 rfl hN hC hk, ob_s, bh_i1, if_neg (by decide), if_pos (by decide), if_pos (show nI 0 = (0 : Int32) from rfl), inb_n (by omega) (by omega), gd_t, nI_clamp (by omega)]; exact congrArg (fun v => some (v, G)) e9.2) (by unfold f_X10_column; rw [lt_r, m_isColumn1 hN hM2 hk, ob_s, bh_i1, m_in1 (l := 0) (b := 1) (by omega) (by decide) (by decide) (by omega) (by omega), ob_s, bh_i1, if_pos (show nI 0 = (0 : Int32) from rfl), m_firstOf0 hM2.2.1 hbK.2 (by omega), ob_s]) (bh_Fr _ _) fT
  · have hw1 : w = 1 := by omega
    subst hw1
    exact bh_qy hR (v := nI (z k)) (by unfold f_X9_column; rw [c_isColumn1 rfl hN hC hk, ob_s, bh_i1, if_neg (by decide), if_pos (by decide), if_neg (by decide), inb_n (by omega) (by omega), gd_t, nI_clamp (by omega)]; exact congrArg (fun v => some (v, G)) e9.1) (by unfold f_X10_column; rw [lt_r, m_isColumn1 hN hM2 hk, ob_s, bh_i1, m_in1 (l := 0) (b := 1) (by omega) (by decide) (by decide) (by omega) (by omega), ob_s, bh_i1, if_neg (by decide), inb_n (by omega) (by omega), gd_t, nI_clamp (by omega), e10]) (bh_Fr _ _) fT
theorem q_made (x1 : Int32) : bh_Qy (f_X9_made x1) (f_X10_made x1) := by
  intro G hR
  have hh := bh_nwc hR
  have fT := bh_thr G
  rcases hR.2.2.2.2.1 with h0 | ⟨ln, C, R, E, K, m, pu, bb, z, sv, cl, pr, hN, hC, hM⟩
  · have h02 := bh_sc0 hh h0 fT
    exact bh_qy hR (v := (-2 : Int32)) (by unfold f_X9_made; rw [c_isSerialN rfl h0 _, ob_s, bh_i0]) (by unfold f_X10_made; rw [lt_r, m_isSerialN h02 _, ob_s, bh_i0]) (bh_Fr _ _) (bh_thr G)
  have hM2 := bh_scM hN hM fT
  have hV := hN.2.1
  have h45 := bh_N45 hV
  have hbC := hV.1
  have hbR := hV.2.1
  have hbE := hV.2.2.1
  have hbK := hV.2.2.2.1
  have hbm := hN.2.2.1
  rcases bh_cls (x := x1) (p := fun j => j < 10000) with ⟨s, hs, rfl⟩ | ns
  rotate_left
  · exact bh_qy hR (v := (-2 : Int32)) (by unfold f_X9_made; rw [c_isSerial0 rfl hN hC ns, ob_s, bh_i0]) (by unfold f_X10_made; rw [lt_r, m_isSerial0 hN hM2 ns, ob_s, bh_i0]) (bh_Fr _ _) (bh_thr G)
  obtain ⟨n1, n2⟩ := c_np hN hC
  have hnp := hV.2.2.2.2.2.2.2
  have F1 : bh_F bh_SCR G (sJ G 48 0 (lN (bh_d2 s))) := bh_FJ (bh_Fr _ _) (scr_a (by omega))
  have hM3 := bh_scM hN hM (bh_Ft F1 (bh_thr _))
  obtain ⟨G2, e2, -, p2, F2⟩ := m_makes hN hM3 hs
  have hM2 := hM3
  refine bh_qy hR (v := nI (bh_dV s (bh_np C R E K z))) (G1 := sJ G 48 0 (lN (bh_d2 s))) ?_ (by unfold f_X10_made; rw [lt_r, m_isSerial1 hN hM2 hs, ob_s, bh_i1, e2, ov_s, p2]) F1 (bh_Ft (bh_thr _) (bh_WS (by omega) F2))
  unfold f_X9_made f_X2_drawnPlan f_X3_begin
  rw [c_isSerial1 rfl hN hC hs, ob_s, bh_i1, lt_r, ov_s, nI_l (by omega), gI_sJ, n1, bh_below (by omega) (bh_Js _ _ _ _) hnp (by omega), ob_s, ob_s, bh_JJ]
theorem q_plan (x1 x2 x3 : Int32) : bh_Qy (f_X9_plan x1 x2 x3) (f_X10_plan x1 x2 x3) := by
  intro G hR
  have hh := bh_nwc hR
  have fT := bh_thr G
  rcases hR.2.2.2.2.1 with h0 | ⟨ln, C, R, E, K, m, pu, bb, z, sv, cl, pr, hN, hC, hM⟩
  · have h02 := bh_sc0 hh h0 fT
    exact bh_qy hR (v := (-2 : Int32)) (by unfold f_X9_plan; rw [c_isCardN rfl h0 _, ob_s, bh_i0]) (by unfold f_X10_plan; rw [lt_r, m_isCardN h02 _, ob_s, bh_i0]) (bh_Fr _ _) (bh_thr G)
  have hM2 := bh_scM hN hM fT
  have hV := hN.2.1
  have h45 := bh_N45 hV
  have hbC := hV.1
  have hbR := hV.2.1
  have hbE := hV.2.2.1
  have hbK := hV.2.2.2.1
  have hbm := hN.2.2.1
  rcases bh_cls (x := x2) (p := fun j => j < C) with ⟨c, hc, rfl⟩ | nc
  rotate_left
  · exact bh_qy hR (v := (-2 : Int32)) (by unfold f_X9_plan; rw [c_isCard0 rfl hN hC nc, ob_s, bh_i0]) (by unfold f_X10_plan; rw [lt_r, m_isCard0 hN hM2 nc, ob_s, bh_i0]) (bh_Fr _ _) (bh_thr G)
  rcases bh_cls (x := x3) (p := fun j => j < K) with ⟨k, hk, rfl⟩ | nk
  rotate_left
  · exact bh_qy hR (v := (-2 : Int32)) (by unfold f_X9_plan; rw [c_isCard1 rfl hN hC hc, ob_s, bh_i1, c_isColumn0 rfl hN hC nk, ob_s, bh_i0]) (by unfold f_X10_plan; rw [lt_r, m_isCard1 hN hM2 hc, ob_s, bh_i1, m_isColumn0 hN hM2 nk, ob_s, bh_i0]) (bh_Fr _ _) (bh_thr G)
  obtain ⟨n1, n2⟩ := c_np hN hC
  obtain ⟨G2, e2, p2, q2, F2⟩ := m_plan hN hM2 x1
  rcases bh_cls (x := x1) (p := fun j => j < bh_np C R E K z) with ⟨i, hi, rfl⟩ | ni
  rotate_left
  · refine bh_qy hR (v := (-1 : Int32)) ?_ (by unfold f_X10_plan; rw [lt_r, m_isCard1 hN hM2 hc, ob_s, bh_i1, m_isColumn1 hN hM2 hk, ob_s, bh_i1, e2, ov_s, p2, m_in0 (l := 0) (b := (bh_np C R E K z : Int) - 1) (by decide) (m1_toInt (by omega)) (fun j _ _ h he => ni ⟨j, by omega, he⟩), ob_s, if_pos rfl]) (bh_Fr _ _) (bh_Ft fT F2)
    unfold f_X9_plan
    rw [c_isCard1 rfl hN hC hc, ob_s, bh_i1, c_isColumn1 rfl hN hC hk, ob_s, bh_i1]
    by_cases h0 : x1 < 0
    · rw [if_pos h0]
    · rw [if_neg h0, n1]
      obtain ⟨j, hj, rfl⟩ := nI_of h0
      rw [if_neg (by rw [nI_ltI hj (by omega)]; exact fun h => ni ⟨j, h, rfl⟩)]
  · obtain ⟨G1, e1, p1, F1⟩ := bh_putPlan (row := 49) hC.2.1 hbC hbR.2 hbE.2 hbK.2 (fun k hk => (hV.2.2.2.2.2.1 k hk).2) (bh_getL (i := i) hi) (by omega) (by decide +kernel)
    have FF1 : bh_F bh_SCR G G1 := bh_Fm F1 (fun a q h => scr_a (by omega))
    have hM3 := bh_scM hN hM (bh_Ft FF1 (bh_thr _))
    obtain ⟨G3, e3, p3, q3, F3⟩ := m_plan hN hM3 (nI i)
    have hM2 := hM3
    have hmem := bh_mx_in K (by omega) R (by omega) E (by omega) _ ((bh_pl_at hV hi).1 c hc)
    have p1' : gI G1 49 c = nI (bh_pln C R E K z i c) := p1 c hc
    refine bh_qy hR (v := nI (bh_dg (bh_pln C R E K z i c) k)) (G1 := G1) ?_ (by unfold f_X10_plan; rw [lt_r, m_isCard1 hN hM2 hc, ob_s, bh_i1, m_isColumn1 hN hM2 hk, ob_s, bh_i1, e3, ov_s, p3, m_in1 (l := 0) (b := (bh_np C R E K z : Int) - 1) (by omega) (by decide) (m1_toInt (by omega)) (by omega) (by omega), ob_s, if_neg (by decide), show (5 : Int32) = nI 5 from rfl, pk_mul, nI_add, inb_n (by omega) (by omega), gd_t, nI_clamp (by omega), q3 i hi rfl c k hc hk]) FF1 (bh_Ft (bh_thr _) F3)
    unfold f_X9_plan f_X2_planned
    rw [c_isCard1 rfl hN hC hc, ob_s, bh_i1, c_isColumn1 rfl hN hC hk, ob_s, bh_i1, if_neg (nI_pos (by omega)), n1, if_pos (nI_lt hi (by omega)), e1, ov_s, if_neg (nI_pos (by omega)), if_pos (by rw [show (3 : Int32) = nI 3 from rfl, nI_ltI (by omega) (by omega)]; omega), inb_n (by omega) (by omega), gd_t, nI_clamp (by omega), p1', bh_digit (by omega) (by omega), ob_s, ob_s]
