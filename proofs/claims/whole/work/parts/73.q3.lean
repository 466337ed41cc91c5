/-! questions: sold, call, called, daubs, full, lacks, done, claim -/
theorem m_allN {G : GM} {h : Nat} (h0 : bh_H0 G h 0) : f_X10_all G = some (0, G) := by
  have e : ∀ k, k < 7 → gI G 193 k = 0 := fun k hk => by
    have := h0.2.2.2 k hk
    rwa [Nat.mul_zero, Nat.zero_add] at this
  unfold f_X10_all f_X10_numbersOf f_X10_of
  rw [show inb ((8 : Int32) * 0 + 0) 48 = true from by decide, gd_t, ob_s, show inb ((8 : Int32) * 0 + 1) 48 = true from by decide, gd_t, ob_s, show inb ((8 : Int32) * 0 + 2) 48 = true from by decide, gd_t, ob_s, show ((8 : Int32) * 0 + 0).toNatClampNeg = 0 from by decide, show ((8 : Int32) * 0 + 1).toNatClampNeg = 1 from by decide, show ((8 : Int32) * 0 + 2).toNatClampNeg = 2 from by decide, e 0 (by omega), e 1 (by omega), e 2 (by omega), ob_s]
  rfl
theorem m_in00 (x : Int32) (G : GM) : f_X10_in x.toInt64 0 ((0 : Int32) - 1).toInt64 G = some (0, G) := m_in0 (l := 0) (b := -1) (by decide) (by decide) (fun j _ _ h he => absurd h (by omega)) G
theorem q_sold (x1 : Int32) : bh_Qy (f_X9_sold x1) (f_X10_sold x1) := by
  intro G hR
  have hh := bh_nwc hR
  have fT := bh_thr G
  rcases hR.2.2.2.2.1 with h0 | ⟨ln, C, R, E, K, m, pu, bb, z, sv, cl, pr, hN, hC, hM⟩
  · have h02 := bh_sc0 hh h0 fT
    have e4 : gI (sI G 186 0 0) 193 4 = 0 := h02.2.2.2 4 (by omega)
    exact bh_qy hR (v := (-1 : Int32)) (by unfold f_X9_sold; rw [c_isPlaceN rfl h0 _, ob_s, bh_i0]) (by unfold f_X10_sold; rw [lt_r, show inb (4 : Int32) 48 = true from by decide, gd_t, show (4 : Int32).toNatClampNeg = 4 from by decide, e4, m_in00, ob_s, bh_i0]) (bh_Fr _ _) (bh_thr G)
  have hM2 := bh_scM hN hM fT
  have hV := hN.2.1
  have h45 := bh_N45 hV
  have hbC := hV.1
  have hbR := hV.2.1
  have hbE := hV.2.2.1
  have hbK := hV.2.2.2.1
  have hbm := hN.2.2.1
  have e4 : gI (sI G 186 0 0) 193 4 = nI m := hM2.1.2.1
  rcases bh_cls (x := x1) (p := fun j => j < m) with ⟨i, hi, rfl⟩ | ni
  rotate_left
  · exact bh_qy hR (v := (-1 : Int32)) (by unfold f_X9_sold; rw [c_isPlace0 rfl hN hC ni, ob_s, bh_i0]) (by unfold f_X10_sold; rw [lt_r, show inb (4 : Int32) 48 = true from by decide, gd_t, show (4 : Int32).toNatClampNeg = 4 from by decide, e4, m_in0 (l := 0) (b := (m : Int) - 1) (by decide) (m1_toInt (by omega)) (fun j _ _ h he => ni ⟨j, by omega, he⟩), ob_s, bh_i0]) (bh_Fr _ _) (bh_thr G)
  have e5 : gI (sI G 186 0 0) 196 i = nI (sv i) := by
    have := hM2.2.2.2.1 i hi
    rwa [Nat.mul_zero, Nat.zero_add] at this
  exact bh_qy hR (v := nI (sv i)) (by unfold f_X9_sold; rw [c_isPlace1 rfl hN hC hi, ob_s, bh_i1, inb_n (by omega) (by omega), gd_t, nI_clamp (by omega), (hC.2.2.2.1 i hi).1]) (by unfold f_X10_sold; rw [lt_r, show inb (4 : Int32) 48 = true from by decide, gd_t, show (4 : Int32).toNatClampNeg = 4 from by decide, e4, m_in1 (l := 0) (b := (m : Int) - 1) (by omega) (by decide) (m1_toInt (by omega)) (by omega) (by omega), ob_s, bh_i1, inb_n (by omega) (by omega), gd_t, nI_clamp (by omega), e5]) (bh_Fr _ _) fT
theorem q_call (x1 : Int32) : bh_Qy (f_X9_call x1) (f_X10_call x1) := by
  intro G hR
  have hh := bh_nwc hR
  have fT := bh_thr G
  rcases hR.2.2.2.2.1 with h0 | ⟨ln, C, R, E, K, m, pu, bb, z, sv, cl, pr, hN, hC, hM⟩
  · have h02 := bh_sc0 hh h0 fT
    exact bh_qy hR (v := (-1 : Int32)) (by unfold f_X9_call; rw [c_noHall rfl h0, ob_s, bh_i0]) (by unfold f_X10_call; rw [lt_r, m_allN h02, ob_s, m_in00, ob_s, bh_i0]) (bh_Fr _ _) (bh_thr G)
  have hM2 := bh_scM hN hM fT
  have hV := hN.2.1
  have h45 := bh_N45 hV
  have hbC := hV.1
  have hbR := hV.2.1
  have hbE := hV.2.2.1
  have hbK := hV.2.2.2.1
  have hbm := hN.2.2.1
  rcases bh_cls (x := x1) (p := fun j => j < C * R * E) with ⟨i, hi, rfl⟩ | ni
  rotate_left
  · exact bh_qy hR (v := (-1 : Int32)) (by unfold f_X9_call; rw [c_isHall rfl hN hC, ob_s, bh_i1, hC.2.1.2.1.1, hV.2.2.2.2.2.2.1, pA0 (by omega) ni]) (by unfold f_X10_call; rw [lt_r, m_all hN hM2, ob_s, m_in0 (l := 0) (b := ((C * R * E : Nat) : Int) - 1) (by decide) (m1_toInt (by omega)) (fun j _ _ h he => ni ⟨j, by omega, he⟩), ob_s, bh_i0]) (bh_Fr _ _) (bh_thr G)
  have e5 : gI (sI G 186 0 0) 197 i = nI (cl i) := by
    have := hM2.2.2.2.2 i hi
    rwa [Nat.mul_zero, Nat.zero_add] at this
  exact bh_qy hR (v := nI (cl i)) (by unfold f_X9_call; rw [c_isHall rfl hN hC, ob_s, bh_i1, hC.2.1.2.1.1, hV.2.2.2.2.2.2.1, pA1 hi (by omega), inb_n (by omega) (by omega), gd_t, nI_clamp (by omega), (hC.2.2.2.2 i hi).1]) (by unfold f_X10_call; rw [lt_r, m_all hN hM2, ob_s, m_in1 (l := 0) (b := ((C * R * E : Nat) : Int) - 1) (by omega) (by decide) (m1_toInt (by omega)) (by omega) (by omega), ob_s, bh_i1, inb_n (by omega) (by omega), gd_t, nI_clamp (by omega), e5]) (bh_Fr _ _) fT
theorem m_calledIn0 {G : GM} {C R E K v : Nat} {z cl : Nat → Nat} (hV : bh_VH C R E K z) (h : bh_ME G 0 C R E K z cl) (hp : bh_prm (C * R * E) 1 cl) (h1 : 1 ≤ v) (h2 : v ≤ C * R * E) : f_X10_calledIn (0 : Int32) (nI v) G = some (nI (bh_tn (C * R * E) cl v), G) := m_calledIn (w := 0) hV (by omega) h hp h1 h2
theorem q_called (x1 : Int32) : bh_Qy (f_X9_called x1) (f_X10_called x1) := by
  intro G hR
  have hh := bh_nwc hR
  have fT := bh_thr G
  rcases hR.2.2.2.2.1 with h0 | ⟨ln, C, R, E, K, m, pu, bb, z, sv, cl, pr, hN, hC, hM⟩
  · have h02 := bh_sc0 hh h0 fT
    exact bh_qy hR (v := (-2 : Int32)) (by unfold f_X9_called; rw [c_isNumberN rfl h0 _, ob_s, bh_i0]) (by unfold f_X10_called; rw [lt_r, m_isNumberN h02 _, ob_s, bh_i0]) (bh_Fr _ _) (bh_thr G)
  have hM2 := bh_scM hN hM fT
  have hV := hN.2.1
  have h45 := bh_N45 hV
  have hbC := hV.1
  have hbR := hV.2.1
  have hbE := hV.2.2.1
  have hbK := hV.2.2.2.1
  have hbm := hN.2.2.1
  rcases bh_cls (x := x1) (p := fun j => 1 ≤ j ∧ j < C * R * E + 1) with ⟨v, hv, rfl⟩ | nv
  rotate_left
  · exact bh_qy hR (v := (-2 : Int32)) (by unfold f_X9_called; rw [c_isNumber0 rfl hN hC nv, ob_s, bh_i0]) (by unfold f_X10_called; rw [lt_r, m_isNumber0 hN hM2 nv, ob_s, bh_i0]) (bh_Fr _ _) (bh_thr G)
  exact bh_qy hR (v := nI (bh_tn (C * R * E) cl v)) (by unfold f_X9_called; rw [c_isNumber1 rfl hN hC hv, ob_s, bh_i1, inb_n (by omega) (by omega), gd_t, nI_clamp (by omega), c_TA hN hC v hv.1 (by omega)]) (by unfold f_X10_called; rw [lt_r, m_isNumber1 hN hM2 hv, ob_s, bh_i1, m_calledIn0 hV (bh_ME_of hM2) hN.2.2.2.2.2.2.2 hv.1 (by omega), ob_s]) (bh_Fr _ _) fT
/-- differences, one behind another -/
def bh_ds (n0 : Int32) (f : Nat → Nat) : Nat → Int32
  | 0 => n0
  | i + 1 => bh_ds n0 f i - nI (f i)
theorem c_daubedBy {G : GM} {R E K n : Nat} {T : Nat → Nat → Nat} (h : bh_VW G R E K T) (hR : R ≤ 3) (hK : K ≤ 5) (hn : n ≤ 45) (hT : ∀ r k, r < R → k < K → T r k ≤ 45) : f_X0_daubedBy (nI n) G = some (bh_ds (nI (R * E)) (bh_rL K T n) R, G) := by
  unfold f_X0_daubedBy
  rw [h.1, h.2.2.1, pk_mul, lt_r]
  refine wl2_up (P := fun o => o = some (bh_ds (nI (R * E)) (bh_rL K T n) R, G)) (I := fun i y G1 => G1 = G ∧ y = bh_ds (nI (R * E)) (bh_rL K T n) i) (N := R) (by omega) ?_ (n := FU) (i := 0) (Nat.zero_le _) ⟨rfl, rfl⟩ (by unfold FU; omega)
  rintro kc r _ G1 hr' ⟨rfl, rfl⟩ hkc
  unfold lp_X0_daubedBy_12
  rw [h.1]
  by_cases hr : r < R
  · rw [if_neg (nI_ge hr (by omega)), bh_rowLack h hR hK hr hn (fun k hk => hT r k hr hk), ob_s, lt_r, nI_1]
    exact hkc hr _ _ ⟨rfl, rfl⟩
  · have hr2 : r = R := by omega
    subst hr2
    rw [if_pos (nI_le (by omega) (by omega))]
theorem c_full {G : GM} {R E K n : Nat} {T : Nat → Nat → Nat} (h : bh_VW G R E K T) (hR : R ≤ 3) (hK : K ≤ 5) (hn : n ≤ 45) (hT : ∀ r k, r < R → k < K → T r k ≤ 45) : f_X0_fullRowsBy (nI n) G = some (nI (bh_sm (fun r => if bh_rL K T n r = 0 then 1 else 0) R), G) := by
  unfold f_X0_fullRowsBy
  refine wl2_up (P := fun o => o = some (nI (bh_sm (fun r => if bh_rL K T n r = 0 then 1 else 0) R), G)) (I := fun i y G1 => G1 = G ∧ y = nI (bh_sm (fun r => if bh_rL K T n r = 0 then 1 else 0) i)) (N := R) (by omega) ?_ (n := FU) (i := 0) (Nat.zero_le _) ⟨rfl, rfl⟩ (by unfold FU; omega)
  rintro kc r _ G1 hr' ⟨rfl, rfl⟩ hkc
  unfold lp_X0_fullRowsBy_4
  rw [h.1]
  by_cases hr : r < R
  · have hle : bh_rL K T n r ≤ 5 := bh_rL_le hK
    rw [if_neg (nI_ge hr (by omega)), bh_rowLack h hR hK hr hn (fun k hk => hT r k hr hk), ob_s]
    by_cases h0 : bh_rL K T n r = 0
    · rw [h0, if_pos (show nI 0 = (0 : Int32) from rfl), nI_1, nI_1]
      exact hkc hr _ _ ⟨rfl, by show _ = nI (_ + if bh_rL K T n r = 0 then 1 else 0); rw [if_pos h0]⟩
    · rw [if_neg (nI_ne0 (by omega) (by omega)), nI_1]
      exact hkc hr _ _ ⟨rfl, by show _ = nI (_ + if bh_rL K T n r = 0 then 1 else 0); rw [if_neg h0]; rfl⟩
  · have hr2 : r = R := by omega
    subst hr2
    rw [if_pos (nI_le (by omega) (by omega))]
theorem m_lackOf0 {G : GM} {C R E K s c r n : Nat} {z cl : Nat → Nat} (hV : bh_VH C R E K z) (h : bh_ME G 0 C R E K z cl) (hp : bh_prm (C * R * E) 1 cl) (hS : bh_SM G 0 C R E K z s) (hc : c < C) (hr : r < R) (hn : n ≤ 45) : f_X10_lackOf (0 : Int32) (nI c) (nI r) (nI n) G = some (nI (bh_rL K (bh_T C R E K z s cl c) n r), G) := m_lackOf (w := 0) hV (by omega) h hp hS hc hr hn
theorem m_lacksOf0 {G : GM} {C R E K s c kind n : Nat} {z cl : Nat → Nat} (hV : bh_VH C R E K z) (h : bh_ME G 0 C R E K z cl) (hp : bh_prm (C * R * E) 1 cl) (hS : bh_SM G 0 C R E K z s) (hc : c < C) (hkd : kind < 3) (hn : n ≤ 45) : ∃ G', f_X10_lacksOf (0 : Int32) (nI c) (nI kind) (nI n) G = some (bh_lI K R (bh_T C R E K z s cl c) kind n, G') ∧ bh_F (fun a _ => a = 208) G G' := m_lacksOf (w := 0) hV (by omega) h hp hS hc hkd hn
theorem m_doneOf0 {G : GM} {C R E K s c kind : Nat} {z cl : Nat → Nat} (hV : bh_VH C R E K z) (h : bh_ME G 0 C R E K z cl) (hp : bh_prm (C * R * E) 1 cl) (hS : bh_SM G 0 C R E K z s) (hc : c < C) (hkd : kind < 3) : ∃ G', f_X10_doneOf (0 : Int32) (nI c) (nI kind) G = some (bh_tI K R (bh_T C R E K z s cl c) kind, G') ∧ bh_F (fun a _ => a = 208) G G' := m_doneOf (w := 0) hV (by omega) h hp hS hc hkd
theorem scr208 {G G' : GM} (h : bh_F (fun a _ => a = 208) G G') : bh_F bh_SCR G G' := bh_Fm h (fun a q h => scr_e (by omega))
theorem scr73 {G G' : GM} (h : bh_F (fun a _ => a = 73) G G') : bh_F bh_SCR G G' := bh_Fm h (fun a q h => scr_b (by omega))
theorem bh_T45 {C R E K s : Nat} {z cl : Nat → Nat} (hV : bh_VH C R E K z) (hp : bh_prm (C * R * E) 1 cl) {c : Nat} (hc : c < C) : ∀ r k, r < R → k < K → bh_T C R E K z s cl c r k ≤ 45 := fun r k hr hk => Nat.le_trans (bh_T_le hV hp hc hr hk) (bh_N45 hV)
theorem q_daubs (x1 x2 x3 : Int32) : bh_Qy (f_X9_daubs x1 x2 x3) (f_X10_daubs x1 x2 x3) := by
  intro G hR
  have hh := bh_nwc hR
  have fT := bh_thr G
  rcases hR.2.2.2.2.1 with h0 | ⟨ln, C, R, E, K, m, pu, bb, z, sv, cl, pr, hN, hC, hM⟩
  · have h02 := bh_sc0 hh h0 fT
    exact bh_qy hR (v := (-2 : Int32)) (by unfold f_X9_daubs; rw [c_isSerialN rfl h0 _, ob_s, bh_i0]) (by unfold f_X10_daubs; rw [lt_r, m_isAskedN h02 _ _ _, ob_s, bh_i0]) (bh_Fr _ _) (bh_thr G)
  have hM2 := bh_scM hN hM fT
  have hV := hN.2.1
  have h45 := bh_N45 hV
  have hbC := hV.1
  have hbR := hV.2.1
  have hbE := hV.2.2.1
  have hbK := hV.2.2.2.1
  have hbm := hN.2.2.1
  rcases bh_cls (x := x1) (p := fun j => j < 10000) with ⟨s, hs, rfl⟩ | ns
  rotate_left
  · exact bh_qy hR (v := (-2 : Int32)) (by unfold f_X9_daubs; rw [c_isSerial0 rfl hN hC ns, ob_s, bh_i0]) (by unfold f_X10_daubs; rw [lt_r, m_isAsked0 hN hM2 (fun q => ns q.1), ob_s, bh_i0]) (bh_Fr _ _) (bh_thr G)
  rcases bh_cls (x := x2) (p := fun j => j < C) with ⟨c, hc, rfl⟩ | nc
  rotate_left
  · exact bh_qy hR (v := (-2 : Int32)) (by unfold f_X9_daubs; rw [c_isSerial1 rfl hN hC hs, ob_s, bh_i1, c_isCard0 rfl hN hC nc, ob_s, bh_i0]) (by unfold f_X10_daubs; rw [lt_r, m_isAsked0 hN hM2 (fun q => nc q.2.1), ob_s, bh_i0]) (bh_Fr _ _) (bh_thr G)
  rcases bh_cls (x := x3) (p := fun j => j < C * R * E + 1) with ⟨n, hn, rfl⟩ | nn
  rotate_left
  · exact bh_qy hR (v := (-2 : Int32)) (by unfold f_X9_daubs; rw [c_isSerial1 rfl hN hC hs, ob_s, bh_i1, c_isCard1 rfl hN hC hc, ob_s, bh_i1, c_isTime0 rfl hN hC nn, ob_s, bh_i0]) (by unfold f_X10_daubs; rw [lt_r, m_isAsked0 hN hM2 (fun q => nn q.2.2), ob_s, bh_i0]) (bh_Fr _ _) (bh_thr G)
  obtain ⟨G1, e9, v9, F9⟩ := c_cardOf rfl hh hN hC hs hc
  have hp := hN.2.2.2.2.2.2.2
  have hT := bh_T45 (s := s) hV hp hc
  have hM2 := bh_scM hN hM (bh_Ft F9 (bh_thr _))
  obtain ⟨G2, e2, p2, -, F2⟩ := m_makes hN hM2 hs
  have FF2 : bh_F bh_SCR G1 G2 := bh_Ft (bh_thr _) (bh_WS (by omega) F2)
  have hM3 := bh_scM hN hM2 (bh_WS (by omega) F2)
  have hE3 := bh_ME_of hM3
  have e9' := c_daubedBy (n := n) v9 hbR.2 hbK.2 (by omega) hT
  have f1 : gI G2 193 1 = nI R := hM3.2.1.2.1
  have f2 : gI G2 193 2 = nI E := hM3.2.1.2.2.1
  refine bh_qy hR (v := bh_ds (nI (R * E)) (bh_rL K (bh_T C R E K z s cl c) n) R) (G1 := G1) (G2 := G2) (by unfold f_X9_daubs; rw [c_isSerial1 rfl hN hC hs, ob_s, bh_i1, c_isCard1 rfl hN hC hc, ob_s, bh_i1, c_isTime1 rfl hN hC hn, ob_s, bh_i1, e9, ob_s, e9', ob_s]) ?_ F9 FF2
  unfold f_X10_daubs
  rw [lt_r, m_isAsked1 hN hM2 hs hc hn, ob_s, bh_i1, e2, ov_s, show inb (1 : Int32) 48 = true from by decide, gd_t, show inb (2 : Int32) 48 = true from by decide, gd_t, show (1 : Int32).toNatClampNeg = 1 from by decide, show (2 : Int32).toNatClampNeg = 2 from by decide, f1, f2, pk_mul, lt_r]
  refine wl2_up (P := fun o => o = some (bh_ds (nI (R * E)) (bh_rL K (bh_T C R E K z s cl c) n) R, G2)) (I := fun i y G1 => G1 = G2 ∧ y = bh_ds (nI (R * E)) (bh_rL K (bh_T C R E K z s cl c) n) i) (N := R) (by omega) ?_ (n := FU) (i := 0) (Nat.zero_le _) ⟨rfl, rfl⟩ (by unfold FU; omega)
  rintro kc r _ G3 hr' ⟨rfl, rfl⟩ hkc
  unfold lp_X10_daubs_43
  rw [show inb (1 : Int32) 48 = true from by decide, gd_t, show (1 : Int32).toNatClampNeg = 1 from by decide, f1]
  by_cases hr : r < R
  · rw [if_neg (nI_ge hr (by omega)), m_lackOf0 hV hE3 hp p2 hc hr (by omega), ob_s, lt_r, nI_1]
    exact hkc hr _ _ ⟨rfl, rfl⟩
  · have hr2 : r = R := by omega
    subst hr2
    rw [if_pos (nI_le (by omega) (by omega))]
theorem q_full (x1 x2 x3 : Int32) : bh_Qy (f_X9_full x1 x2 x3) (f_X10_full x1 x2 x3) := by
  intro G hR
  have hh := bh_nwc hR
  have fT := bh_thr G
  rcases hR.2.2.2.2.1 with h0 | ⟨ln, C, R, E, K, m, pu, bb, z, sv, cl, pr, hN, hC, hM⟩
  · have h02 := bh_sc0 hh h0 fT
    exact bh_qy hR (v := (-2 : Int32)) (by unfold f_X9_full; rw [c_isSerialN rfl h0 _, ob_s, bh_i0]) (by unfold f_X10_full; rw [lt_r, m_isAskedN h02 _ _ _, ob_s, bh_i0]) (bh_Fr _ _) (bh_thr G)
  have hM2 := bh_scM hN hM fT
  have hV := hN.2.1
  have h45 := bh_N45 hV
  have hbC := hV.1
  have hbR := hV.2.1
  have hbE := hV.2.2.1
  have hbK := hV.2.2.2.1
  have hbm := hN.2.2.1
  rcases bh_cls (x := x1) (p := fun j => j < 10000) with ⟨s, hs, rfl⟩ | ns
  rotate_left
  · exact bh_qy hR (v := (-2 : Int32)) (by unfold f_X9_full; rw [c_isSerial0 rfl hN hC ns, ob_s, bh_i0]) (by unfold f_X10_full; rw [lt_r, m_isAsked0 hN hM2 (fun q => ns q.1), ob_s, bh_i0]) (bh_Fr _ _) (bh_thr G)
  rcases bh_cls (x := x2) (p := fun j => j < C) with ⟨c, hc, rfl⟩ | nc
  rotate_left
  · exact bh_qy hR (v := (-2 : Int32)) (by unfold f_X9_full; rw [c_isSerial1 rfl hN hC hs, ob_s, bh_i1, c_isCard0 rfl hN hC nc, ob_s, bh_i0]) (by unfold f_X10_full; rw [lt_r, m_isAsked0 hN hM2 (fun q => nc q.2.1), ob_s, bh_i0]) (bh_Fr _ _) (bh_thr G)
  rcases bh_cls (x := x3) (p := fun j => j < C * R * E + 1) with ⟨n, hn, rfl⟩ | nn
  rotate_left
  · exact bh_qy hR (v := (-2 : Int32)) (by unfold f_X9_full; rw [c_isSerial1 rfl hN hC hs, ob_s, bh_i1, c_isCard1 rfl hN hC hc, ob_s, bh_i1, c_isTime0 rfl hN hC nn, ob_s, bh_i0]) (by unfold f_X10_full; rw [lt_r, m_isAsked0 hN hM2 (fun q => nn q.2.2), ob_s, bh_i0]) (bh_Fr _ _) (bh_thr G)
  obtain ⟨G1, e9, v9, F9⟩ := c_cardOf rfl hh hN hC hs hc
  have hp := hN.2.2.2.2.2.2.2
  have hT := bh_T45 (s := s) hV hp hc
  have hM2 := bh_scM hN hM (bh_Ft F9 (bh_thr _))
  obtain ⟨G2, e2, p2, -, F2⟩ := m_makes hN hM2 hs
  have FF2 : bh_F bh_SCR G1 G2 := bh_Ft (bh_thr _) (bh_WS (by omega) F2)
  have hM3 := bh_scM hN hM2 (bh_WS (by omega) F2)
  have hE3 := bh_ME_of hM3
  have e9' := c_full (n := n) v9 hbR.2 hbK.2 (by omega) hT
  have f1 : gI G2 193 1 = nI R := hM3.2.1.2.1
  refine bh_qy hR (v := nI (bh_sm (fun r => if bh_rL K (bh_T C R E K z s cl c) n r = 0 then 1 else 0) R)) (G1 := G1) (G2 := G2) (by unfold f_X9_full; rw [c_isSerial1 rfl hN hC hs, ob_s, bh_i1, c_isCard1 rfl hN hC hc, ob_s, bh_i1, c_isTime1 rfl hN hC hn, ob_s, bh_i1, e9, ob_s, e9', ob_s]) ?_ F9 FF2
  unfold f_X10_full
  rw [lt_r, m_isAsked1 hN hM2 hs hc hn, ob_s, bh_i1, e2, ov_s]
  refine wl2_up (P := fun o => o = some (nI (bh_sm (fun r => if bh_rL K (bh_T C R E K z s cl c) n r = 0 then 1 else 0) R), G2)) (I := fun i y G1 => G1 = G2 ∧ y = nI (bh_sm (fun r => if bh_rL K (bh_T C R E K z s cl c) n r = 0 then 1 else 0) i)) (N := R) (by omega) ?_ (n := FU) (i := 0) (Nat.zero_le _) ⟨rfl, rfl⟩ (by unfold FU; omega)
  rintro kc r _ G3 hr' ⟨rfl, rfl⟩ hkc
  unfold lp_X10_full_31
  rw [show inb (1 : Int32) 48 = true from by decide, gd_t, show (1 : Int32).toNatClampNeg = 1 from by decide, f1]
  by_cases hr : r < R
  · have hle : bh_rL K (bh_T C R E K z s cl c) n r ≤ 5 := bh_rL_le hbK.2
    rw [if_neg (nI_ge hr (by omega)), m_lackOf0 hV hE3 hp p2 hc hr (by omega), ob_s]
    by_cases h0 : bh_rL K (bh_T C R E K z s cl c) n r = 0
    · rw [h0, if_pos (show nI 0 = (0 : Int32) from rfl)]
      unfold k_X10_full_61
      rw [nI_1, lt_r, nI_1]
      exact hkc hr _ _ ⟨rfl, by show _ = nI (_ + if bh_rL K (bh_T C R E K z s cl c) n r = 0 then 1 else 0); rw [if_pos h0]⟩
    · rw [if_neg (nI_ne0 (by omega) (by omega))]
      unfold k_X10_full_61
      rw [show (0 : Int32) = nI 0 from rfl, nI_add, lt_r, nI_1]
      exact hkc hr _ _ ⟨rfl, by show _ = nI (_ + if bh_rL K (bh_T C R E K z s cl c) n r = 0 then 1 else 0); rw [if_neg h0]⟩
  · have hr2 : r = R := by omega
    subst hr2
    rw [if_pos (nI_le (by omega) (by omega))]
theorem q_lacks (x1 x2 x3 x4 : Int32) : bh_Qy (f_X9_lacks x1 x2 x3 x4) (f_X10_lacks x1 x2 x3 x4) := by
  intro G hR
  have hh := bh_nwc hR
  have fT := bh_thr G
  rcases hR.2.2.2.2.1 with h0 | ⟨ln, C, R, E, K, m, pu, bb, z, sv, cl, pr, hN, hC, hM⟩
  · have h02 := bh_sc0 hh h0 fT
    exact bh_qy hR (v := (-2 : Int32)) (by unfold f_X9_lacks; rw [c_isSerialN rfl h0 _, ob_s, bh_i0]) (by unfold f_X10_lacks; rw [lt_r, m_isAskedN h02 _ _ _, ob_s, bh_i0]) (bh_Fr _ _) (bh_thr G)
  have hM2 := bh_scM hN hM fT
  have hV := hN.2.1
  have h45 := bh_N45 hV
  have hbC := hV.1
  have hbR := hV.2.1
  have hbE := hV.2.2.1
  have hbK := hV.2.2.2.1
  have hbm := hN.2.2.1
  rcases bh_cls (x := x1) (p := fun j => j < 10000) with ⟨s, hs, rfl⟩ | ns
  rotate_left
  · exact bh_qy hR (v := (-2 : Int32)) (by unfold f_X9_lacks; rw [c_isSerial0 rfl hN hC ns, ob_s, bh_i0]) (by unfold f_X10_lacks; rw [lt_r, m_isAsked0 hN hM2 (fun q => ns q.1), ob_s, bh_i0]) (bh_Fr _ _) (bh_thr G)
  rcases bh_cls (x := x2) (p := fun j => j < C) with ⟨c, hc, rfl⟩ | nc
  rotate_left
  · exact bh_qy hR (v := (-2 : Int32)) (by unfold f_X9_lacks; rw [c_isSerial1 rfl hN hC hs, ob_s, bh_i1, c_isCard0 rfl hN hC nc, ob_s, bh_i0]) (by unfold f_X10_lacks; rw [lt_r, m_isAsked0 hN hM2 (fun q => nc q.2.1), ob_s, bh_i0]) (bh_Fr _ _) (bh_thr G)
  rcases bh_cls (x := x3) (p := fun j => j < 3) with ⟨k, hk, rfl⟩ | nk
  rotate_left
  · have cm : f_X9_lacks (nI s) (nI c) x3 x4 G = some (-2, G) := by unfold f_X9_lacks; rw [c_isSerial1 rfl hN hC hs, ob_s, bh_i1, c_isCard1 rfl hN hC hc, ob_s, bh_i1, c_isKind0 rfl hN hC nk, ob_s, bh_i0]
    rcases bh_cls (x := x4) (p := fun j => j < C * R * E + 1) with ⟨n, hn, rfl⟩ | nn
    · exact bh_qy hR (v := (-2 : Int32)) cm (by unfold f_X10_lacks; rw [lt_r, m_isAsked1 hN hM2 hs hc hn, ob_s, bh_i1, m_isKind0 nk _, ob_s, bh_i0]) (bh_Fr _ _) fT
    · exact bh_qy hR (v := (-2 : Int32)) cm (by unfold f_X10_lacks; rw [lt_r, m_isAsked0 hN hM2 (fun q => nn q.2.2), ob_s, bh_i0]) (bh_Fr _ _) fT
  rcases bh_cls (x := x4) (p := fun j => j < C * R * E + 1) with ⟨n, hn, rfl⟩ | nn
  rotate_left
  · exact bh_qy hR (v := (-2 : Int32)) (by unfold f_X9_lacks; rw [c_isSerial1 rfl hN hC hs, ob_s, bh_i1, c_isCard1 rfl hN hC hc, ob_s, bh_i1, c_isKind1 rfl hN hC hk, ob_s, bh_i1, c_isTime0 rfl hN hC nn, ob_s, bh_i0]) (by unfold f_X10_lacks; rw [lt_r, m_isAsked0 hN hM2 (fun q => nn q.2.2), ob_s, bh_i0]) (bh_Fr _ _) (bh_thr G)
  obtain ⟨G1, e9, v9, F9⟩ := c_cardOf rfl hh hN hC hs hc
  have hp := hN.2.2.2.2.2.2.2
  have hT := bh_T45 (s := s) hV hp hc
  have hM2 := bh_scM hN hM (bh_Ft F9 (bh_thr _))
  obtain ⟨G2, e2, p2, -, F2⟩ := m_makes hN hM2 hs
  have FF2 : bh_F bh_SCR G1 G2 := bh_Ft (bh_thr _) (bh_WS (by omega) F2)
  have hM3 := bh_scM hN hM2 (bh_WS (by omega) F2)
  have hE3 := bh_ME_of hM3
  obtain ⟨G4, e4, F4⟩ := bh_lackOf (n := n) v9 hbR hbK.2 hk (by omega) hT
  have FF4 := bh_Ft F9 (scr73 F4)
  have hM4 := bh_scM hN hM (bh_Ft FF4 (bh_thr _))
  obtain ⟨G5, e5, p5, -, F5⟩ := m_makes hN hM4 hs
  have hM5 := bh_scM hN hM4 (bh_WS (by omega) F5)
  obtain ⟨G6, e6, F6⟩ := m_lacksOf0 (n := n) hV (bh_ME_of hM5) hp p5 hc hk (by omega)
  exact bh_qy hR (v := bh_lI K R (bh_T C R E K z s cl c) k n) (G1 := G4) (G2 := G6) (by unfold f_X9_lacks; rw [c_isSerial1 rfl hN hC hs, ob_s, bh_i1, c_isCard1 rfl hN hC hc, ob_s, bh_i1, c_isKind1 rfl hN hC hk, ob_s, bh_i1, c_isTime1 rfl hN hC hn, ob_s, bh_i1, e9, ob_s, e4, ob_s]) (by unfold f_X10_lacks; rw [lt_r, m_isAsked1 hN hM4 hs hc hn, ob_s, bh_i1, m_isKind1 hk _, ob_s, bh_i1, e5, ov_s, e6, ob_s]) FF4 (bh_Ft (bh_Ft (bh_thr _) (bh_WS (by omega) F5)) (scr208 F6))
theorem q_done (x1 x2 x3 : Int32) : bh_Qy (f_X9_done x1 x2 x3) (f_X10_done x1 x2 x3) := by
  intro G hR
  have hh := bh_nwc hR
  have fT := bh_thr G
  rcases hR.2.2.2.2.1 with h0 | ⟨ln, C, R, E, K, m, pu, bb, z, sv, cl, pr, hN, hC, hM⟩
  · have h02 := bh_sc0 hh h0 fT
    exact bh_qy hR (v := (-2 : Int32)) (by unfold f_X9_done; rw [c_isSerialN rfl h0 _, ob_s, bh_i0]) (by unfold f_X10_done; rw [lt_r, m_isSerialN h02 _, ob_s, bh_i0]) (bh_Fr _ _) (bh_thr G)
  have hM2 := bh_scM hN hM fT
  have hV := hN.2.1
  have h45 := bh_N45 hV
  have hbC := hV.1
  have hbR := hV.2.1
  have hbE := hV.2.2.1
  have hbK := hV.2.2.2.1
  have hbm := hN.2.2.1
  rcases bh_cls (x := x1) (p := fun j => j < 10000) with ⟨s, hs, rfl⟩ | ns
  rotate_left
  · exact bh_qy hR (v := (-2 : Int32)) (by unfold f_X9_done; rw [c_isSerial0 rfl hN hC ns, ob_s, bh_i0]) (by unfold f_X10_done; rw [lt_r, m_isSerial0 hN hM2 ns, ob_s, bh_i0]) (bh_Fr _ _) (bh_thr G)
  rcases bh_cls (x := x2) (p := fun j => j < C) with ⟨c, hc, rfl⟩ | nc
  rotate_left
  · exact bh_qy hR (v := (-2 : Int32)) (by unfold f_X9_done; rw [c_isSerial1 rfl hN hC hs, ob_s, bh_i1, c_isCard0 rfl hN hC nc, ob_s, bh_i0]) (by unfold f_X10_done; rw [lt_r, m_isSerial1 hN hM2 hs, ob_s, bh_i1, m_isCard0 hN hM2 nc, ob_s, bh_i0]) (bh_Fr _ _) (bh_thr G)
  rcases bh_cls (x := x3) (p := fun j => j < 3) with ⟨k, hk, rfl⟩ | nk
  rotate_left
  · exact bh_qy hR (v := (-2 : Int32)) (by unfold f_X9_done; rw [c_isSerial1 rfl hN hC hs, ob_s, bh_i1, c_isCard1 rfl hN hC hc, ob_s, bh_i1, c_isKind0 rfl hN hC nk, ob_s, bh_i0]) (by unfold f_X10_done; rw [lt_r, m_isSerial1 hN hM2 hs, ob_s, bh_i1, m_isCard1 hN hM2 hc, ob_s, bh_i1, m_isKind0 nk _, ob_s, bh_i0]) (bh_Fr _ _) (bh_thr G)
  obtain ⟨G1, e9, v9, F9⟩ := c_cardOf rfl hh hN hC hs hc
  have hp := hN.2.2.2.2.2.2.2
  have hT := bh_T45 (s := s) hV hp hc
  obtain ⟨G4, e4, F4⟩ := bh_turnOf v9 hbR hbK.2 hk hT
  have FF4 := bh_Ft F9 (scr73 F4)
  have hM2 := bh_scM hN hM (bh_Ft FF4 (bh_thr _))
  obtain ⟨G5, e5, p5, -, F5⟩ := m_makes hN hM2 hs
  have hM5 := bh_scM hN hM2 (bh_WS (by omega) F5)
  obtain ⟨G6, e6, F6⟩ := m_doneOf0 hV (bh_ME_of hM5) hp p5 hc hk
  have FF6 : bh_F bh_SCR G4 G6 := bh_Ft (bh_Ft (bh_thr _) (bh_WS (by omega) F5)) (scr208 F6)
  exact bh_qy hR (v := bh_tI K R (bh_T C R E K z s cl c) k) (G1 := G4) (G2 := G6) (by unfold f_X9_done; rw [c_isSerial1 rfl hN hC hs, ob_s, bh_i1, c_isCard1 rfl hN hC hc, ob_s, bh_i1, c_isKind1 rfl hN hC hk, ob_s, bh_i1, e9, ob_s, e4, ob_s]) (by unfold f_X10_done; rw [lt_r, m_isSerial1 hN hM2 hs, ob_s, bh_i1, m_isCard1 hN hM2 hc, ob_s, bh_i1, m_isKind1 hk _, ob_s, bh_i1, e5, ov_s, e6, ob_s]) FF4 FF6
theorem q_claim (x1 x2 x3 x4 : Int32) : bh_Qy (f_X9_claim x1 x2 x3 x4) (f_X10_claim x1 x2 x3 x4) := by
  intro G hR
  have hh := bh_nwc hR
  have fT := bh_thr G
  rcases hR.2.2.2.2.1 with h0 | ⟨ln, C, R, E, K, m, pu, bb, z, sv, cl, pr, hN, hC, hM⟩
  · have h02 := bh_sc0 hh h0 fT
    exact bh_qy hR (v := (-2 : Int32)) (by unfold f_X9_claim; rw [c_isSerialN rfl h0 _, ob_s, bh_i0]) (by unfold f_X10_claim; rw [lt_r, m_isSerialN h02 _, ob_s, bh_i0]) (bh_Fr _ _) (bh_thr G)
  have hM2 := bh_scM hN hM fT
  have hV := hN.2.1
  have h45 := bh_N45 hV
  have hbC := hV.1
  have hbR := hV.2.1
  have hbE := hV.2.2.1
  have hbK := hV.2.2.2.1
  have hbm := hN.2.2.1
  rcases bh_cls (x := x1) (p := fun j => j < 10000) with ⟨s, hs, rfl⟩ | ns
  rotate_left
  · exact bh_qy hR (v := (-2 : Int32)) (by unfold f_X9_claim; rw [c_isSerial0 rfl hN hC ns, ob_s, bh_i0]) (by unfold f_X10_claim; rw [lt_r, m_isSerial0 hN hM2 ns, ob_s, bh_i0]) (bh_Fr _ _) (bh_thr G)
  rcases bh_cls (x := x2) (p := fun j => j < C) with ⟨c, hc, rfl⟩ | nc
  rotate_left
  · exact bh_qy hR (v := (-2 : Int32)) (by unfold f_X9_claim; rw [c_isSerial1 rfl hN hC hs, ob_s, bh_i1, c_isCard0 rfl hN hC nc, ob_s, bh_i0]) (by unfold f_X10_claim; rw [lt_r, m_isSerial1 hN hM2 hs, ob_s, bh_i1, m_isCard0 hN hM2 nc, ob_s, bh_i0]) (bh_Fr _ _) (bh_thr G)
  rcases bh_cls (x := x3) (p := fun j => j < 3) with ⟨k, hk, rfl⟩ | nk
  rotate_left
  · exact bh_qy hR (v := (-2 : Int32)) (by unfold f_X9_claim; rw [c_isSerial1 rfl hN hC hs, ob_s, bh_i1, c_isCard1 rfl hN hC hc, ob_s, bh_i1, c_isKind0 rfl hN hC nk, ob_s, bh_i0]) (by unfold f_X10_claim; rw [lt_r, m_isSerial1 hN hM2 hs, ob_s, bh_i1, m_isCard1 hN hM2 hc, ob_s, bh_i1, m_isKind0 nk _, ob_s, bh_i0]) (bh_Fr _ _) (bh_thr G)
  rcases bh_cls (x := x4) (p := fun j => j < C * R * E + 1) with ⟨n, hn, rfl⟩ | nn
  rotate_left
  · exact bh_qy hR (v := (-2 : Int32)) (by unfold f_X9_claim; rw [c_isSerial1 rfl hN hC hs, ob_s, bh_i1, c_isCard1 rfl hN hC hc, ob_s, bh_i1, c_isKind1 rfl hN hC hk, ob_s, bh_i1, c_isTime0 rfl hN hC nn, ob_s, bh_i0]) (by unfold f_X10_claim; rw [lt_r, m_isSerial1 hN hM2 hs, ob_s, bh_i1, m_isCard1 hN hM2 hc, ob_s, bh_i1, m_isKind1 hk _, ob_s, bh_i1, m_all hN hM2, ob_s, m_in0 (l := 1) (b := (C * R * E : Nat)) (by decide) (nI_64 (by omega)) (fun j _ h1 h he => nn ⟨j, by omega, he⟩), ob_s, bh_i0]) (bh_Fr _ _) (bh_thr G)
  by_cases hn0 : n = 0
  · subst hn0
    exact bh_qy hR (v := (-2 : Int32)) (by unfold f_X9_claim; rw [c_isSerial1 rfl hN hC hs, ob_s, bh_i1, c_isCard1 rfl hN hC hc, ob_s, bh_i1, c_isKind1 rfl hN hC hk, ob_s, bh_i1, c_isTime1 rfl hN hC hn, ob_s, bh_i1, if_pos (show nI 0 = (0 : Int32) from rfl)]) (by unfold f_X10_claim; rw [lt_r, m_isSerial1 hN hM2 hs, ob_s, bh_i1, m_isCard1 hN hM2 hc, ob_s, bh_i1, m_isKind1 hk _, ob_s, bh_i1, m_all hN hM2, ob_s, m_in0 (l := 1) (b := (C * R * E : Nat)) (by decide) (nI_64 (by omega)) (fun j _ h1 h he => absurd (nI_inj (by omega) (by omega) he) (by omega)), ob_s, bh_i0]) (bh_Fr _ _) (bh_thr G)
  obtain ⟨G1, e9, v9, F9⟩ := c_cardOf rfl hh hN hC hs hc
  have hp := hN.2.2.2.2.2.2.2
  have hT := bh_T45 (s := s) hV hp hc
  obtain ⟨G4, e4, F4⟩ := bh_turnOf v9 hbR hbK.2 hk hT
  have FF4 := bh_Ft F9 (scr73 F4)
  have hM2 := bh_scM hN hM (bh_Ft FF4 (bh_thr _))
  obtain ⟨G5, e5, p5, -, F5⟩ := m_makes hN hM2 hs
  have hM5 := bh_scM hN hM2 (bh_WS (by omega) F5)
  obtain ⟨G6, e6, F6⟩ := m_doneOf0 hV (bh_ME_of hM5) hp p5 hc hk
  have FF6 : bh_F bh_SCR G4 G6 := bh_Ft (bh_Ft (bh_thr _) (bh_WS (by omega) F5)) (scr208 F6)
  have hle : ¬ (k = 1 ∧ R < 2) → bh_tO K R (bh_T C R E K z s cl c) k ≤ 45 := fun h => bh_tO_le hbR hk h hT
  have hcw : ∀ v : Int32, (if bh_tI K R (bh_T C R E K z s cl c) k = (-1 : Int32) then some ((1 : Int32), G4) else if bh_tI K R (bh_T C R E K z s cl c) k ≤ nI n then if bh_tI K R (bh_T C R E K z s cl c) k = nI n then some ((0 : Int32), G4) else some ((2 : Int32), G4) else some ((1 : Int32), G4)) = some (v, G4) → f_X9_claim (nI s) (nI c) (nI k) (nI n) G = some (v, G4) := fun v hv => by unfold f_X9_claim; rw [c_isSerial1 rfl hN hC hs, ob_s, bh_i1, c_isCard1 rfl hN hC hc, ob_s, bh_i1, c_isKind1 rfl hN hC hk, ob_s, bh_i1, c_isTime1 rfl hN hC hn, ob_s, bh_i1, if_neg (nI_ne0 (by omega) (by omega)), e9, ob_s, e4, ob_s]; exact hv
  have hmw : ∀ v : Int32, (if bh_tI K R (bh_T C R E K z s cl c) k = nI n then some ((0 : Int32), G6) else if bh_tI K R (bh_T C R E K z s cl c) k = (-1 : Int32) then some ((1 : Int32), G6) else if nI n ≤ bh_tI K R (bh_T C R E K z s cl c) k then some ((1 : Int32), G6) else some ((2 : Int32), G6)) = some (v, G6) → f_X10_claim (nI s) (nI c) (nI k) (nI n) G4 = some (v, G6) := fun v hv => by unfold f_X10_claim; rw [lt_r, m_isSerial1 hN hM2 hs, ob_s, bh_i1, m_isCard1 hN hM2 hc, ob_s, bh_i1, m_isKind1 hk _, ob_s, bh_i1, m_all hN hM2, ob_s, m_in1 (l := 1) (b := (C * R * E : Nat)) (by omega) (by decide) (nI_64 (by omega)) (by omega) (by omega), ob_s, bh_i1, e5, ov_s, e6, ob_s]; exact hv
  by_cases hcan : k = 1 ∧ R < 2
  · have e : bh_tI K R (bh_T C R E K z s cl c) k = (-1 : Int32) := if_pos hcan
    refine bh_qy hR (v := (1 : Int32)) (hcw 1 ?_) (hmw 1 ?_) FF4 FF6
    · rw [e, if_pos rfl]
    · rw [e, if_neg (fun h => nIm1 (by omega) h.symm), if_pos rfl]
  · have e : bh_tI K R (bh_T C R E K z s cl c) k = nI (bh_tO K R (bh_T C R E K z s cl c) k) := if_neg hcan
    have hle := hle hcan
    rw [e] at hcw hmw
    by_cases h1 : bh_tO K R (bh_T C R E K z s cl c) k = n
    · refine bh_qy hR (v := (0 : Int32)) (hcw 0 ?_) (hmw 0 ?_) FF4 FF6
      · rw [h1, if_neg (nIm1 (by omega)), if_pos (nI_le (by omega) (by omega)), if_pos rfl]
      · rw [h1, if_pos rfl]
    · by_cases h2 : bh_tO K R (bh_T C R E K z s cl c) k < n
      · refine bh_qy hR (v := (2 : Int32)) (hcw 2 ?_) (hmw 2 ?_) FF4 FF6
        · rw [if_neg (nIm1 (by omega)), if_pos (nI_le (by omega) (by omega)), if_neg (by rw [nI_eq (by omega) (by omega)]; exact h1)]
        · rw [if_neg (by rw [nI_eq (by omega) (by omega)]; exact h1), if_neg (nIm1 (by omega)), if_neg (by rw [nI_leI (by omega) (by omega)]; omega)]
      · refine bh_qy hR (v := (1 : Int32)) (hcw 1 ?_) (hmw 1 ?_) FF4 FF6
        · rw [if_neg (nIm1 (by omega)), if_neg (by rw [nI_leI (by omega) (by omega)]; omega)]
        · rw [if_neg (by rw [nI_eq (by omega) (by omega)]; exact h1), if_neg (nIm1 (by omega)), if_pos (nI_le (by omega) (by omega))]
