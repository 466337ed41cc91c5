/-! questions: chance, some, just, likely, mean -/
theorem c_pf1 {w : Nat} (hw : w < 2) (G : GM) : f_X9_isPartOfFraction (nI w) G = some (1, G) := by
  unfold f_X9_isPartOfFraction
  rcases (by omega : w = 0 ∨ w = 1) with rfl | rfl
  · rw [if_pos (by decide)]
  · rw [if_neg (by decide), if_pos (by decide)]
theorem c_pf0 {x : Int32} (hx : ¬ ∃ j, j < 2 ∧ x = nI j) (G : GM) : f_X9_isPartOfFraction x G = some (0, G) := by
  unfold f_X9_isPartOfFraction
  rw [if_neg (show ¬ x = (0 : Int32) from fun h => hx ⟨0, by omega, h⟩), if_neg (show ¬ x = (1 : Int32) from fun h => hx ⟨1, by omega, h⟩)]
section CH
variable {ln C R E K m pu bb : Nat} {z sv cl pr : Nat → Nat}
theorem m_isCh1 {G : GM} {k n w : Nat} (hN : bh_HN ln C R E K m pu bb z sv cl pr) (hM : bh_HM G 0 ln C R E K m pu bb z sv cl pr) (hk : k < 3) (hn : n < C * R * E + 1) (hw : w < 2) : f_X10_isChance (nI k) (nI n) (nI w) G = some (1, G) := by
  unfold f_X10_isChance
  rw [m_isHall hN hM, ob_s, bh_i1, m_isKind1 hk, ob_s, bh_i1, m_all hN hM, ob_s, m_time1 hN hM hn, ob_s, bh_i1, m_in1 (l := 0) (b := 1) (by omega) (by decide) (by decide) (by omega) (by omega), ob_s, bh_i1]
theorem m_isCh0 {G : GM} {x t y : Int32} (hN : bh_HN ln C R E K m pu bb z sv cl pr) (hM : bh_HM G 0 ln C R E K m pu bb z sv cl pr) (hx : ¬ ((∃ j, j < 3 ∧ x = nI j) ∧ (∃ j, j < C * R * E + 1 ∧ t = nI j) ∧ ∃ j, j < 2 ∧ y = nI j)) : f_X10_isChance x t y G = some (0, G) := by
  unfold f_X10_isChance
  rw [m_isHall hN hM, ob_s, bh_i1]
  by_cases h1 : ∃ j, j < 3 ∧ x = nI j
  · obtain ⟨j, hj, rfl⟩ := h1
    rw [m_isKind1 hj, ob_s, bh_i1, m_all hN hM, ob_s]
    by_cases h2 : ∃ j, j < C * R * E + 1 ∧ t = nI j
    · obtain ⟨n, hn, rfl⟩ := h2
      rw [m_time1 hN hM hn, ob_s, bh_i1, m_in0 (l := 0) (b := 1) (by decide) (by decide) (fun i _ _ h he => hx ⟨⟨j, hj, rfl⟩, ⟨n, hn, rfl⟩, i, by clear hx; omega, he⟩), ob_s, bh_i0]
    · rw [m_time0 hN hM h2, ob_s, bh_i0]
  · rw [m_isKind0 h1, ob_s, bh_i0]
theorem m_isChN {G : GM} {h : Nat} (h0 : bh_H0 G h 0) (x t y : Int32) : f_X10_isChance x t y G = some (0, G) := by
  unfold f_X10_isChance
  rw [m_noHall h0, ob_s, bh_i0]
def bh_KD (C R E kind n : Nat) : Int := if kind = 2 then bh_dr (C * R * E) n 1 (R * E) 1 else bh_dr (C * R * E) n R E (kind + 1)
def bh_SD (C R E kind n : Nat) : Int := if kind = 2 then bh_dr (C * R * E) n C (R * E) 1 else bh_dr (C * R * E) n (C * R) E 1
theorem c_strip {G : GM} {h kind n : Nat} (hn : nw G = h) (hN : bh_HN ln C R E K m pu bb z sv cl pr) (hC : bh_HC G h ln C R E K m pu bb z sv cl pr) (hk : kind < 3) (hnn : n ≤ C * R * E) : f_X9_stripDraws (nI kind) (nI n) G = some (lI (bh_SD C R E kind n), G) := by
  have hV := hN.2.1
  have h45 := bh_N45 hV
  obtain ⟨hbC, hbR, hbE, -⟩ := id hV
  have hRE : R * E ≤ 3 * 5 := Nat.mul_le_mul hbR.2 hbE.2
  have hCR : C * R ≤ 3 * 3 := Nat.mul_le_mul hbC.2 hbR.2
  have e6 : gI G (h + 1) 6 = nI (C * R * E) := by rw [hC.2.1.2.1.1, hV.2.2.2.2.2.2.1]
  obtain ⟨f0, f1, f2, -⟩ := hC.2.1.1
  unfold f_X9_stripDraws bh_SD
  rw [hn, f0, f1, pk_mul]
  by_cases h2 : kind = 2
  · subst h2
    rw [if_pos (show nI 2 = (2 : Int32) from rfl), if_pos rfl]
    unfold k_X9_stripDraws_29
    rw [if_pos (show nI 2 = (2 : Int32) from rfl), f1, f2, pk_mul]
    unfold k_X9_stripDraws_52
    rw [e6, show (1 : Int32) = nI 1 from rfl, c_draws h45 hnn (by omega) (by omega) (by omega), ob_s]
  · have hne : ¬ nI kind = (2 : Int32) := by rw [show (2 : Int32) = nI 2 from rfl, nI_eq (by omega) (by omega)]; exact h2
    rw [if_neg hne, if_neg h2]
    unfold k_X9_stripDraws_29
    rw [if_neg hne, f2]
    unfold k_X9_stripDraws_52
    rw [e6, show (1 : Int32) = nI 1 from rfl, c_draws h45 hnn (by omega) (by omega) (by omega), ob_s]
theorem m_strip {G : GM} {kind n : Nat} (hN : bh_HN ln C R E K m pu bb z sv cl pr) (hM : bh_HM G 0 ln C R E K m pu bb z sv cl pr) (hk : kind < 3) (hk1 : kind ≠ 1) (hnn : n ≤ C * R * E) : f_X10_setsOfStrip (nI kind) (nI n) G = some (lI (bh_SD C R E kind n), G) := by
  have hV := hN.2.1
  obtain ⟨hbC, hbR, hbE, -⟩ := id hV
  have hRE : R * E ≤ 3 * 5 := Nat.mul_le_mul hbR.2 hbE.2
  have hCR : C * R ≤ 3 * 3 := Nat.mul_le_mul hbC.2 hbR.2
  have e0 : gI G 193 0 = nI C := hM.2.1.1
  have e1 : gI G 193 1 = nI R := hM.2.1.2.1
  have e2 : gI G 193 2 = nI E := hM.2.1.2.2.1
  unfold f_X10_setsOfStrip bh_SD
  rw [show inb (1 : Int32) 48 = true from by decide, gd_t, show (1 : Int32).toNatClampNeg = 1 from by decide, e1, lt_r]
  by_cases h0 : kind = 0
  · subst h0
    rw [if_pos (show nI 0 = (0 : Int32) from rfl), show inb (0 : Int32) 48 = true from by decide, gd_t, show inb (2 : Int32) 48 = true from by decide, gd_t, show (0 : Int32).toNatClampNeg = 0 from by decide, show (2 : Int32).toNatClampNeg = 2 from by decide, e0, e2, pk_mul, show (1 : Int32) = nI 1 from rfl, m_setsOf hV (bh_ME_of hM) hnn (by omega) (by omega) (by omega), ob_s, if_neg (by omega)]
  · have h2 : kind = 2 := by omega
    subst h2
    rw [if_neg (by decide), show inb (0 : Int32) 48 = true from by decide, gd_t, show inb (2 : Int32) 48 = true from by decide, gd_t, show (0 : Int32).toNatClampNeg = 0 from by decide, show (2 : Int32).toNatClampNeg = 2 from by decide, e0, e2, pk_mul, show (1 : Int32) = nI 1 from rfl, m_setsOf hV (bh_ME_of hM) hnn (by omega) (by omega) (by omega), ob_s, if_pos rfl]
theorem m_kind {G : GM} {kind n : Nat} (hN : bh_HN ln C R E K m pu bb z sv cl pr) (hM : bh_HM G 0 ln C R E K m pu bb z sv cl pr) (hk : kind < 3) (hnn : n ≤ C * R * E) : f_X10_setsOfKind (nI kind) (nI n) G = some (lI (bh_KD C R E kind n), G) := by
  have hV := hN.2.1
  obtain ⟨hbC, hbR, hbE, -⟩ := id hV
  have hRE : R * E ≤ 3 * 5 := Nat.mul_le_mul hbR.2 hbE.2
  have e1 : gI G 193 1 = nI R := hM.2.1.2.1
  have e2 : gI G 193 2 = nI E := hM.2.1.2.2.1
  unfold f_X10_setsOfKind bh_KD
  rw [show inb (1 : Int32) 48 = true from by decide, gd_t, show (1 : Int32).toNatClampNeg = 1 from by decide, e1, lt_r]
  by_cases h2 : kind = 2
  · subst h2
    rw [if_pos (show nI 2 = (2 : Int32) from rfl), show inb (2 : Int32) 48 = true from by decide, gd_t, show (2 : Int32).toNatClampNeg = 2 from by decide, e2, pk_mul, show (1 : Int32) = nI 1 from rfl, m_setsOf hV (bh_ME_of hM) hnn (by omega) (by omega) (by omega), ob_s, if_pos rfl]
  · have hne : ¬ nI kind = (2 : Int32) := by rw [show (2 : Int32) = nI 2 from rfl, nI_eq (by omega) (by omega)]; exact h2
    rw [if_neg hne, show inb (2 : Int32) 48 = true from by decide, gd_t, show (2 : Int32).toNatClampNeg = 2 from by decide, e2, nI_1, m_setsOf hV (bh_ME_of hM) hnn (by omega) (by omega) (by omega), ob_s, if_neg h2]
theorem bh_KD_n {kind n : Nat} (hV : bh_VH C R E K z) (hk : kind < 3) (hnn : n ≤ C * R * E) : (∃ a : Nat, bh_KD C R E kind n = (a : Int) ∧ a < 2 ^ 60) ∧ (∃ a : Nat, bh_SD C R E kind n = (a : Int) ∧ a < 2 ^ 60) ∧ 1 ≤ bh_ch (C * R * E) n ∧ bh_ch (C * R * E) n < 8796093022208 := by
  have h := (bh_okC hV hnn).1
  unfold bh_okN at h
  rw [Bool.and_eq_true, Bool.and_eq_true, Bool.and_eq_true, Bool.and_eq_true, Bool.and_eq_true, Bool.and_eq_true] at h
  obtain ⟨h1, h2, h3, h4, h5, h6, h7⟩ := h
  refine ⟨?_, ?_, Nat.le_of_ble_eq_true h6, Nat.le_of_ble_eq_true h7⟩
  · unfold bh_KD
    rcases (by omega : kind = 0 ∨ kind = 1 ∨ kind = 2) with rfl | rfl | rfl
    · exact bh_okD_n h2
    · exact bh_okD_n h3
    · exact bh_okD_n h1
  · unfold bh_SD
    by_cases h2' : kind = 2
    · rw [if_pos h2']; exact bh_okD_n h4
    · rw [if_neg h2']; exact bh_okD_n h5
theorem bh_JD_n {kind n : Nat} (hV : bh_VH C R E K z) (hnn : n ≤ C * R * E) (hn0 : n ≠ 0) : ∃ a : Nat, bh_SD C R E kind n * (n : Int) - bh_SD C R E kind (n - 1) * ((C * R * E - n + 1 : Nat) : Int) = (a : Int) ∧ a < 2 ^ 60 := by
  have h := (bh_okC hV hnn).2 hn0
  unfold bh_okJ at h
  rw [Bool.and_eq_true] at h
  unfold bh_SD
  by_cases h2' : kind = 2
  · rw [if_pos h2', if_pos h2']; exact bh_okD_n h.1
  · rw [if_neg h2', if_neg h2']; exact bh_okD_n h.2
end CH
theorem q_chance (x1 x2 x3 : Int32) : bh_Qy (f_X9_chance x1 x2 x3) (f_X10_chance x1 x2 x3) := by
  intro G hR
  have hh := bh_nwc hR
  have fT := bh_thr G
  rcases hR.2.2.2.2.1 with h0 | ⟨ln, C, R, E, K, m, pu, bb, z, sv, cl, pr, hN, hC, hM⟩
  · have h02 := bh_sc0 hh h0 fT
    exact bh_qy hR (v := (-2 : Int64)) (by unfold f_X9_chance; rw [c_isKindN rfl h0 _, ob_s, bh_i0]; rfl) (by unfold f_X10_chance; rw [lt_r, m_isChN h02 _ _ _, ob_s, bh_i0]) (bh_Fr _ _) (bh_thr G)
  have hM2 := bh_scM hN hM fT
  have hV := hN.2.1
  have h45 := bh_N45 hV
  have hbC := hV.1
  have hbR := hV.2.1
  have hbE := hV.2.2.1
  have hbK := hV.2.2.2.1
  have hbm := hN.2.2.1
  have hp := hN.2.2.2.2.2.2.2
  have e6 : gI G (nw G + 1) 6 = nI (C * R * E) := by rw [hC.2.1.2.1.1, hV.2.2.2.2.2.2.1]
  obtain ⟨f0, f1, f2, -⟩ := hC.2.1.1
  have hRE : R * E ≤ 3 * 5 := Nat.mul_le_mul hbR.2 hbE.2
  rcases bh_cls (x := x1) (p := fun j => j < 3) with ⟨k, hk, rfl⟩ | nk
  rotate_left
  · exact bh_qy hR (v := (-2 : Int64)) (by unfold f_X9_chance; rw [c_isKind0 rfl hN hC nk, ob_s, bh_i0]; rfl) (by unfold f_X10_chance; rw [lt_r, m_isCh0 hN hM2 (fun q => nk q.1), ob_s, bh_i0]) (bh_Fr _ _) (bh_thr G)
  rcases bh_cls (x := x2) (p := fun j => j < C * R * E + 1) with ⟨n, hn, rfl⟩ | nn
  rotate_left
  · exact bh_qy hR (v := (-2 : Int64)) (by unfold f_X9_chance; rw [c_isKind1 rfl hN hC hk, ob_s, bh_i1, c_isTime0 rfl hN hC nn, ob_s, bh_i0]; rfl) (by unfold f_X10_chance; rw [lt_r, m_isCh0 hN hM2 (fun q => nn q.2.1), ob_s, bh_i0]) (bh_Fr _ _) (bh_thr G)
  rcases bh_cls (x := x3) (p := fun j => j < 2) with ⟨w, hw, rfl⟩ | nw2
  rotate_left
  · exact bh_qy hR (v := (-2 : Int64)) (by unfold f_X9_chance; rw [c_isKind1 rfl hN hC hk, ob_s, bh_i1, c_isTime1 rfl hN hC hn, ob_s, bh_i1, c_pf0 nw2, ob_s, bh_i0]; rfl) (by unfold f_X10_chance; rw [lt_r, m_isCh0 hN hM2 (fun q => nw2 q.2.2), ob_s, bh_i0]) (bh_Fr _ _) (bh_thr G)
  obtain ⟨⟨a, ea, la⟩, -, c1, c2⟩ := bh_KD_n (kind := k) hV hk (show n ≤ C * R * E by omega)
  have eL : lI (bh_KD C R E k n) = lN a := by rw [ea]; exact (lI_n a).symm
  obtain ⟨v, t9, t10⟩ := bh_told (a := a) (b := bh_ch (C * R * E) n) (by omega) c1 (by omega) (nI w)
  have kd : k_X9_chance_98 (nI k) (nI n) (nI w) (nw G + 1) (if k = 1 then nI 2 else nI 1) (if k = 2 then nI (R * E) else nI E) (if k = 2 then nI 1 else nI R) (nI n) (nI (C * R * E)) G = some (v, G) := by
    unfold k_X9_chance_98
    have : f_X1_drawsWith (nI (C * R * E)) (nI n) (if k = 2 then nI 1 else nI R) (if k = 2 then nI (R * E) else nI E) (if k = 1 then nI 2 else nI 1) G = some (lI (bh_KD C R E k n), G) := by
      unfold bh_KD
      rcases (by omega : k = 0 ∨ k = 1 ∨ k = 2) with rfl | rfl | rfl
      · exact c_draws h45 (by omega) (by omega) (by omega) (by omega) G
      · exact c_draws h45 (by omega) (by omega) (by omega) (by omega) G
      · exact c_draws h45 (by omega) (by omega) (by omega) (by omega) G
    rw [this, ob_s, e6, c_choose h45 (by omega), ob_s, eL, t9, ob_s]
  refine bh_qy hR (v := v) (G1 := G) (G2 := sI G 186 0 0) ?_ (by unfold f_X10_chance; rw [lt_r, m_isCh1 hN hM2 hk hn hw, ob_s, bh_i1, m_kind hN hM2 hk (by omega), ob_s, m_all hN hM2, ob_s, bh_chE, c_choose h45 (by omega), ob_s, eL, t10, ob_s]) (bh_Fr _ _) fT
  unfold f_X9_chance
  rw [c_isKind1 rfl hN hC hk, ob_s, bh_i1, c_isTime1 rfl hN hC hn, ob_s, bh_i1, c_pf1 hw, ob_s, bh_i1, f1]
  rcases (by omega : k = 0 ∨ k = 1 ∨ k = 2) with rfl | rfl | rfl
  · rw [if_neg (by decide)]
    unfold k_X9_chance_50
    rw [if_neg (by decide), f2]
    unfold k_X9_chance_76
    rw [if_neg (by decide), e6]
    exact kd
  · rw [if_neg (by decide)]
    unfold k_X9_chance_50
    rw [if_neg (by decide), f2]
    unfold k_X9_chance_76
    rw [if_pos (by decide), e6]
    exact kd
  · rw [if_pos (by decide)]
    unfold k_X9_chance_50
    rw [if_pos (by decide), f1, f2, pk_mul]
    unfold k_X9_chance_76
    rw [if_neg (by decide), e6]
    exact kd
theorem q_some (x1 x2 x3 : Int32) : bh_Qy (f_X9_some x1 x2 x3) (f_X10_some x1 x2 x3) := by
  intro G hR
  have hh := bh_nwc hR
  have fT := bh_thr G
  rcases hR.2.2.2.2.1 with h0 | ⟨ln, C, R, E, K, m, pu, bb, z, sv, cl, pr, hN, hC, hM⟩
  · have h02 := bh_sc0 hh h0 fT
    exact bh_qy hR (v := (-2 : Int64)) (by unfold f_X9_some; rw [c_isKindN rfl h0 _, ob_s, bh_i0]; rfl) (by unfold f_X10_some; rw [lt_r, m_isChN h02 _ _ _, ob_s, bh_i0]; rfl) (bh_Fr _ _) (bh_thr G)
  have hM2 := bh_scM hN hM fT
  have hV := hN.2.1
  have h45 := bh_N45 hV
  have hbC := hV.1
  have hbR := hV.2.1
  have hbE := hV.2.2.1
  have hbK := hV.2.2.2.1
  have hbm := hN.2.2.1
  have hp := hN.2.2.2.2.2.2.2
  have e6 : gI G (nw G + 1) 6 = nI (C * R * E) := by rw [hC.2.1.2.1.1, hV.2.2.2.2.2.2.1]
  obtain ⟨f0, f1, f2, -⟩ := hC.2.1.1
  have hRE : R * E ≤ 3 * 5 := Nat.mul_le_mul hbR.2 hbE.2
  rcases bh_cls (x := x1) (p := fun j => j < 3) with ⟨k, hk, rfl⟩ | nk
  rotate_left
  · exact bh_qy hR (v := (-2 : Int64)) (by unfold f_X9_some; rw [c_isKind0 rfl hN hC nk, ob_s, bh_i0]; rfl) (by unfold f_X10_some; rw [lt_r, m_isCh0 hN hM2 (fun q => nk q.1), ob_s, bh_i0]; rfl) (bh_Fr _ _) (bh_thr G)
  by_cases hk1 : k = 1
  · subst hk1
    refine bh_qy hR (v := (-2 : Int64)) (G1 := G) (G2 := sI G 186 0 0) (by unfold f_X9_some; rw [c_isKind1 rfl hN hC hk, ob_s, bh_i1, if_pos (by decide)]; rfl) ?_ (bh_Fr _ _) fT
    unfold f_X10_some
    by_cases hg : (∃ j, j < 3 ∧ nI 1 = nI j) ∧ (∃ j, j < C * R * E + 1 ∧ x2 = nI j) ∧ ∃ j, j < 2 ∧ x3 = nI j
    · obtain ⟨-, ⟨n, hn, rfl⟩, ⟨w, hw, rfl⟩⟩ := hg
      rw [lt_r, m_isCh1 hN hM2 hk hn hw, ob_s, bh_i1, if_pos (by decide)]; rfl
    · rw [lt_r, m_isCh0 hN hM2 hg, ob_s, bh_i0]; rfl
  have hkne : ¬ nI k = (1 : Int32) := by rw [show (1 : Int32) = nI 1 from rfl, nI_eq (by omega) (by omega)]; exact hk1
  rcases bh_cls (x := x2) (p := fun j => j < C * R * E + 1) with ⟨n, hn, rfl⟩ | nn
  rotate_left
  · exact bh_qy hR (v := (-2 : Int64)) (by unfold f_X9_some; rw [c_isKind1 rfl hN hC hk, ob_s, bh_i1, if_neg hkne, c_isTime0 rfl hN hC nn, ob_s, bh_i0]; rfl) (by unfold f_X10_some; rw [lt_r, m_isCh0 hN hM2 (fun q => nn q.2.1), ob_s, bh_i0]; rfl) (bh_Fr _ _) (bh_thr G)
  rcases bh_cls (x := x3) (p := fun j => j < 2) with ⟨w, hw, rfl⟩ | nw2
  rotate_left
  · exact bh_qy hR (v := (-2 : Int64)) (by unfold f_X9_some; rw [c_isKind1 rfl hN hC hk, ob_s, bh_i1, if_neg hkne, c_isTime1 rfl hN hC hn, ob_s, bh_i1, c_pf0 nw2, ob_s, bh_i0]; rfl) (by unfold f_X10_some; rw [lt_r, m_isCh0 hN hM2 (fun q => nw2 q.2.2), ob_s, bh_i0]; rfl) (bh_Fr _ _) (bh_thr G)
  obtain ⟨-, ⟨a, ea, la⟩, c1, c2⟩ := bh_KD_n (kind := k) hV hk (show n ≤ C * R * E by omega)
  have eL : lI (bh_SD C R E k n) = lN a := by rw [ea]; exact (lI_n a).symm
  obtain ⟨v, t9, t10⟩ := bh_told (a := a) (b := bh_ch (C * R * E) n) (by omega) c1 (by omega) (nI w)
  exact bh_qy hR (v := v) (G1 := G) (G2 := sI G 186 0 0) (by unfold f_X9_some; rw [c_isKind1 rfl hN hC hk, ob_s, bh_i1, if_neg hkne, c_isTime1 rfl hN hC hn, ob_s, bh_i1, c_pf1 hw, ob_s, bh_i1, c_strip rfl hN hC hk (by omega), ob_s, e6, c_choose h45 (by omega), ob_s, eL, t9, ob_s]) (by unfold f_X10_some; rw [lt_r, m_isCh1 hN hM2 hk hn hw, ob_s, bh_i1, if_neg hkne, m_strip hN hM2 hk hk1 (by omega), ob_s, m_all hN hM2, ob_s, bh_chE, c_choose h45 (by omega), ob_s, eL, t10, ob_s]) (bh_Fr _ _) fT
theorem q_just (x1 x2 x3 : Int32) : bh_Qy (f_X9_just x1 x2 x3) (f_X10_just x1 x2 x3) := by
  intro G hR
  have hh := bh_nwc hR
  have fT := bh_thr G
  rcases hR.2.2.2.2.1 with h0 | ⟨ln, C, R, E, K, m, pu, bb, z, sv, cl, pr, hN, hC, hM⟩
  · have h02 := bh_sc0 hh h0 fT
    exact bh_qy hR (v := (-2 : Int64)) (by unfold f_X9_just; rw [c_isKindN rfl h0 _, ob_s, bh_i0]; rfl) (by unfold f_X10_just; rw [lt_r, m_isChN h02 _ _ _, ob_s, bh_i0]; rfl) (bh_Fr _ _) (bh_thr G)
  have hM2 := bh_scM hN hM fT
  have hV := hN.2.1
  have h45 := bh_N45 hV
  have hbC := hV.1
  have hbR := hV.2.1
  have hbE := hV.2.2.1
  have hbK := hV.2.2.2.1
  have hbm := hN.2.2.1
  have hp := hN.2.2.2.2.2.2.2
  have e6 : gI G (nw G + 1) 6 = nI (C * R * E) := by rw [hC.2.1.2.1.1, hV.2.2.2.2.2.2.1]
  obtain ⟨f0, f1, f2, -⟩ := hC.2.1.1
  have hRE : R * E ≤ 3 * 5 := Nat.mul_le_mul hbR.2 hbE.2
  rcases bh_cls (x := x1) (p := fun j => j < 3) with ⟨k, hk, rfl⟩ | nk
  rotate_left
  · exact bh_qy hR (v := (-2 : Int64)) (by unfold f_X9_just; rw [c_isKind0 rfl hN hC nk, ob_s, bh_i0]; rfl) (by unfold f_X10_just; rw [lt_r, m_isCh0 hN hM2 (fun q => nk q.1), ob_s, bh_i0]; rfl) (bh_Fr _ _) (bh_thr G)
  by_cases hk1 : k = 1
  · subst hk1
    refine bh_qy hR (v := (-2 : Int64)) (G1 := G) (G2 := sI G 186 0 0) (by unfold f_X9_just; rw [c_isKind1 rfl hN hC hk, ob_s, bh_i1, if_pos (by decide)]; rfl) ?_ (bh_Fr _ _) fT
    unfold f_X10_just
    by_cases hg : (∃ j, j < 3 ∧ nI 1 = nI j) ∧ (∃ j, j < C * R * E + 1 ∧ x2 = nI j) ∧ ∃ j, j < 2 ∧ x3 = nI j
    · obtain ⟨-, ⟨n, hn, rfl⟩, ⟨w, hw, rfl⟩⟩ := hg
      rw [lt_r, m_isCh1 hN hM2 hk hn hw, ob_s, bh_i1, if_pos (by decide)]; rfl
    · rw [lt_r, m_isCh0 hN hM2 hg, ob_s, bh_i0]; rfl
  have hkne : ¬ nI k = (1 : Int32) := by rw [show (1 : Int32) = nI 1 from rfl, nI_eq (by omega) (by omega)]; exact hk1
  rcases bh_cls (x := x2) (p := fun j => j < C * R * E + 1) with ⟨n, hn, rfl⟩ | nn
  rotate_left
  · exact bh_qy hR (v := (-2 : Int64)) (by unfold f_X9_just; rw [c_isKind1 rfl hN hC hk, ob_s, bh_i1, if_neg hkne, c_isTime0 rfl hN hC nn, ob_s, bh_i0]; rfl) (by unfold f_X10_just; rw [lt_r, m_isCh0 hN hM2 (fun q => nn q.2.1), ob_s, bh_i0]; rfl) (bh_Fr _ _) (bh_thr G)
  by_cases hn0 : n = 0
  · subst hn0
    refine bh_qy hR (v := (-2 : Int64)) (G1 := G) (G2 := sI G 186 0 0) (by unfold f_X9_just; rw [c_isKind1 rfl hN hC hk, ob_s, bh_i1, if_neg hkne, c_isTime1 rfl hN hC hn, ob_s, bh_i1, if_pos (show nI 0 = (0 : Int32) from rfl)]; rfl) ?_ (bh_Fr _ _) fT
    unfold f_X10_just
    by_cases hg : (∃ j, j < 3 ∧ nI k = nI j) ∧ (∃ j, j < C * R * E + 1 ∧ nI 0 = nI j) ∧ ∃ j, j < 2 ∧ x3 = nI j
    · obtain ⟨-, -, ⟨w, hw, rfl⟩⟩ := hg
      rw [lt_r, m_isCh1 hN hM2 hk hn hw, ob_s, bh_i1, if_neg hkne, if_neg (by decide)]; rfl
    · rw [lt_r, m_isCh0 hN hM2 hg, ob_s, bh_i0]; rfl
  have hn0i : ¬ nI n = (0 : Int32) := nI_ne0 (by omega) (by omega)
  rcases bh_cls (x := x3) (p := fun j => j < 2) with ⟨w, hw, rfl⟩ | nw2
  rotate_left
  · exact bh_qy hR (v := (-2 : Int64)) (by unfold f_X9_just; rw [c_isKind1 rfl hN hC hk, ob_s, bh_i1, if_neg hkne, c_isTime1 rfl hN hC hn, ob_s, bh_i1, if_neg hn0i, c_pf0 nw2, ob_s, bh_i0]; rfl) (by unfold f_X10_just; rw [lt_r, m_isCh0 hN hM2 (fun q => nw2 q.2.2), ob_s, bh_i0]; rfl) (bh_Fr _ _) (bh_thr G)
  obtain ⟨-, -, c1, c2⟩ := bh_KD_n (kind := k) hV hk (show n ≤ C * R * E by omega)
  obtain ⟨a, ea, la⟩ := bh_JD_n (kind := k) hV (show n ≤ C * R * E by omega) hn0
  have hm1 : nI n - (1 : Int32) = nI (n - 1) := pk_sub (b := 1) (by omega)
  have eL : lI (bh_SD C R E k n) * lN n - lI (bh_SD C R E k (n - 1)) * lN (C * R * E - n + 1) = lN a := by
    rw [lI_n n, lI_n (C * R * E - n + 1), lI_n a, ← ea]
    show Int64.ofInt _ * Int64.ofInt _ - Int64.ofInt _ * Int64.ofInt _ = Int64.ofInt _
    rw [Int64.ofInt_sub, Int64.ofInt_mul, Int64.ofInt_mul]
  have cb1 : 1 * 1 ≤ bh_ch (C * R * E) n * n := Nat.mul_le_mul c1 (by omega)
  have cb2 : bh_ch (C * R * E) n * n ≤ 8796093022208 * 45 := Nat.mul_le_mul (by omega) (by omega)
  obtain ⟨v, t9, t10⟩ := bh_told (a := a) (b := bh_ch (C * R * E) n * n) (by omega) (by omega) (by omega) (nI w)
  have hle1 : (1 : Int32) ≤ nI n := nI_le (a := 1) (by omega) (by omega)
  exact bh_qy hR (v := v) (G1 := G) (G2 := sI G 186 0 0) (by unfold f_X9_just; rw [c_isKind1 rfl hN hC hk, ob_s, bh_i1, if_neg hkne, c_isTime1 rfl hN hC hn, ob_s, bh_i1, if_neg hn0i, c_pf1 hw, ob_s, bh_i1, c_strip rfl hN hC hk (by omega), ob_s, hm1, c_strip rfl hN hC hk (by omega), ob_s, e6, nI_l (by omega), pk_sub (by omega), nI_1, nI_l (by omega), eL, lt_r, c_choose h45 (by omega), ob_s, lN_mul, t9, ob_s]) (by unfold f_X10_just; rw [lt_r, m_isCh1 hN hM2 hk hn hw, ob_s, bh_i1, if_neg hkne, if_pos hle1, m_strip hN hM2 hk hk1 (by omega), ob_s, hm1, m_strip hN hM2 hk hk1 (by omega), ob_s, m_all hN hM2, ob_s, nI_l (by omega), pk_sub (by omega), nI_1, nI_l (by omega), eL, lt_r, m_all hN hM2, ob_s, bh_chE, c_choose h45 (by omega), ob_s, lN_mul, t10, ob_s]) (bh_Fr _ _) fT
theorem q_likely (x1 x2 x3 : Int32) : bh_Qy (f_X9_likely x1 x2 x3) (f_X10_likely x1 x2 x3) := by
  intro G hR
  have hh := bh_nwc hR
  have fT := bh_thr G
  rcases hR.2.2.2.2.1 with h0 | ⟨ln, C, R, E, K, m, pu, bb, z, sv, cl, pr, hN, hC, hM⟩
  · have h02 := bh_sc0 hh h0 fT
    exact bh_qy hR (v := (-2 : Int32)) (by unfold f_X9_likely; rw [c_isKindN rfl h0 _, ob_s, bh_i0]) (by unfold f_X10_likely; rw [lt_r, m_noHall h02, ob_s, bh_i0]) (bh_Fr _ _) (bh_thr G)
  have hM2 := bh_scM hN hM fT
  have hV := hN.2.1
  have h45 := bh_N45 hV
  have hbC := hV.1
  have hbR := hV.2.1
  have hbE := hV.2.2.1
  have hbK := hV.2.2.2.1
  have hbm := hN.2.2.1
  have hp := hN.2.2.2.2.2.2.2
  rcases bh_cls (x := x1) (p := fun j => j < 3) with ⟨k, hk, rfl⟩ | nk
  rotate_left
  · exact bh_qy hR (v := (-2 : Int32)) (by unfold f_X9_likely; rw [c_isKind0 rfl hN hC nk, ob_s, bh_i0]) (by unfold f_X10_likely; rw [lt_r, m_isHall hN hM2, ob_s, bh_i1, m_isKind0 nk _, ob_s, bh_i0]) (bh_Fr _ _) (bh_thr G)
  have e6 : gI G (nw G + 1) 6 = nI (C * R * E) := by rw [hC.2.1.2.1.1, hV.2.2.2.2.2.2.1]
  by_cases hk1 : k = 1
  · subst hk1
    exact bh_qy hR (v := (-2 : Int32)) (by unfold f_X9_likely; rw [c_isKind1 rfl hN hC hk, ob_s, bh_i1, if_pos (by decide)]) (by unfold f_X10_likely; rw [lt_r, m_isHall hN hM2, ob_s, bh_i1, m_isKind1 hk _, ob_s, bh_i1, if_pos (by decide)]) (bh_Fr _ _) fT
  have hkne : ¬ nI k = (1 : Int32) := by rw [show (1 : Int32) = nI 1 from rfl, nI_eq (by omega) (by omega)]; exact hk1
  rcases bh_cls (x := x2) (p := fun j => j < 1001) with ⟨a, ha, rfl⟩ | na
  rotate_left
  · exact bh_qy hR (v := (-2 : Int32)) (by unfold f_X9_likely; rw [c_isKind1 rfl hN hC hk, ob_s, bh_i1, if_neg hkne, show (1000 : Int32) = nI 1000 from rfl, pB0 (n := 1000) (by omega) na]) (by unfold f_X10_likely; rw [lt_r, m_isHall hN hM2, ob_s, bh_i1, m_isKind1 hk _, ob_s, bh_i1, if_neg hkne, m_in0 (l := 0) (b := 1000) (by decide) (by decide) (fun j _ _ h he => na ⟨j, by omega, he⟩), ob_s, bh_i0]) (bh_Fr _ _) (bh_thr G)
  rcases bh_cls (x := x3) (p := fun j => 1 ≤ j ∧ j < 1001) with ⟨b, hb, rfl⟩ | nb
  rotate_left
  · refine bh_qy hR (v := (-2 : Int32)) (G1 := G) (G2 := sI G 186 0 0) ?_ (by unfold f_X10_likely; rw [lt_r, m_isHall hN hM2, ob_s, bh_i1, m_isKind1 hk _, ob_s, bh_i1, if_neg hkne, m_in1 (l := 0) (b := 1000) (by omega) (by decide) (by decide) (by omega) (by omega), ob_s, bh_i1, m_in0 (l := 1) (b := 1000) (by decide) (by decide) (fun j _ h1 h he => nb ⟨j, by omega, he⟩), ob_s, bh_i0]) (bh_Fr _ _) fT
    unfold f_X9_likely
    rw [c_isKind1 rfl hN hC hk, ob_s, bh_i1, if_neg hkne, show (1000 : Int32) = nI 1000 from rfl, pB1 (n := 1000) ha (by omega)]
    by_cases h1 : x3 < (1 : Int32)
    · rw [if_pos h1]
    · have h0 : ¬ x3 < 0 := fun h => h1 (Int32.lt_trans h (by decide))
      obtain ⟨j, hj, rfl⟩ := nI_of h0
      have hj1 : 1 ≤ j := by
        rw [show (1 : Int32) = nI 1 from rfl, nI_ltI hj (by omega)] at h1; omega
      rw [if_neg h1, if_neg (by rw [nI_leI hj (by omega)]; exact fun h => nb ⟨j, ⟨hj1, by clear nb; omega⟩, rfl⟩)]
  obtain ⟨t, t1, t2, t3⟩ := bh_fd (fun i => lg_cmp (lI (bh_SD C R E k i) * (nI b).toInt64) ((nI a).toInt64 * lN (bh_ch (C * R * E) i)) < 0) (C * R * E + 1)
  refine bh_qy hR (v := if t < C * R * E + 1 then nI t else -1) (G1 := G) (G2 := sI G 186 0 0) ?_ ?_ (bh_Fr _ _) fT
  · unfold f_X9_likely
    rw [c_isKind1 rfl hN hC hk, ob_s, bh_i1, if_neg hkne, show (1000 : Int32) = nI 1000 from rfl, pB1 (n := 1000) ha (by omega), if_neg (show ¬ nI b < (1 : Int32) from nI_nlt (b := 1) hb.1 (by omega)), if_pos (nI_le (by omega) (by omega))]
    refine wl1_up (P := fun o => o = some (if t < C * R * E + 1 then nI t else -1, G)) (I := fun i G' => G' = G ∧ i ≤ t) (N := C * R * E + 1) (by omega) ?_ (n := FU) (i := 0) (Nat.zero_le _) ⟨rfl, Nat.zero_le _⟩ (by unfold FU; omega)
    rintro kc i G' hi' ⟨rfl, hit⟩ hkc
    unfold lp_X9_likely_42
    rw [e6]
    by_cases hi : i < C * R * E + 1
    · rw [if_neg (nI_nlt (by omega) (by omega)), c_strip rfl hN hC hk (by omega), ob_s, e6, c_choose h45 (by omega), ob_s]
      by_cases hc : lg_cmp (lI (bh_SD C R E k i) * (nI b).toInt64) ((nI a).toInt64 * lN (bh_ch (C * R * E) i)) < 0
      · have hne : i ≠ t := fun h => t3 (by omega) (by rw [← h]; exact hc)
        rw [if_pos hc, nI_1]
        exact hkc hi _ ⟨rfl, by omega⟩
      · have he : i = t := Nat.le_antisymm hit (Nat.le_of_not_lt fun h => hc (t2 i h))
        rw [if_neg hc, ← he, if_pos hi]
    · rw [if_pos (nI_lt (by omega) (by omega)), if_neg (by omega)]
  · unfold f_X10_likely
    rw [lt_r, m_isHall hN hM2, ob_s, bh_i1, m_isKind1 hk _, ob_s, bh_i1, if_neg hkne, m_in1 (l := 0) (b := 1000) (by omega) (by decide) (by decide) (by omega) (by omega), ob_s, bh_i1, m_in1 (l := 1) (b := 1000) (by omega) (by decide) (by decide) (by omega) (by omega), ob_s, bh_i1]
    refine wl1_up (P := fun o => o = some (if t < C * R * E + 1 then nI t else -1, sI G 186 0 0)) (I := fun i G' => G' = sI G 186 0 0 ∧ i ≤ t) (N := C * R * E + 1) (by omega) ?_ (n := FU) (i := 0) (Nat.zero_le _) ⟨rfl, Nat.zero_le _⟩ (by unfold FU; omega)
    rintro kc i G' hi' ⟨rfl, hit⟩ hkc
    unfold lp_X10_likely_54
    rw [m_all hN hM2, ob_s]
    by_cases hi : i < C * R * E + 1
    · rw [if_neg (nI_nlt (by omega) (by omega)), m_strip hN hM2 hk hk1 (by omega), ob_s, m_all hN hM2, ob_s, bh_chE, c_choose h45 (by omega), ob_s]
      by_cases hc : lg_cmp (lI (bh_SD C R E k i) * (nI b).toInt64) ((nI a).toInt64 * lN (bh_ch (C * R * E) i)) < 0
      · have hne : i ≠ t := fun h => t3 (by omega) (by rw [← h]; exact hc)
        rw [if_pos hc, nI_1]
        exact hkc hi _ ⟨rfl, by omega⟩
      · have he : i = t := Nat.le_antisymm hit (Nat.le_of_not_lt fun h => hc (t2 i h))
        rw [if_neg hc, ← he, if_pos hi]
    · rw [if_pos (nI_lt (by omega) (by omega)), if_neg (by omega)]
theorem q_mean (x1 x2 : Int32) : bh_Qy (f_X9_mean x1 x2) (f_X10_mean x1 x2) := by
  intro G hR
  have hh := bh_nwc hR
  have fT := bh_thr G
  rcases hR.2.2.2.2.1 with h0 | ⟨ln, C, R, E, K, m, pu, bb, z, sv, cl, pr, hN, hC, hM⟩
  · have h02 := bh_sc0 hh h0 fT
    exact bh_qy hR (v := (-2 : Int32)) (by unfold f_X9_mean; rw [c_isTimeN rfl h0 _, ob_s, bh_i0]) (by unfold f_X10_mean; rw [lt_r, m_noHall h02, ob_s, bh_i0]) (bh_Fr _ _) (bh_thr G)
  have hM2 := bh_scM hN hM fT
  have hV := hN.2.1
  have h45 := bh_N45 hV
  have hbC := hV.1
  have hbR := hV.2.1
  have hbE := hV.2.2.1
  have hbK := hV.2.2.2.1
  have hbm := hN.2.2.1
  have hp := hN.2.2.2.2.2.2.2
  rcases bh_cls (x := x1) (p := fun j => j < C * R * E + 1) with ⟨n, hn, rfl⟩ | nn
  rotate_left
  · exact bh_qy hR (v := (-2 : Int32)) (by unfold f_X9_mean; rw [c_isTime0 rfl hN hC nn, ob_s, bh_i0]) (by unfold f_X10_mean; rw [lt_r, m_isHall hN hM2, ob_s, bh_i1, m_all hN hM2, ob_s, m_in0 (l := 1) (b := (C * R * E : Nat)) (by decide) (nI_64 (by omega)) (fun j _ h1 h he => nn ⟨j, by omega, he⟩), ob_s, bh_i0]) (bh_Fr _ _) (bh_thr G)
  have e6 : gI G (nw G + 1) 6 = nI (C * R * E) := by rw [hC.2.1.2.1.1, hV.2.2.2.2.2.2.1]
  by_cases hn0 : n = 0
  · subst hn0
    exact bh_qy hR (v := (-2 : Int32)) (by unfold f_X9_mean; rw [c_isTime1 rfl hN hC hn, ob_s, bh_i1, if_pos (show nI 0 = (0 : Int32) from rfl)]) (by unfold f_X10_mean; rw [lt_r, m_isHall hN hM2, ob_s, bh_i1, m_all hN hM2, ob_s, m_in0 (l := 1) (b := (C * R * E : Nat)) (by decide) (nI_64 (by omega)) (fun j _ h1 h he => absurd (nI_inj (by omega) (by omega) he) (by omega)), ob_s, bh_i0]) (bh_Fr _ _) fT
  have hn0i : ¬ nI n = (0 : Int32) := nI_ne0 (by omega) (by omega)
  rcases bh_cls (x := x2) (p := fun j => j < 2) with ⟨w, hw, rfl⟩ | nw2
  rotate_left
  · exact bh_qy hR (v := (-2 : Int32)) (by unfold f_X9_mean; rw [c_isTime1 rfl hN hC hn, ob_s, bh_i1, if_neg hn0i, c_pf0 nw2, ob_s, bh_i0]) (by unfold f_X10_mean; rw [lt_r, m_isHall hN hM2, ob_s, bh_i1, m_all hN hM2, ob_s, m_in1 (l := 1) (b := (C * R * E : Nat)) (by omega) (by decide) (nI_64 (by omega)) (by omega) (by omega), ob_s, bh_i1, m_in0 (l := 0) (b := 1) (by decide) (by decide) (fun j _ _ h he => nw2 ⟨j, by omega, he⟩), ob_s, bh_i0]) (bh_Fr _ _) (bh_thr G)
  have hb : n * (C * R * E + 1) ≤ 45 * 46 := Nat.mul_le_mul (by omega) (by omega)
  obtain ⟨v, t9, t10⟩ := bh_told (a := n * (C * R * E + 1)) (b := n + 1) (by omega) (by omega) (by omega) (nI w)
  exact bh_qy hR (v := v.toInt32) (G1 := G) (G2 := sI G 186 0 0) (by unfold f_X9_mean; rw [c_isTime1 rfl hN hC hn, ob_s, bh_i1, if_neg hn0i, c_pf1 hw, ob_s, bh_i1, e6, nI_1, nI_l (by omega), nI_l (by omega), lN_mul, lN_1, t9, ob_s]) (by unfold f_X10_mean; rw [lt_r, m_isHall hN hM2, ob_s, bh_i1, m_all hN hM2, ob_s, m_in1 (l := 1) (b := (C * R * E : Nat)) (by omega) (by decide) (nI_64 (by omega)) (by omega) (by omega), ob_s, bh_i1, m_in1 (l := 0) (b := 1) (by omega) (by decide) (by decide) (by omega) (by omega), ob_s, bh_i1, m_all hN hM2, ob_s, nI_1, nI_l (by omega), nI_l (by omega), lN_mul, lN_1, t10, ob_s]) (bh_Fr _ _) fT
