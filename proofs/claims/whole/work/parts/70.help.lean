/-! what questions share -/
theorem scr_a {a q : Nat} (h : 48 ≤ a ∧ a ≤ 52) : bh_SCR a q := Or.inl h
theorem scr_b {a q : Nat} (h : 71 ≤ a ∧ a ≤ 75) : bh_SCR a q := Or.inr (Or.inl h)
theorem scr_c {a q : Nat} (h : 77 ≤ a ∧ a ≤ 119) : bh_SCR a q := Or.inr (Or.inr (Or.inl h))
theorem scr_d {a q : Nat} (h : a = 186 ∧ q ≠ 6 ∧ q ≠ 14 ∧ q ≠ 15) : bh_SCR a q := Or.inr (Or.inr (Or.inr (Or.inl h)))
theorem scr_e {a q : Nat} (h : 199 ≤ a) : bh_SCR a q := Or.inr (Or.inr (Or.inr (Or.inr (Or.inl h))))
theorem bh_WS {b : Nat} (hb : b < 2) {G G' : GM} (h : bh_F (bh_WMk b) G G') : bh_F bh_SCR G G' := bh_Fm h (fun a q h => by
  rcases h with h | h | h | h
  · exact scr_d (by omega)
  · exact scr_e (by omega)
  · exact scr_e (by omega)
  · exact scr_e (by omega))
theorem bh_sc0 {G G' : GM} {h : Nat} (hh : (h = 1 ∨ h = 23)) (h0 : bh_H0 G h 0) (hF : bh_F bh_SCR G G') : bh_H0 G' h 0 := bh_H0_F h0 hF (fun a q hp => by unfold bh_PH at hp; unfold bh_SCR; omega) (fun a q hp => by unfold bh_PM at hp; unfold bh_SCR; omega)
theorem bh_scC {G G' : GM} {h ln C R E K m pu bb : Nat} {z sv cl pr : Nat → Nat} (hh : (h = 1 ∨ h = 23)) (hN : bh_HN ln C R E K m pu bb z sv cl pr) (hC : bh_HC G h ln C R E K m pu bb z sv cl pr) (hF : bh_F bh_SCR G G') : bh_HC G' h ln C R E K m pu bb z sv cl pr := bh_HC_F hN.2.2.1 hC hF (fun a q hp => by unfold bh_PH at hp; unfold bh_SCR; omega)
theorem bh_scM {G G' : GM} {ln C R E K m pu bb : Nat} {z sv cl pr : Nat → Nat} (hN : bh_HN ln C R E K m pu bb z sv cl pr) (hM : bh_HM G 0 ln C R E K m pu bb z sv cl pr) (hF : bh_F bh_SCR G G') : bh_HM G' 0 ln C R E K m pu bb z sv cl pr := bh_HM_F hN.2.2.1 (bh_N45 hN.2.1) hN.2.1.2.2.2.1.2 hM hF (fun a q hp => by unfold bh_PM at hp; unfold bh_SCR; omega)
theorem bh_nwc {G : GM} (hR : bh_R G) : nw G = 1 ∨ nw G = 23 := by
  rcases hR.2.2.2.1 with h | h
  · exact Or.inl h.1
  · exact Or.inr h.1
theorem c_deal {G : GM} {h t ln C R E K m pu bb s : Nat} {z sv cl pr : Nat → Nat} (hh : (h = 1 ∨ h = 23)) (hN : bh_HN ln C R E K m pu bb z sv cl pr) (hC : bh_HC G h ln C R E K m pu bb z sv cl pr) (hs : s < 10000) (ht : LN t = 45) (htt : (74 ≤ t ∧ t ≤ 75) ∨ (77 ≤ t ∧ t ≤ 116)) : ∃ G', f_X2_deal 47 (h + 1) (nI s) t G = some G' ∧ bh_SC G' t C R E K z s ∧ bh_F (fun a _ => (48 ≤ a ∧ a ≤ 52) ∨ a = t) G G' := by
  obtain ⟨G', e, p, F⟩ := bh_deal (d := 47) (t := t) (s := s) hN.2.1 hC.2.1 (by omega) (by decide +kernel) (by decide +kernel) (by decide +kernel) (by decide +kernel) ht (by omega) (by omega) (by omega)
  exact ⟨G', e, p, bh_Fm F (fun a q h => by omega)⟩
theorem c_TA {G : GM} {h ln C R E K m pu bb : Nat} {z sv cl pr : Nat → Nat} (hN : bh_HN ln C R E K m pu bb z sv cl pr) (hC : bh_HC G h ln C R E K m pu bb z sv cl pr) : bh_TA G (h + 21) (C * R * E) cl := bh_TA_of hN.2.2.2.2.2.2.2 fun i hi => (hC.2.2.2.2 i hi).2
theorem c_LN {h : Nat} (hh : (h = 1 ∨ h = 23)) : LN (h + 20) = 45 ∧ LN (h + 21) = 46 ∧ ∀ i, i < 8 → LN (h + 12 + i) = 45 := by
  rcases hh with rfl | rfl
  · refine ⟨by decide +kernel, by decide +kernel, fun i hi => ?_⟩
    rcases (by omega : i = 0 ∨ i = 1 ∨ i = 2 ∨ i = 3 ∨ i = 4 ∨ i = 5 ∨ i = 6 ∨ i = 7) with rfl | rfl | rfl | rfl | rfl | rfl | rfl | rfl <;> decide +kernel
  · refine ⟨by decide +kernel, by decide +kernel, fun i hi => ?_⟩
    rcases (by omega : i = 0 ∨ i = 1 ∨ i = 2 ∨ i = 3 ∨ i = 4 ∨ i = 5 ∨ i = 6 ∨ i = 7) with rfl | rfl | rfl | rfl | rfl | rfl | rfl | rfl <;> decide +kernel
theorem c_cardOf {G : GM} {h ln C R E K m pu bb s c : Nat} {z sv cl pr : Nat → Nat} (hn : nw G = h) (hh : (h = 1 ∨ h = 23)) (hN : bh_HN ln C R E K m pu bb z sv cl pr) (hC : bh_HC G h ln C R E K m pu bb z sv cl pr) (hs : s < 10000) (hc : c < C) : ∃ G', f_X9_cardOf (nI s) (nI c) G = some (71, G') ∧ bh_VW G' R E K (bh_T C R E K z s cl c) ∧ bh_F bh_SCR G G' := by
  unfold f_X9_cardOf
  rw [hn]
  obtain ⟨G1, e1, p1, F1⟩ := c_deal hh hN hC hs (t := 74) (by decide +kernel) (by omega)
  have FF1 : bh_F bh_SCR G G1 := bh_Fm F1 (fun a q h => h.elim scr_a (fun h => scr_b (by omega)))
  have hC1 := bh_scC hh hN hC FF1
  obtain ⟨G2, e2, p2, F2⟩ := bh_look (t := 74) (ta := h + 21) (c := c) hN.2.1 hC1.2.1 p1 hN.2.2.2.2.2.2.2 (c_TA hN hC1) hc (by decide +kernel) (c_LN hh).2.1 (by omega) (by omega) (by omega)
  rw [e1, ov_s, F1.2.2.1, hn, e2, ov_s]
  exact ⟨G2, rfl, p2, bh_Ft FF1 (bh_Fm F2 (fun a q h => scr_b (by omega)))⟩
theorem c_soldCard {G : GM} {h ta ln C R E K m pu bb i c : Nat} {z sv cl cl' pr : Nat → Nat} (hn : nw G = h) (hh : (h = 1 ∨ h = 23)) (hN : bh_HN ln C R E K m pu bb z sv cl pr) (hC : bh_HC G h ln C R E K m pu bb z sv cl pr) (hi : i < m) (hc : c < C) (hp : bh_prm (C * R * E) 1 cl') (hT : bh_TA G ta (C * R * E) cl') (hta : LN ta = 46) (htt : ta < 71 ∨ 76 < ta) : ∃ G', f_X9_soldCard (nI i) (nI c) ta G = some (71, G') ∧ bh_VW G' R E K (bh_T C R E K z (sv i) cl' c) ∧ bh_F (fun a _ => a = 71 ∨ a = 72) G G' := by
  have hm := hN.2.2.1
  unfold f_X9_soldCard
  rw [c_isPlace1 hn hN hC hi, ob_s, bh_i1, inb_n (by omega) (by omega), gd_t, nI_clamp (by omega), hn]
  obtain ⟨G2, e2, p2, F2⟩ := bh_look (t := h + 12 + i) (ta := ta) (c := c) hN.2.1 hC.2.1 (hC.2.2.2.1 i hi).2 hp hT hc ((c_LN hh).2.2 i (by omega)) hta (by omega) (by omega) (by omega)
  rw [e2, ov_s]
  exact ⟨G2, rfl, p2, F2⟩
theorem m_makes {G : GM} {ln C R E K m pu bb s : Nat} {z sv cl pr : Nat → Nat} (hN : bh_HN ln C R E K m pu bb z sv cl pr) (hM : bh_HM G 0 ln C R E K m pu bb z sv cl pr) (hs : s < 10000) : ∃ G', f_X10_makes (0 : Int32) (nI s) (0 : Int32) G = some G' ∧ bh_SM G' 0 C R E K z s ∧ gI G' 186 36 = nI (bh_dV s (bh_np C R E K z)) ∧ bh_F (bh_WMk 0) G G' := bh_makes (w := 0) (b := 0) hN.2.1 hM.2.1 (by omega) (by omega) (by omega)
theorem m_makes1 {G : GM} {ln C R E K m pu bb s : Nat} {z sv cl pr : Nat → Nat} (hN : bh_HN ln C R E K m pu bb z sv cl pr) (hM : bh_HM G 0 ln C R E K m pu bb z sv cl pr) (hs : s < 10000) : ∃ G', f_X10_makes (0 : Int32) (nI s) (1 : Int32) G = some G' ∧ bh_SM G' 1 C R E K z s ∧ bh_F (bh_WMk 1) G G' := by
  obtain ⟨G', e, p, -, F⟩ := bh_makes (G := G) (w := 0) (b := 1) (s := s) hN.2.1 hM.2.1 (by omega) (by omega) (by omega)
  exact ⟨G', e, p, F⟩
theorem bh_SC_at {G : GM} {t C R E K s c r k : Nat} {z : Nat → Nat} (h : bh_SC G t C R E K z s) (hc : c < C) (hr : r < R) (hk : k < K) : gI G t (bh_at R K c r k) = nI (bh_ST C R E K z s c r k) := h.1 c r k hc hr hk
theorem bh_SM_at {G : GM} {b C R E K s c r k : Nat} {z : Nat → Nat} (hV : bh_VH C R E K z) (h : bh_SM G b C R E K z s) (hc : c < C) (hr : r < R) (hk : k < K) : gI G 206 (45 * b + 15 * c + 5 * r + k) = nI (bh_ST C R E K z s c r k) := by
  obtain ⟨hC, hR, hE, hK, -⟩ := hV
  rw [h c r k (by omega) (by omega) (by omega), if_pos ⟨hc, hr, hk⟩]
