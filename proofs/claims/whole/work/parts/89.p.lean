/-! hall -/
def rd_FG (W : Nat → Nat → Prop) (G G' : GM) : Prop := (∀ a k, ¬ W a k → gI G' a k = gI G a k) ∧ ∀ a k, ¬ W a k → gJ G' a k = gJ G a k
def rd_EC (h a q : Nat) : Prop := (a = 53 ∧ q = 1) ∨ a = h + 20 ∨ a = h + 21 ∨ (a = 48 ∧ q = 0)
def rd_EX (a _q : Nat) : Prop := a = 186
def rd_EM (a q : Nat) : Prop := a = 186 ∨ 199 ≤ a ∨ bh_PM 4 a q ∨ bh_PM 0 a q
/-- what the end leaves -/
def rd_out (GF HF : GM) : Prop := gI GF 53 1 = 0 ∧ gI HF 186 6 = 0 ∧ gI GF 53 9 = gI HF 186 14 ∧ gI GF 53 10 = gI HF 186 15
def rd_0 (h : Nat) (GF HF : GM) : Prop := ((gI GF h 1 = 0 ∧ gI GF h 3 = 0 ∧ gI GF h 4 = 0 ∧ gI GF h 5 = 0) ∧ ∀ k, k < 4 → gI GF (h + 1) k = 0) ∧ gI HF 192 0 = 0 ∧ ∀ k, k < 7 → gI HF 193 (8 * 0 + k) = 0
def rd_1 (h : Nat) (GF HF : GM) : Prop := ∃ (ln C R E K m pu bb : Nat) (z sv cl pr : Nat → Nat), bh_HN ln C R E K m pu bb z sv cl pr ∧ bh_HC GF h ln C R E K m pu bb z sv cl pr ∧ bh_HM HF 0 ln C R E K m pu bb z sv cl pr
theorem m_over (H : GM) : f_X10_isOver H = some (sI (sI (sI H 186 6 0) 186 14 (gI H 186 12)) 186 15 (if gI H 186 12 = 0 then -1 else gI H 186 13)) := by
  unfold f_X10_isOver k_X10_isOver_29
  rw [lt_r, gI_sIk (by decide), lt_r, gI_sIk (by decide), gI_sIk (by decide)]
  by_cases h0 : gI H 186 12 = 0
  · rw [if_pos h0, if_pos h0, lt_r]
  · rw [if_neg h0, if_neg h0, lt_r, gI_sIk (by decide), gI_sIk (by decide)]
/-- the reference's end, a hall read well -/
theorem rd_fin0 {h : Nat} {G G3 H H2 : GM} (hD : rd_D0 h G H) (FG3 : bh_F (rd_EC h) G G3) (KO : bh_F rd_EX H H2) (hh : h = 1 ∨ h = 23) : ∃ HF, k_X10_hall_107 H2 = some (nI 0, HF) ∧ gI H2 192 4 = 0 ∧ bh_F (bh_PM 0) H2 HF ∧ rd_0 h G3 HF := by
  obtain ⟨H3, m3, hc, K3⟩ := m_copyHall (G := H2) (a := 4) (b := 0) (by omega) (by omega) (by omega)
  have y4 : gI H2 192 4 = 0 := by rw [KO.1 _ _ (by unfold rd_EX; omega)]; exact hD.2.2.2.2.1
  refine ⟨H3, ?_, y4, K3, ⟨⟨?_, ?_, ?_, ?_⟩, fun k hk => ?_⟩, hc.1.trans y4, fun k hk => ?_⟩
  · unfold k_X10_hall_107
    rw [show f_X10_copyHall (4 : Int32) (0 : Int32) H2 = some H3 from m3, ov_s, show inb (0 : Int32) 6 = true from by decide, gd_t, show (0 : Int32).toNatClampNeg = 0 from by decide, hc.1, y4]
    rfl
  · rw [FG3.1 _ _ (by unfold rd_EC; omega)]; exact hD.1.1
  · rw [FG3.1 _ _ (by unfold rd_EC; omega)]; exact hD.1.2.1
  · rw [FG3.1 _ _ (by unfold rd_EC; omega)]; exact hD.1.2.2.1
  · rw [FG3.1 _ _ (by unfold rd_EC; omega)]; exact hD.1.2.2.2.1
  · rw [FG3.1 _ _ (by unfold rd_EC; omega)]; exact hD.2.1 k hk
  · rw [hc.2.1 k (by omega), KO.1 _ _ (by unfold rd_EX; omega)]
    exact hD.2.2.2.2.2.1 k hk
theorem rd_fin1 {h ln C R E K m pu bb sd : Nat} {z sv pr : Nat → Nat} {G G3 H H2 : GM} (hh : h = 1 ∨ h = 23) (h1 : 1 ≤ ln ∧ ln ≤ 800) (hN : rd_DN C R E K m pu bb sd z sv pr) (hDC : rd_DC G h ln C R E K m pu bb sd z sv pr) (hDM : rd_DM H ln C R E K m pu bb sd z sv pr) (FG3 : bh_F (rd_EC h) G G3) (KO : bh_F rd_EX H H2) (a1 : ∀ i, i < C * R * E → gI G3 (h + 20) i = nI (bh_mx0 (C * R * E) 1 sd i)) (a3 : ∀ i, i < C * R * E → gI G3 (h + 21) (bh_mx0 (C * R * E) 1 sd i) = nI (i + 1)) : ∃ HF, (ob (f_X10_of (4 : Int32) (7 : Int32) H2) fun r100 G100 => ov (f_X10_callsBy (4 : Int32) (r100.toInt64) G100) fun G104 => (k_X10_hall_107 G104)) = some (nI ln, HF) ∧ gI H2 192 4 = nI ln ∧ bh_F (fun a q => (a = 186 ∧ q = 33) ∨ a = 205 ∨ (a = 197 ∧ 180 ≤ q ∧ q < 225) ∨ bh_PM 0 a q) H2 HF ∧ rd_1 h G3 HF := by
  have hV := hN.1
  have hm := hN.2.1
  have hK := hV.2.2.2.1.2
  have hN45 := bh_N45 hV
  have hsd := hN.2.2.2.2.2.2
  have hp := bh_mx0_prm (C * R * E) 1 sd
  have hM2 := rd_DM_F hm hK hDM KO (fun a q h1 h2 => by unfold rd_EX at h2; unfold bh_PM at h1; omega)
  obtain ⟨H3, m3, q3, K3⟩ := m_callsBy (G := H2) (w := 4) (N := C * R * E) (X := sd) (by omega) hN45 (by omega) (fun G' F => bh_numOf (bh_MO_F hM2.2.1 F (fun q _ _ h => by omega) (fun q _ _ h => by omega) hK) (by omega))
  have hM3 := rd_DM_F hm hK hM2 K3 (fun a q h1 h2 => by unfold bh_PM at h1; omega)
  have hHM : bh_HM H3 4 ln C R E K m pu bb z sv (bh_mx0 (C * R * E) 1 sd) pr := ⟨⟨hM3.1.1, hM3.1.2.1, hM3.1.2.2.1, hM3.1.2.2.2.1⟩, hM3.2.1, hM3.2.2.1, hM3.2.2.2, q3⟩
  obtain ⟨H4, m4, hc, K4⟩ := m_copyHall (G := H3) (a := 4) (b := 0) (by omega) (by omega) (by omega)
  have K3' : bh_F (fun a q => (a = 186 ∧ q = 33) ∨ a = 205 ∨ (a = 197 ∧ 180 ≤ q ∧ q < 225) ∨ bh_PM 0 a q) H2 H3 := bh_Fm K3 (fun a q hq => by
    rcases hq with hq | hq | hq
    · exact Or.inl hq
    · exact Or.inr (Or.inl hq)
    · exact Or.inr (Or.inr (Or.inl ⟨hq.1, hq.2.1, hq.2.2⟩)))
  refine ⟨H4, ?_, hM2.1.1, bh_Ft K3' (bh_Fm K4 (fun a q hq => Or.inr (Or.inr (Or.inr hq)))), ln, C, R, E, K, m, pu, bb, z, sv, bh_mx0 (C * R * E) 1 sd, pr, ⟨⟨h1.1, by omega⟩, hV, hm, hN.2.2.1, hN.2.2.2.1, hN.2.2.2.2.1, hN.2.2.2.2.2.1, hp⟩, ⟨⟨?_, ?_, ?_, ?_⟩, bh_FO_F hDC.2.1 FG3 (fun a q h1 h2 => by unfold rd_EC; omega), fun k hk => ?_, fun i hi => ⟨?_, bh_SC_F (hDC.2.2.2 i hi).2 FG3 (fun q => by unfold rd_EC; omega)⟩, fun i hi => ⟨a1 i hi, a3 i hi⟩⟩, bh_HM_cp hm hN45 hK hHM hc⟩
  · rw [show f_X10_of (4 : Int32) (7 : Int32) H2 = some (gI H2 193 39, H2) from bh_of (w := 4) (j := 7) (by omega) (by omega) H2, ob_s, hM2.1.2.2.2.2, nI_l (by omega)]
    rw [show f_X10_callsBy (4 : Int32) (lN sd) H2 = some H3 from m3, ov_s]
    unfold k_X10_hall_107
    rw [show f_X10_copyHall (4 : Int32) (0 : Int32) H3 = some H4 from m4, ov_s, show inb (0 : Int32) 6 = true from by decide, gd_t, show (0 : Int32).toNatClampNeg = 0 from by decide, hc.1, hM3.1.1]
  · rw [FG3.1 _ _ (by unfold rd_EC; omega)]; exact hDC.1.1
  · rw [FG3.1 _ _ (by unfold rd_EC; omega)]; exact hDC.1.2.1
  · rw [FG3.1 _ _ (by unfold rd_EC; omega)]; exact hDC.1.2.2.1
  · rw [FG3.1 _ _ (by unfold rd_EC; omega)]; exact hDC.1.2.2.2.1
  · rw [FG3.1 _ _ (by unfold rd_EC; omega)]; exact hDC.2.2.1 k hk
  · rw [FG3.1 _ _ (by unfold rd_EC; omega)]; exact (hDC.2.2.2 i hi).1
/-- the class's end, a hall read well -/
theorem rd_finC {h N sd w : Nat} {G : GM} (hh : h = 1 ∨ h = 23) (hnx : nx G = h) (hnw : nw G = w) (c9 : gI G 53 9 = 0) (hN45 : N ≤ 45) (hsd : sd ≤ 99999) (e6 : gI G (h + 1) 6 = nI N) (e8 : gI G 53 8 = nI sd) : ∃ G3, k_X9_hall_47 G = some (gI G3 h 1, sNx (sNw G3 h) w) ∧ bh_F (rd_EC h) G G3 ∧ gI G3 53 1 = 0 ∧ (∀ i, i < N → gI G3 (h + 20) i = nI (bh_mx0 N 1 sd i)) ∧ ∀ i, i < N → gI G3 (h + 21) (bh_mx0 N 1 sd i) = nI (i + 1) := by
  have FA : bh_F (fun a q => a = 53 ∧ q = 1) G (sI G 53 1 0) := bh_FI (bh_Fr _ _) ⟨rfl, rfl⟩
  have hx : nx (sI G 53 1 0) = h := hnx
  have s1 : gI (sI G 53 1 0) 53 1 = 0 := gI_sIs _ _ _ _
  have e6' : gI (sI G 53 1 0) (h + 1) 6 = nI N := by rw [gI_sIa (by omega)]; exact e6
  have e8' : gI (sI G 53 1 0) 53 8 = nI sd := by rw [gI_sIk (by decide)]; exact e8
  have c9' : gI (sI G 53 1 0) 53 9 = 0 := by rw [gI_sIk (by decide)]; exact c9
  unfold k_X9_hall_47
  rw [lt_r]
  generalize sI G 53 1 0 = G0 at *
  obtain ⟨G1, e1, a1, F1⟩ := c_mixCalls (G := G0) (d := 47) (f := h + 1) (v := h + 20) (X := sd) e6' hN45 (c_LN hh).1 (by omega) (by omega)
  have hp := bh_mx0_prm N 1 sd
  have n1 : nx G1 = h := F1.2.2.2.trans hx
  obtain ⟨G3, e3, a3, F3⟩ := c_note5 (G := G1) (h := h) ⟨(c_LN hh).1, (c_LN hh).2.1⟩ (by rw [F1.1 _ _ (by omega)]; exact e6') hN45 hp a1
  have FG3 : bh_F (rd_EC h) G G3 := bh_Ft (bh_Ft (bh_Fm FA (fun a q hq => Or.inl hq)) (bh_Fm F1 (fun a q hq => by unfold rd_EC; omega))) (bh_Fm F3 (fun a q hq => by unfold rd_EC; omega))
  have n3 : nx G3 = h := FG3.2.2.2.trans hnx
  have w3 : nw G3 = w := FG3.2.2.1.trans hnw
  refine ⟨G3, ?_, FG3, ?_, fun i hi => ?_, a3⟩
  · rw [if_pos c9', hx, e8', e1, ov_s, n1, e3, ov_s, n3, w3, lt_r, lt_r]
    rfl
  · rw [F3.1 _ _ (by omega), F1.1 _ _ (by omega)]; exact s1
  · rw [F3.1 _ _ (by omega)]; exact a1 i hi
theorem rd_fin {h n w : Nat} {G H : GM} (hh : h = 1 ∨ h = 23) (hnx : nx G = h) (hnw : nw G = w) (hE : rd_X n G H ∨ ∃ ln a' p' t', ln ≤ 800 ∧ rd_G n a' p' t' G H ∧ rd_DD h ln G H) : ∃ v GF HF, k_X9_hall_47 G = some (v, GF) ∧ k_X10_hall_71 H = some (v, HF) ∧ rd_FG (rd_EC h) G GF ∧ bh_F rd_EM H HF ∧ rd_out GF HF ∧ ((nw GF = w ∧ nx GF = h ∧ bh_F rd_EX H HF) ∨ (nw GF = h ∧ nx GF = w ∧ (rd_0 h GF HF ∨ rd_1 h GF HF))) := by
  obtain ⟨H2, mo, KO, k12, k6, k14, k15⟩ : ∃ H2, f_X10_isOver H = some H2 ∧ bh_F rd_EX H H2 ∧ gI H2 186 12 = gI H 186 12 ∧ gI H2 186 6 = 0 ∧ gI H2 186 14 = gI H 186 12 ∧ gI H2 186 15 = if gI H 186 12 = 0 then -1 else gI H 186 13 :=
    ⟨_, m_over H, bh_FI (bh_FI (bh_FI (bh_Fr _ _) rfl) rfl) rfl, by rw [gI_sIk (by decide), gI_sIk (by decide), gI_sIk (by decide)], by rw [gI_sIk (by decide), gI_sIk (by decide), gI_sIs], by rw [gI_sIk (by decide), gI_sIs], gI_sIs _ _ _ _⟩
  unfold k_X10_hall_71
  rw [mo, ov_s, k12, show inb (4 : Int32) 6 = true from by decide, gd_t, show (4 : Int32).toNatClampNeg = 4 from by decide]
  rcases hE with hX | ⟨ln, a, p, t, hln, hG, hDD⟩
  · obtain ⟨f, s, hB, x1, x2⟩ := hX
    have FA : bh_F (fun a q => a = 53 ∧ q = 1) G (sI G 53 1 0) := bh_FI (bh_Fr _ _) ⟨rfl, rfl⟩
    refine ⟨-4, sI G 53 1 0, H2, ?_, ?_, ⟨fun a k hk => FA.1 _ _ (fun hq => hk (Or.inl hq)), fun a k hk => FA.2.1 _ _ (fun hq => hk (Or.inl hq))⟩, bh_Fm KO (fun a q hq => Or.inl hq), ⟨gI_sIs _ _ _ _, k6, ?_, ?_⟩, Or.inl ⟨hnw, hnx, KO⟩⟩
    · unfold k_X9_hall_47
      rw [lt_r, gI_sIk (by decide), hB.1.1, if_neg hB.1.2]
    · rw [x1, if_neg hB.1.2]
    · rw [k14, gI_sIk (by decide), hB.1.1, x1]
    · rw [k15, gI_sIk (by decide), x1, if_neg hB.1.2, hB.2.1, x2]
  · obtain ⟨-, -, c9, m12, c10, m13⟩ := hG
    rw [m12, if_pos rfl] at k15
    rw [if_pos m12]
    have fin : ∀ (G3 HF : GM) (v : Int32), k_X9_hall_47 G = some (gI G3 h 1, sNx (sNw G3 h) w) → gI G3 h 1 = v → bh_F (rd_EC h) G G3 → gI G3 53 1 = 0 → (if gI H2 192 4 ≤ 0 then (k_X10_hall_107 H2) else (ob (f_X10_of (4 : Int32) (7 : Int32) H2) fun r100 G100 => ov (f_X10_callsBy (4 : Int32) (r100.toInt64) G100) fun G104 => (k_X10_hall_107 G104))) = some (v, HF) → bh_F (fun a q => (a = 186 ∧ q = 33) ∨ a = 205 ∨ (a = 197 ∧ 180 ≤ q ∧ q < 225) ∨ bh_PM 0 a q) H2 HF → (rd_0 h G3 HF ∨ rd_1 h G3 HF) → ∃ v GF HF, k_X9_hall_47 G = some (v, GF) ∧ (if gI H2 192 4 ≤ 0 then (k_X10_hall_107 H2) else (ob (f_X10_of (4 : Int32) (7 : Int32) H2) fun r100 G100 => ov (f_X10_callsBy (4 : Int32) (r100.toInt64) G100) fun G104 => (k_X10_hall_107 G104))) = some (v, HF) ∧ rd_FG (rd_EC h) G GF ∧ bh_F rd_EM H HF ∧ rd_out GF HF ∧ ((nw GF = w ∧ nx GF = h ∧ bh_F rd_EX H HF) ∨ (nw GF = h ∧ nx GF = w ∧ (rd_0 h GF HF ∨ rd_1 h GF HF))) := by
      intro G3 HF v u1 u2 u3 u4 u5 u6 u7
      have k186 : ∀ q, q ≠ 33 → gI HF 186 q = gI H2 186 q := fun q hq => u6.1 _ _ (by unfold bh_PM; omega)
      have KE : bh_F rd_EM H HF := bh_Ft (bh_Fm KO (fun a q hq => Or.inl hq)) (bh_Fm u6 (fun a q hq => by
        rcases hq with hq | hq | hq | hq
        · exact Or.inl hq.1
        · exact Or.inr (Or.inl (by omega))
        · exact Or.inr (Or.inr (Or.inl (by unfold bh_PM; omega)))
        · exact Or.inr (Or.inr (Or.inr hq))))
      have o1 : gI HF 186 6 = 0 := (k186 6 (by omega)).trans k6
      have o2 : gI G3 53 9 = gI HF 186 14 := by
        rw [k186 14 (by omega), k14, m12, u3.1 _ _ (by unfold rd_EC; omega)]; exact c9
      have o3 : gI G3 53 10 = gI HF 186 15 := by
        rw [k186 15 (by omega), k15, u3.1 _ _ (by unfold rd_EC; omega)]; exact c10
      refine ⟨v, sNx (sNw G3 h) w, HF, by rw [u1, u2], u5, ⟨u3.1, u3.2.1⟩, KE, ⟨u4, o1, o2, o3⟩, Or.inr ⟨rfl, rfl, u7⟩⟩
    rcases hDD with ⟨h0, hD⟩ | ⟨h1, C, R, E, K, m, pu, bb, sd, z, sv, pr, hN, hDC, hDM⟩
    · obtain ⟨G3, u1, u3, u4, -, -⟩ := rd_finC (N := 0) (sd := 1) hh hnx hnw c9 (by omega) (by omega) hD.2.2.1 hD.1.2.2.2.2
      obtain ⟨HF, r1, r2, r3, r4⟩ := rd_fin0 hD u3 KO hh
      refine fin G3 HF (nI 0) u1 ?_ u3 u4 ?_ (bh_Fm r3 (fun a q hq => Or.inr (Or.inr (Or.inr hq)))) (Or.inl r4)
      · rw [u3.1 _ _ (by unfold rd_EC; omega)]; exact hD.1.1
      · rw [r2, if_pos (by decide), r1]
    · obtain ⟨G3, u1, u3, u4, u5, u6⟩ := rd_finC (N := C * R * E) (sd := sd) hh hnx hnw c9 (bh_N45 hN.1) hN.2.2.2.2.2.2 (by rw [hDC.2.1.2.1.1, hN.1.2.2.2.2.2.2.1]) hDC.1.2.2.2.2
      obtain ⟨HF, r1, r2, r3, r4⟩ := rd_fin1 hh ⟨h1, hln⟩ hN hDC hDM u3 KO u5 u6
      refine fin G3 HF (nI ln) u1 ?_ u3 u4 ?_ r3 (Or.inr r4)
      · rw [u3.1 _ _ (by unfold rd_EC; omega)]; exact hDC.1.1
      · rw [r2, if_neg (show ¬ nI ln ≤ (0 : Int32) from nI_ge (a := 0) (by omega) (by omega)), r1]
/-- all of it, from two states that agree on the reference's places -/
theorem rd_all {G H : GM} (hR : bh_R G) (hag : ∀ a q, 186 ≤ a → gI H a q = gI G a q) : ∃ v GF HF, f_X9_hall G = some (v, GF) ∧ f_X10_hall H = some (v, HF) ∧ rd_FG (fun a q => rd_LC (nx G) a q ∨ rd_EC (nx G) a q) G GF ∧ bh_F rd_EM H HF ∧ rd_out GF HF ∧ ((nw GF = nw G ∧ nx GF = nx G ∧ bh_F (fun a q => rd_EX a q ∨ rd_LN a q) H HF) ∨ (nw GF = nx G ∧ nx GF = nw G ∧ (rd_0 (nx G) GF HF ∨ rd_1 (nx G) GF HF))) := by
  have hx : nx G = 1 ∨ nx G = 23 := by rcases hR.2.2.2.1 with h | h <;> omega
  obtain ⟨G1, H1, n, a, p, t, e1, m1, hG1, hta, hD0, F1, K1⟩ := rd_begin (H := H) hx hR.2.1 hag
  obtain ⟨G2, H2, e2, m2, F2, K2, hE⟩ := rd_loop hx 800 (i := 0) (fc := FU) (fm := FU) (by omega) (F1.2.2.2) hG1 hta (Or.inl ⟨rfl, hD0⟩) (by unfold FU; omega) (by unfold FU; omega)
  have F12 := bh_Ft F1 F2
  have K12 : bh_F rd_EM0 H H2 := bh_Ft K1 (bh_Fm K2 (fun a q hq => Or.inl hq))
  have LE : ∀ a q, rd_EM0 a q → rd_EM a q := fun a q hq => by
    rcases hq with hq | hq
    · rcases hq with hq | hq | hq
      · exact Or.inl hq.1
      · exact Or.inr (Or.inl hq)
      · exact Or.inr (Or.inr (Or.inl hq))
    · exact Or.inl hq.1
  obtain ⟨v, GF, HF, e3, m3, FG3, K3, hout, hres⟩ := rd_fin (w := nw G) hx F12.2.2.2 F12.2.2.1 hE
  refine ⟨v, GF, HF, ?_, ?_, ⟨fun a k hk => ?_, fun a k hk => ?_⟩, bh_Ft (bh_Fm K12 LE) K3, hout, ?_⟩
  · unfold f_X9_hall
    rw [e1, ov_s, ← e3]
    exact e2
  · unfold f_X10_hall
    rw [m1 (fun G10 => wl0 FU lp_X10_hall_13 G10), m2, m3]
  · rw [FG3.1 a k (fun h => hk (Or.inr h)), F12.1 a k (fun h => hk (Or.inl h))]
  · rw [FG3.2 a k (fun h => hk (Or.inr h)), F12.2.1 a k (fun h => hk (Or.inl h))]
  · rcases hres with ⟨h1, h2, h3⟩ | hres
    · exact Or.inl ⟨h1, h2, bh_Ft (bh_Fm K12 (fun a q hq => hq.elim Or.inr (fun hq => Or.inl hq.1))) (bh_Fm h3 (fun a q hq => Or.inl hq))⟩
    · exact Or.inr hres
theorem q_hall : bh_Qy f_X9_hall f_X10_hall := by
  intro G hR
  obtain ⟨v0, GF, -, e0, -, FG0, -⟩ := rd_all hR (H := G) (fun _ _ _ => rfl)
  have hx : nx G = 1 ∨ nx G = 23 := by rcases hR.2.2.2.1 with h | h <;> omega
  have hag : ∀ a q, 186 ≤ a → gI GF a q = gI G a q := fun a q ha => FG0.1 a q (by unfold rd_LC rd_EC; omega)
  obtain ⟨v, GF', HF, e, m, FG, K, hout, hres⟩ := rd_all hR (H := GF) hag
  have hsame := Option.some.inj (e0.symm.trans e)
  have hv : v0 = v := congrArg Prod.fst hsame
  have hg : GF = GF' := congrArg Prod.snd hsame
  subst hg
  subst hv
  refine ⟨v0, GF, HF, e, m, ?_⟩
  -- one frame from the start to the end, but for which hall is which
  have hagJ : ∀ a q, 186 ≤ a → gJ GF a q = gJ G a q := fun a q ha => FG.2 a q (by unfold rd_LC rd_EC; omega)
  have tot : ∀ {W : Nat → Nat → Prop}, bh_F W GF HF → (∀ a q, W a q → 186 ≤ a) → bh_F (fun a q => rd_LC (nx G) a q ∨ rd_EC (nx G) a q ∨ W a q) G (sNx (sNw HF (nw G)) (nx G)) := fun {W} hK hW => ⟨fun a k hk => by
    show gI HF a k = _
    rw [hK.1 a k (fun h => hk (Or.inr (Or.inr h))), FG.1 a k (fun h => h.elim (fun h => hk (Or.inl h)) (fun h => hk (Or.inr (Or.inl h))))], fun a k hk => by
    show gJ HF a k = _
    rw [hK.2.1 a k (fun h => hk (Or.inr (Or.inr h))), FG.2 a k (fun h => h.elim (fun h => hk (Or.inl h)) (fun h => hk (Or.inr (Or.inl h))))], rfl, rfl⟩
  have W1 : ∀ a q, rd_EM a q → 186 ≤ a := fun a q h => by unfold rd_EM bh_PM at h; omega
  have T := tot K W1
  have dC : ∀ a q, 186 > a → gI HF a q = gI GF a q := fun a q ha => K.1 a q (fun h => by have := W1 a q h; omega)
  have rRS : RS HF := by
    have : RS (sNx (sNw HF (nw G)) (nx G)) := bh_RS_F hR.1 T (fun a q h => by unfold rd_LC rd_EC rd_EM bh_PM; omega)
    exact this
  have rRT : RT HF := ⟨0, by omega, by rw [dC _ _ (by omega)]; exact hout.1, hout.2.1, fun i hi => absurd hi (Nat.not_lt_zero _)⟩
  have rRF : RF HF := ⟨by rw [dC _ _ (by omega)]; exact hout.2.2.1, by rw [dC _ _ (by omega)]; exact hout.2.2.2⟩
  have rim : ∀ k, k < 3 → (gI HF 46 k = 0 ∧ gI HF 198 k = 0) ∨ (gI HF 46 k = 1 ∧ gI HF 198 k = 1 ∧ bh_HR HF (120 + 22 * k) (1 + k)) := fun k hk => by
    have i46 : gI HF 46 k = gI G 46 k := T.1 46 k (by unfold rd_LC rd_EC rd_EM bh_PM; omega)
    have i198 : gI HF 198 k = gI G 198 k := T.1 198 k (by unfold rd_LC rd_EC rd_EM bh_PM; omega)
    rw [i46, i198]
    rcases hR.2.2.2.2.2 k hk with h | ⟨g1, g2, g3⟩
    · exact Or.inl h
    · refine Or.inr ⟨g1, g2, ?_⟩
      have : bh_HR (sNx (sNw HF (nw G)) (nx G)) (120 + 22 * k) (1 + k) := bh_HR_F g3 T (fun a q h => by unfold bh_PH at h; unfold rd_LC rd_EC rd_EM bh_PM; omega) (fun a q h => by unfold bh_PM at h; unfold rd_LC rd_EC rd_EM bh_PM; omega)
      exact this
  have nwH : nw HF = nw GF := K.2.2.1
  have nxH : nx HF = nx GF := K.2.2.2
  refine ⟨rRS, rRT, rRF, ?_, ?_, rim⟩
  · rw [nwH, nxH]
    rcases hres with ⟨h1, h2, -⟩ | ⟨h1, h2, -⟩
    · rw [h1, h2]; exact hR.2.2.2.1
    · rw [h1, h2]
      rcases hR.2.2.2.1 with h | h <;> omega
  · rw [nwH]
    rcases hres with ⟨h1, h2, h3⟩ | ⟨h1, h2, h3⟩
    · rw [h1]
      have T2 := tot h3 (fun a q h => by unfold rd_EX rd_LN bh_PM at h; omega)
      have hnwx : nw G + 21 < nx G ∨ nx G + 21 < nw G := by rcases hR.2.2.2.1 with h | h <;> omega
      have hnw : nw G ≤ 23 := by rcases hR.2.2.2.1 with h | h <;> omega
      have : bh_HR (sNx (sNw HF (nw G)) (nx G)) (nw G) 0 := bh_HR_F hR.2.2.2.2.1 T2 (fun a q h => by unfold bh_PH at h; unfold rd_LC rd_EC rd_EX rd_LN bh_PM; omega) (fun a q h => by unfold bh_PM at h; unfold rd_LC rd_EC rd_EX rd_LN bh_PM; omega)
      exact this
    · rw [h1]
      rcases h3 with ⟨⟨⟨z1, z3, z4, z5⟩, zf⟩, y0, yk⟩ | ⟨ln, C, R, E, K', m', pu, bb, z, sv, cl, pr, hN, hC, hM⟩
      · refine Or.inl ⟨⟨?_, ?_, ?_, ?_⟩, fun k hk => ?_, y0, yk⟩
        · rw [dC _ _ (by omega)]; exact z1
        · rw [dC _ _ (by omega)]; exact z3
        · rw [dC _ _ (by omega)]; exact z4
        · rw [dC _ _ (by omega)]; exact z5
        · rw [dC _ _ (by omega)]; exact zf k hk
      · exact Or.inr ⟨ln, C, R, E, K', m', pu, bb, z, sv, cl, pr, hN, bh_HC_F hN.2.2.1 hC K (fun a q h h2 => by have := W1 a q h2; unfold bh_PH at h; omega), hM⟩
