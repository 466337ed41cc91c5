/-! what changes the hall: sell, caller -/
theorem gI_cpI (G : GM) (a b n x k : Nat) : gI (cpI G a 0 b 0 n) x k = if x = b ∧ k < n then gI G a k else gI G x k := by
  unfold gI cpI cp2 va_cpy
  by_cases hx : x = b
  · subst hx
    by_cases hk : k < n
    · simp [hk]
    · simp [hk]
  · simp [hx]
theorem bh_Fc {W : Nat → Nat → Prop} {G G1 : GM} {a b n : Nat} (h : bh_F W G G1) (hw : ∀ k, k < n → W b k) : bh_F W G (cpI G1 a 0 b 0 n) := by
  refine ⟨fun x k hn => ?_, fun x k hn => h.2.1 x k hn, h.2.2.1, h.2.2.2⟩
  rw [gI_cpI, if_neg (fun q => hn (by rw [q.1]; exact hw k q.2))]
  exact h.1 x k hn
theorem c_addSold {G : GM} {h m s t : Nat} (e5 : gI G h 5 = nI m) (hm : m < 8) (ht : LN t = 45) (htt : t ≠ h + 10) (hth : t < h + 12 ∨ h + 19 < t) : ∃ G', f_X5_addSold h (nI s) t G = some G' ∧ gI G' h 5 = nI (m + 1) ∧ gI G' (h + 10) m = nI s ∧ (∀ k, k < 45 → gI G' (h + 12 + m) k = gI G t k) ∧ bh_F (fun a q => (a = h ∧ q = 5) ∨ (a = h + 10 ∧ q = m) ∨ a = h + 12 + m) G G' := by
  unfold f_X5_addSold
  have e5a : gI (sI G (h + 10) m (nI s)) h 5 = nI m := by rw [gI_sIa (by omega)]; exact e5
  rw [e5, show (8 : Int32) = nI 8 from rfl, if_neg (nI_ge hm (by omega)), inb_n hm (by omega), gd_t, nI_clamp (by omega), lt_r, e5a, inb_n hm (by omega), gd_t, ht, show acp (0 : Int32) 0 45 45 45 = true from by decide, gd_t, nI_clamp (by omega), show (0 : Int32).toNatClampNeg = 0 from by decide, show (45 : Int32).toNatClampNeg = 45 from by decide, lt_r, gI_cpI, if_neg (by omega), e5a, nI_1, lt_r]
  refine ⟨_, rfl, gI_sIs _ _ _ _, ?_, fun k hk => ?_, bh_FI (bh_Fc (bh_FI (bh_Fr _ _) (Or.inr (Or.inl ⟨rfl, rfl⟩))) (fun k _ => Or.inr (Or.inr rfl))) (Or.inl ⟨rfl, rfl⟩)⟩
  · rw [gI_sIa (by omega), gI_cpI, if_neg (by omega), gI_sIs]
  · rw [gI_sIa (by omega), gI_cpI, if_pos ⟨rfl, hk⟩, gI_sIa (by omega)]
section SL
variable {ln C R E K m pu bb : Nat} {z sv cl pr cl' : Nat → Nat}
theorem bh_SC_of {G G' : GM} {t u s : Nat} (hV : bh_VH C R E K z) (h : bh_SC G t C R E K z s) (he : ∀ k, k < 45 → gI G' u k = gI G t k) : bh_SC G' u C R E K z s := by
  have hCRK := bh_CRK hV.1.2 hV.2.1.2 hV.2.2.2.1.2
  exact ⟨fun c r k h1 h2 h3 => by rw [he _ (Nat.lt_of_lt_of_le (bh_at_lt h1 h2 h3) hCRK)]; exact h.1 c r k h1 h2 h3, fun q h1 h2 => by rw [he q h2]; exact h.2 q h1 h2⟩
def bh_svU (sv : Nat → Nat) (m s : Nat) : Nat → Nat := fun i => if i = m then s else sv i
theorem bh_HC_add {G G' : GM} {h s t : Nat} (hV : bh_VH C R E K z) (hm : m < 8) (hC : bh_HC G h ln C R E K m pu bb z sv cl pr) (hS : bh_SC G t C R E K z s) (a1 : gI G' h 5 = nI (m + 1)) (a2 : gI G' (h + 10) m = nI s) (a3 : ∀ k, k < 45 → gI G' (h + 12 + m) k = gI G t k) (F : bh_F (fun a q => (a = h ∧ q = 5) ∨ (a = h + 10 ∧ q = m) ∨ a = h + 12 + m) G G') : bh_HC G' h ln C R E K (m + 1) pu bb z (bh_svU sv m s) cl pr := by
  obtain ⟨⟨b1, b2, b3, b4⟩, b, c, d, e⟩ := hC
  refine ⟨⟨?_, ?_, ?_, a1⟩, bh_FO_F b F (fun a q h1 h2 => by omega), fun i hi => ?_, fun i hi => ?_, fun i hi => ⟨?_, ?_⟩⟩
  · rw [F.1 _ _ (by omega)]; exact b1
  · rw [F.1 _ _ (by omega)]; exact b2
  · rw [F.1 _ _ (by omega)]; exact b3
  · rw [F.1 _ _ (by omega)]; exact c i hi
  · unfold bh_svU
    by_cases him : i = m
    · subst him
      rw [if_pos rfl]
      exact ⟨a2, bh_SC_of hV hS a3⟩
    · rw [if_neg him, F.1 _ _ (by omega)]
      exact ⟨(d i (by omega)).1, bh_SC_F (d i (by omega)).2 F (fun q h => by omega)⟩
  · rw [F.1 _ _ (by omega)]; exact (e i hi).1
  · rw [F.1 _ _ (by omega)]; exact (e i hi).2
theorem bh_HM_add {G : GM} {s : Nat} (hm : m < 8) (hK : K ≤ 5) (hM : bh_HM G 0 ln C R E K m pu bb z sv cl pr) : bh_HM (sI (sI G 196 m (nI s)) 193 4 (nI (m + 1))) 0 ln C R E K (m + 1) pu bb z (bh_svU sv m s) cl pr := by
  have F : bh_F (fun a q => (a = 193 ∧ q = 4) ∨ (a = 196 ∧ q = m)) G (sI (sI G 196 m (nI s)) 193 4 (nI (m + 1))) := bh_FI (bh_FI (bh_Fr _ _) (Or.inr ⟨rfl, rfl⟩)) (Or.inl ⟨rfl, rfl⟩)
  obtain ⟨⟨a1, a2, a3, a4⟩, b, c, d, e⟩ := hM
  refine ⟨⟨?_, gI_sIs _ _ _ _, ?_, ?_⟩, bh_MO_F b F (fun q h1 h2 => by omega) (fun q h1 h2 => by omega) hK, fun i hi => ?_, fun i hi => ?_, fun i hi => ?_⟩
  · rw [F.1 _ _ (by omega)]; exact a1
  · rw [F.1 _ _ (by omega)]; exact a3
  · rw [F.1 _ _ (by omega)]; exact a4
  · rw [F.1 _ _ (by omega)]; exact c i hi
  · unfold bh_svU
    rw [Nat.mul_zero, Nat.zero_add]
    by_cases him : i = m
    · subst him
      rw [if_pos rfl, gI_sIa (by omega), gI_sIs]
    · have := d i (by omega)
      rw [Nat.mul_zero, Nat.zero_add] at this
      rw [if_neg him, F.1 _ _ (by omega)]; exact this
  · rw [F.1 _ _ (by omega)]; exact e i hi
theorem bh_HN_add {s : Nat} (hm : m < 8) (hs : s < 10000) (h : bh_HN ln C R E K m pu bb z sv cl pr) : bh_HN ln C R E K (m + 1) pu bb z (bh_svU sv m s) cl pr :=
  ⟨h.1, h.2.1, by omega, h.2.2.2.1, h.2.2.2.2.1, h.2.2.2.2.2.1, fun i hi => by
    unfold bh_svU
    by_cases him : i = m
    · rw [if_pos him]; omega
    · rw [if_neg him]; exact h.2.2.2.2.2.2.1 i (by omega), h.2.2.2.2.2.2.2⟩
/-- is it sold already: the class -/
theorem c_hasSold {G : GM} {h t s : Nat} (hV : bh_VH C R E K z) (hm : m ≤ 8) (e5 : gI G h 5 = nI m) (hS : ∀ i, i < m → bh_SC G (h + 12 + i) C R E K z (sv i)) (hT : bh_SC G t C R E K z s) (hln : ∀ i, i < 8 → LN (h + 12 + i) = 45) (ht : LN t = 45) : ∃ b, f_X5_hasSold h t G = some (b, G) ∧ ((∃ i, i < m ∧ bh_sam C R E K z (sv i) s) → b = 1) ∧ (¬ (∃ i, i < m ∧ bh_sam C R E K z (sv i) s) → b = 0) := by
  unfold f_X5_hasSold
  refine wl1_up (P := fun o => ∃ b, o = some (b, G) ∧ ((∃ i, i < m ∧ bh_sam C R E K z (sv i) s) → b = 1) ∧ (¬ (∃ i, i < m ∧ bh_sam C R E K z (sv i) s) → b = 0)) (I := fun i G' => G' = G ∧ ∀ j, j < i → ¬ bh_sam C R E K z (sv j) s) (N := m) (by omega) ?_ (n := FU) (i := 0) (Nat.zero_le _) ⟨rfl, fun j hj => absurd hj (Nat.not_lt_zero _)⟩ (by unfold FU; omega)
  rintro kc i G' hi' ⟨rfl, q⟩ hkc
  unfold lp_X5_hasSold_2
  rw [e5]
  by_cases hi : i < m
  · obtain ⟨v, ev, v1, v0⟩ := c_areSame (G := G') (a := h + 12 + i) (b := t) (hln i (by omega)) ht
    have hiff := bh_sam_C hV (hS i hi) hT
    rw [if_neg (nI_ge hi (by omega)), inb_n (by omega) (by omega), gd_t, nI_clamp (by omega), ev, ob_s]
    by_cases hs : bh_sam C R E K z (sv i) s
    · rw [v1 (hiff.mpr hs), if_neg (by decide)]
      exact ⟨1, rfl, fun _ => rfl, fun h => absurd ⟨i, hi, hs⟩ h⟩
    · rw [v0 (fun h => hs (hiff.mp h)), if_pos rfl, nI_1]
      refine hkc hi _ ⟨rfl, fun j hj => ?_⟩
      by_cases hji : j = i
      · subst hji; exact hs
      · exact q j (by omega)
  · have hi2 : i = m := by omega
    subst hi2
    rw [if_pos (nI_le (by omega) (by omega))]
    exact ⟨0, rfl, fun ⟨j, hj, hs⟩ => absurd hs (q j hj), fun _ => rfl⟩
/-- .. the reference, wherever the hall lies -/
theorem m_aS {G : GM} {w s t : Nat} (hV : bh_VH C R E K z) (hMO : bh_MO G w C R E K z) (hw : w < 6) (hs : s < 10000) (ht : t < 10000) : ∃ G' b, f_X10_areSame (nI w) (nI s) (nI t) G = some (b, G') ∧ (bh_sam C R E K z s t → b = 1) ∧ (¬ bh_sam C R E K z s t → b = 0) ∧ bh_F (fun a q => bh_WMk 0 a q ∨ bh_WMk 1 a q) G G' := by
  have h45 := bh_N45 hV
  obtain ⟨hbC, hbR, hbE, hbK, -⟩ := id hV
  unfold f_X10_areSame
  obtain ⟨G1, e1, p1, -, F1⟩ := bh_makes (b := 0) (s := s) hV hMO hw (by omega) (by omega)
  have hM1 := bh_MO_F hMO F1 (fun q _ _ h => by unfold bh_WMk at h; omega) (fun q _ _ h => by unfold bh_WMk at h; omega) hbK.2
  obtain ⟨G2, e2, p2, -, F2⟩ := bh_makes (b := 1) (s := t) hV hM1 hw (by omega) (by omega)
  rw [show (0 : Int32) = nI 0 from rfl, show (1 : Int32) = nI 1 from rfl, e1, ov_s, e2, ov_s]
  have p1' := bh_SM_F p1 F2 (fun q _ h => by unfold bh_WMk; omega)
  have FF : bh_F (fun a q => bh_WMk 0 a q ∨ bh_WMk 1 a q) G G2 := bh_Ft (bh_Fm F1 (fun a q h => Or.inl h)) (bh_Fm F2 (fun a q h => Or.inr h))
  have key : ∀ q, q < 45 → ∃ c r k, c < 3 ∧ r < 3 ∧ k < 5 ∧ q = 15 * c + 5 * r + k ∧ gI G2 206 q = nI (if c < C ∧ r < R ∧ k < K then bh_ST C R E K z s c r k else 0) ∧ gI G2 206 (45 + q) = nI (if c < C ∧ r < R ∧ k < K then bh_ST C R E K z t c r k else 0) := by
    intro q hq
    obtain ⟨c, r, k, hc, hr, hk, rfl⟩ := bh_q45 hq
    refine ⟨c, r, k, hc, hr, hk, rfl, SM0 p1' hc hr hk, ?_⟩
    have := p2 c r k hc hr hk
    rw [show 45 * 1 + 15 * c + 5 * r + k = 45 + (15 * c + 5 * r + k) from by omega] at this
    exact this
  refine wl1_up (P := fun o => ∃ G' b, o = some (b, G') ∧ (bh_sam C R E K z s t → b = 1) ∧ (¬ bh_sam C R E K z s t → b = 0) ∧ bh_F (fun a q => bh_WMk 0 a q ∨ bh_WMk 1 a q) G G') (I := fun i G' => G' = G2 ∧ ∀ q, q < i → gI G2 206 q = gI G2 206 (45 + q)) (N := 45) (by omega) ?_ (n := FU) (i := 0) (Nat.zero_le _) ⟨rfl, fun q hq => absurd hq (Nat.not_lt_zero _)⟩ (by unfold FU; omega)
  rintro kc i G' hi' ⟨rfl, q1⟩ hk
  unfold lp_X10_areSame_17
  rw [show (45 : Int32) = nI 45 from rfl]
  by_cases hi : i < 45
  · rw [if_neg (nI_ge hi (by omega)), inb_n (by omega) (by omega), gd_t, nI_add, inb_n (by omega) (by omega), gd_t, nI_clamp (by omega), nI_clamp (by omega)]
    by_cases he : gI G' 206 i = gI G' 206 (45 + i)
    · rw [if_pos he, nI_1]
      refine hk hi _ ⟨rfl, fun q hq => ?_⟩
      by_cases hqi : q = i
      · subst hqi; exact he
      · exact q1 q (by omega)
    · rw [if_neg he]
      refine ⟨G', 0, rfl, fun hsam => ?_, fun _ => rfl, FF⟩
      exfalso
      obtain ⟨c, r, k, hc, hr, hk2, -, a1, a2⟩ := key i hi
      refine he ?_
      rw [a1, a2]
      by_cases hin : c < C ∧ r < R ∧ k < K
      · rw [if_pos hin, if_pos hin, hsam c r k hin.1 hin.2.1 hin.2.2]
      · rw [if_neg hin, if_neg hin]
  · have hi2 : i = 45 := by omega
    subst hi2
    rw [if_pos (nI_le (by omega) (by omega))]
    refine ⟨G', 1, rfl, fun _ => rfl, fun hns => absurd ?_ hns, FF⟩
    intro c r k hc hr hk2
    have h1 := bh_ST_N hV s hc hr hk2
    have h2 := bh_ST_N hV t hc hr hk2
    obtain ⟨c', r', k', hc', hr', hk', he, a1, a2⟩ := key (15 * c + 5 * r + k) (by omega)
    have : c' = c ∧ r' = r ∧ k' = k := by omega
    obtain ⟨rfl, rfl, rfl⟩ := this
    have h3 := q1 (15 * c' + 5 * r' + k') (by omega)
    rw [a1, a2, if_pos ⟨hc, hr, hk2⟩, if_pos ⟨hc, hr, hk2⟩] at h3
    exact nI_inj (by omega) (by omega) h3
theorem m_isSold {G : GM} {w s : Nat} (hV : bh_VH C R E K z) (hMO : bh_MO G w C R E K z) (hw : w < 6) (hm : m ≤ 8) (e4 : gI G 193 (8 * w + 4) = nI m) (e5 : ∀ i, i < m → gI G 196 (8 * w + i) = nI (sv i) ∧ sv i < 10000) (hs : s < 10000) : ∃ G' b, f_X10_isSoldIn (nI w) (nI s) G = some (b, G') ∧ ((∃ i, i < m ∧ bh_sam C R E K z (sv i) s) → b = 1) ∧ (¬ (∃ i, i < m ∧ bh_sam C R E K z (sv i) s) → b = 0) ∧ bh_F (fun a q => bh_WMk 0 a q ∨ bh_WMk 1 a q) G G' := by
  have hK := hV.2.2.2.1
  unfold f_X10_isSoldIn
  refine wl1_up (P := fun o => ∃ G' b, o = some (b, G') ∧ ((∃ i, i < m ∧ bh_sam C R E K z (sv i) s) → b = 1) ∧ (¬ (∃ i, i < m ∧ bh_sam C R E K z (sv i) s) → b = 0) ∧ bh_F (fun a q => bh_WMk 0 a q ∨ bh_WMk 1 a q) G G') (I := fun i G1 => (∀ j, j < i → ¬ bh_sam C R E K z (sv j) s) ∧ bh_F (fun a q => bh_WMk 0 a q ∨ bh_WMk 1 a q) G G1) (N := m) (by omega) ?_ (n := FU) (i := 0) (Nat.zero_le _) ⟨fun j hj => absurd hj (Nat.not_lt_zero _), bh_Fr _ _⟩ (by unfold FU; omega)
  rintro kc i G1 hi' ⟨q, F1⟩ hkc
  have hM1 := bh_MO_F hMO F1 (fun q _ _ h => by unfold bh_WMk at h; omega) (fun q _ _ h => by unfold bh_WMk at h; omega) hK.2
  unfold lp_X10_isSoldIn_2
  rw [show (4 : Int32) = nI 4 from rfl, bh_of hw (by omega), ob_s, F1.1 _ _ (by unfold bh_WMk; omega), e4]
  by_cases hi : i < m
  · obtain ⟨g1, g2⟩ := e5 i hi
    rw [if_neg (nI_ge hi (by omega)), show (8 : Int32) = nI 8 from rfl, pk_mul, nI_add, inb_n (by omega) (by omega), gd_t, nI_clamp (by omega), F1.1 _ _ (by unfold bh_WMk; omega), g1]
    obtain ⟨G2, b, e2, b1, b0, F2⟩ := m_aS (s := sv i) (t := s) hV hM1 hw g2 hs
    have FF := bh_Ft F1 F2
    rw [e2, ob_s]
    by_cases hs2 : bh_sam C R E K z (sv i) s
    · rw [b1 hs2, if_neg (by decide)]
      exact ⟨G2, 1, rfl, fun _ => rfl, fun h => absurd ⟨i, hi, hs2⟩ h, FF⟩
    · rw [b0 hs2, if_pos rfl, nI_1]
      refine hkc hi _ ⟨fun j hj => ?_, FF⟩
      by_cases hji : j = i
      · subst hji; exact hs2
      · exact q j (by omega)
  · have hi2 : i = m := by omega
    subst hi2
    rw [if_pos (nI_le (by omega) (by omega))]
    exact ⟨G1, 0, rfl, fun ⟨j, hj, hs2⟩ => absurd hs2 (q j hj), fun _ => rfl, F1⟩
end SL
theorem q_sell (x1 : Int32) : bh_Qy (f_X9_sell x1) (f_X10_sell x1) := by
  intro G hR
  have hh := bh_nwc hR
  have fT := bh_thr G
  rcases hR.2.2.2.2.1 with h0 | ⟨ln, C, R, E, K, m, pu, bb, z, sv, cl, pr, hN, hC, hM⟩
  · have h02 := bh_sc0 hh h0 fT
    exact bh_qy hR (v := (-2 : Int32)) (by unfold f_X9_sell; rw [c_isSerialN rfl h0 _, ob_s, bh_i0]) (by unfold f_X10_sell; rw [lt_r, m_isSerialN h02 _, ob_s, bh_i0]) (bh_Fr _ _) (bh_thr G)
  have hM2 := bh_scM hN hM fT
  have hV := hN.2.1
  have h45 := bh_N45 hV
  have hbC := hV.1
  have hbR := hV.2.1
  have hbE := hV.2.2.1
  have hbK := hV.2.2.2.1
  have hbm := hN.2.2.1
  have hp := hN.2.2.2.2.2.2.2
  rcases bh_cls (x := x1) (p := fun j => j < 10000) with ⟨s, hs, rfl⟩ | ns
  rotate_left
  · exact bh_qy hR (v := (-2 : Int32)) (by unfold f_X9_sell; rw [c_isSerial0 rfl hN hC ns, ob_s, bh_i0]) (by unfold f_X10_sell; rw [lt_r, m_isSerial0 hN hM2 ns, ob_s, bh_i0]) (bh_Fr _ _) (bh_thr G)
  have i4 : inb (4 : Int32) 48 = true := by decide
  have c4 : (4 : Int32).toNatClampNeg = 4 := by decide
  have e4 : gI (sI G 186 0 0) 193 4 = nI m := hM2.1.2.1
  by_cases hm8 : m < 8
  rotate_left
  · have hm8' : m = 8 := by omega
    subst hm8'
    exact bh_qy hR (v := (-3 : Int32)) (by unfold f_X9_sell; rw [c_isSerial1 rfl hN hC hs, ob_s, bh_i1, hC.1.2.2.2, if_neg (by decide)]) (by unfold f_X10_sell; rw [lt_r, m_isSerial1 hN hM2 hs, ob_s, bh_i1, i4, gd_t, c4, e4, if_pos (by decide)]) (bh_Fr _ _) fT
  obtain ⟨G1, e9, p9, F9⟩ := c_deal hh hN hC hs (t := 74) (by decide +kernel) (by omega)
  have FF1 : bh_F bh_SCR G G1 := bh_Fm F9 (fun a q h => h.elim scr_a (fun h => scr_b (by omega)))
  have hC1 := bh_scC hh hN hC FF1
  have n1 : nw G1 = nw G := F9.2.2.1
  obtain ⟨b, eb, b1, b0⟩ := c_hasSold hV hbm hC1.1.2.2.2 (fun i hi => (hC1.2.2.2.1 i hi).2) p9 (c_LN hh).2.2 (by decide +kernel)
  have sv9 : ∀ i, i < m → sv i < 10000 := fun i hi => by have := hN.2.2.2.2.2.2.1 i hi; omega
  by_cases hso : ∃ i, i < m ∧ bh_sam C R E K z (sv i) s
  · have hM2 := bh_scM hN hM (bh_Ft FF1 (bh_thr _))
    have e4 : gI (sI G1 186 0 0) 193 4 = nI m := hM2.1.2.1
    obtain ⟨G2, b', e2, b1', b0', F2⟩ := m_isSold (w := 0) (s := s) hV hM2.2.1 (by omega) hbm e4 (fun i hi => ⟨hM2.2.2.2.1 i hi, sv9 i hi⟩) hs
    exact bh_qy hR (v := (-5 : Int32)) (G1 := G1) (G2 := G2) (by unfold f_X9_sell; rw [c_isSerial1 rfl hN hC hs, ob_s, bh_i1, hC.1.2.2.2, if_pos (show nI m < (8 : Int32) from nI_lt (b := 8) hm8 (by omega)), e9, ov_s, n1, eb, ob_s, b1 hso, if_neg (by decide)]) (by unfold f_X10_sell; rw [lt_r, m_isSerial1 hN hM2 hs, ob_s, bh_i1, i4, gd_t, c4, e4, if_neg (by rw [show (8 : Int32) = nI 8 from rfl, nI_eq (by omega) (by omega)]; omega), show f_X10_isSoldIn (0 : Int32) (nI s) (sI G1 186 0 0) = _ from e2, ob_s, b1' hso, if_neg (by decide)]) FF1 (bh_Ft (bh_thr _) (bh_WS2 F2))
  · obtain ⟨G3, e3, a1, a2, a3, F3⟩ := c_addSold (s := s) hC1.1.2.2.2 hm8 (t := 74) (by decide +kernel) (by omega) (by omega)
    have hC3 := bh_HC_add hV hm8 hC1 p9 a1 a2 a3 F3
    have F3' : bh_F (bh_WN (nw G)) G1 G3 := bh_Fm F3 (fun a q h => Or.inr (Or.inl (by unfold bh_PH; omega)))
    have F03 := bh_Ft (bh_SCR_N FF1) F3'
    have n3 : nw G3 = nw G := F3.2.2.1.trans n1
    have hM2 : bh_HM (sI G3 186 0 0) 0 ln C R E K m pu bb z sv cl pr := by
      have hM1 := bh_scM hN hM FF1
      exact bh_HM_F hbm h45 hbK.2 hM1 (bh_FI (bh_Fm (W' := fun a q => a = 186 ∨ a ≤ 185) F3 (fun a q h => Or.inr (by clear hso b1 b0; omega))) (Or.inl rfl)) (fun a q h => by clear hso b1 b0; unfold bh_PM at h; omega)
    have e4 : gI (sI G3 186 0 0) 193 4 = nI m := hM2.1.2.1
    obtain ⟨G2, b', e2, b1', b0', F2⟩ := m_isSold (w := 0) (s := s) hV hM2.2.1 (by omega) hbm e4 (fun i hi => ⟨hM2.2.2.2.1 i hi, sv9 i hi⟩) hs
    have hM4 := bh_scM hN hM2 (bh_WS2 F2)
    have e4' : gI G2 193 4 = nI m := hM4.1.2.1
    have e4'' : gI (sI G2 196 m (nI s)) 193 4 = nI m := by rw [gI_sIa (by omega)]; exact e4'
    have hM5 := bh_HM_add (s := s) hm8 hbK.2 hM4
    have F2' : bh_F bh_SCR G3 G2 := bh_Ft (bh_thr _) (bh_WS2 F2)
    have F45 : bh_F (fun a q => (a = 193 ∧ q = 4) ∨ (a = 196 ∧ q = m)) G2 (sI (sI G2 196 m (nI s)) 193 4 (nI (m + 1))) := bh_FI (bh_FI (bh_Fr _ _) (Or.inr ⟨rfl, rfl⟩)) (Or.inl ⟨rfl, rfl⟩)
    have hN' := bh_HN_add hm8 hs hN
    have hC4 := bh_scC hh hN' hC3 F2'
    have hC5 := bh_HC_F (by omega) hC4 F45 (fun a q h => by clear hso b1 b0 b1' b0'; unfold bh_PH at h; omega)
    have FA : bh_F (bh_WN (nw G)) G (sI (sI G2 196 m (nI s)) 193 4 (nI (m + 1))) := bh_Ft (bh_Ft F03 (bh_SCR_N F2')) (bh_Fm F45 (fun a q h => Or.inr (Or.inr (by unfold bh_PM; omega))))
    refine ⟨nI (m + 1), G3, sI (sI G2 196 m (nI s)) 193 4 (nI (m + 1)), ?_, ?_, bh_R_N hR FA (Or.inr ⟨ln, C, R, E, K, m + 1, pu, bb, z, bh_svU sv m s, cl, pr, hN', hC5, hM5⟩)⟩
    · unfold f_X9_sell
      rw [c_isSerial1 rfl hN hC hs, ob_s, bh_i1, hC.1.2.2.2, if_pos (show nI m < (8 : Int32) from nI_lt (b := 8) hm8 (by omega)), e9, ov_s, n1, eb, ob_s, b0 hso, if_pos rfl, n1, e3, ov_s, n3, a1]
    · unfold f_X10_sell
      rw [lt_r, m_isSerial1 hN hM2 hs, ob_s, bh_i1, i4, gd_t, c4, e4, if_neg (by rw [show (8 : Int32) = nI 8 from rfl, nI_eq (by omega) (by omega)]; omega), show f_X10_isSoldIn (0 : Int32) (nI s) (sI G3 186 0 0) = _ from e2, ob_s, b0' hso, if_pos rfl, gd_t, e4', inb_n (by omega) (by omega), gd_t, nI_clamp (by omega), lt_r, gd_t, gd_t, e4'', nI_1, lt_r, gd_t, gI_sIs]
/-! CALLS by a seed -/
theorem c_mixCalls {G : GM} {d f v N X : Nat} (e6 : gI G f 6 = nI N) (hN : N ≤ 45) (hv : LN v = 45) (hX : X < 2147483648) (hfv : f ≠ v) : ∃ G', f_X2_mixCalls d f (nI X) v G = some G' ∧ (∀ i, i < N → gI G' v i = nI (bh_mx0 N 1 X i)) ∧ bh_F (fun a q => a = v ∨ (a = d + 1 ∧ q = 0)) G G' := by
  have fin : ∀ G1, (∀ j, j < N → gI G1 v j = nI (1 + j)) → bh_F (fun a _ => a = v) G G1 → ∃ G', k_X2_mixCalls_33 d f (nI X) v G1 = some G' ∧ (∀ i, i < N → gI G' v i = nI (bh_mx0 N 1 X i)) ∧ bh_F (fun a q => a = v ∨ (a = d + 1 ∧ q = 0)) G G' := by
    intro G1 q1 F1
    unfold k_X2_mixCalls_33 f_X3_begin
    rw [lt_r, ov_s, nI_l (by omega)]
    have e6' : gI (sJ G1 (d + 1) 0 (lN X)) f 6 = nI N := by rw [gI_sJ, F1.1 _ _ (by omega)]; exact e6
    obtain ⟨G2, e2, a2, -, F2⟩ := bh_mixC (G := sJ G1 (d + 1) 0 (lN X)) (d := d + 1) (v := v) (n := N) (a := fun j => 1 + j) hX (by rw [gJ_sJ, if_pos ⟨rfl, rfl⟩]) (fun i hi => by rw [gI_sJ]; exact q1 i hi) (by omega) (by omega)
    rw [e6', e2, ov_s]
    exact ⟨G2, rfl, a2, bh_Ft (bh_FJ (bh_Fm F1 (fun a q h => Or.inl h)) (Or.inr ⟨rfl, rfl⟩)) (bh_Fm F2 (fun a q h => h.elim (fun h => Or.inl h.1) Or.inr))⟩
  unfold f_X2_mixCalls
  refine wl1_up (P := fun o => ∃ G', o = some G' ∧ (∀ i, i < N → gI G' v i = nI (bh_mx0 N 1 X i)) ∧ bh_F (fun a q => a = v ∨ (a = d + 1 ∧ q = 0)) G G') (I := fun i G1 => (∀ j, j < i → gI G1 v j = nI (1 + j)) ∧ bh_F (fun a _ => a = v) G G1) (N := N) (by omega) ?_ (n := FU) (i := 0) (Nat.zero_le _) ⟨fun j hj => absurd hj (Nat.not_lt_zero _), bh_Fr _ _⟩ (by unfold FU; omega)
  rintro kc i G1 hi' ⟨q1, F1⟩ hk
  unfold lp_X2_mixCalls_3
  rw [F1.1 _ _ (by omega), e6]
  by_cases hi : i < N
  · rw [if_neg (nI_ge hi (by omega)), oN, hv, if_neg (nI_ge (by omega) (by omega)), inb_n (by omega) (by omega), gd_t, nI_clamp (by omega), nI_1, lt_r]
    refine hk hi _ ⟨fun j hj => ?_, bh_FI F1 rfl⟩
    rw [gI_sI]
    by_cases hji : j = i
    · rw [if_pos ⟨rfl, hji⟩, hji, Nat.add_comm]
    · rw [if_neg (fun q => hji q.2)]; exact q1 j (by omega)
  · have hi2 : i = N := by omega
    subst hi2
    rw [if_pos (nI_le (by omega) (by omega))]
    exact fin G1 q1 F1
theorem c_note {G : GM} {v t N : Nat} {cl : Nat → Nat} (hN : N ≤ 45) (hv : LN v = 45) (ht : LN t = 46) (hvt : v ≠ t) (hp : bh_prm N 1 cl) (hc : ∀ i, i < N → gI G v i = nI (cl i)) : ∃ G', f_X9_noteTurns v (nI N) t G = some G' ∧ (∀ i, i < N → gI G' t (cl i) = nI (i + 1)) ∧ bh_F (fun a _ => a = t) G G' := by
  unfold f_X9_noteTurns
  refine wl1_up (P := fun o => ∃ G', o = some G' ∧ (∀ i, i < N → gI G' t (cl i) = nI (i + 1)) ∧ bh_F (fun a _ => a = t) G G') (I := fun i G1 => (∀ j, j < i → gI G1 t (cl j) = nI (j + 1)) ∧ bh_F (fun a _ => a = t) G G1) (N := N) (by omega) ?_ (n := FU) (i := 0) (Nat.zero_le _) ⟨fun j hj => absurd hj (Nat.not_lt_zero _), bh_Fr _ _⟩ (by unfold FU; omega)
  rintro kc i G1 hi' ⟨q1, F1⟩ hk
  unfold lp_X9_noteTurns_2
  by_cases hi : i < N
  · have hb := hp.1 i hi
    rw [if_neg (nI_ge hi (by omega)), oN, hv, if_neg (nI_ge (by omega) (by omega)), inb_n (by omega) (by omega), gd_t, nI_clamp (by omega), F1.1 _ _ hvt, hc i hi, lt_r, if_neg (nI_pos (by omega)), oN, ht, if_neg (nI_ge (by omega) (by omega)), inb_n (by omega) (by omega), gd_t, nI_clamp (by omega), nI_1, lt_r]
    refine hk hi _ ⟨fun j hj => ?_, bh_FI F1 rfl⟩
    rw [gI_sI]
    by_cases hji : j = i
    · rw [hji, if_pos ⟨rfl, rfl⟩]
    · rw [if_neg (fun q => hji (hp.2.1 j i (by omega) hi q.2))]; exact q1 j (by omega)
  · have hi2 : i = N := by omega
    subst hi2
    rw [if_pos (nI_le (by omega) (by omega))]
    exact ⟨G1, rfl, q1, F1⟩
theorem c_note5 {G : GM} {h N : Nat} {cl : Nat → Nat} (hl : LN (h + 20) = 45 ∧ LN (h + 21) = 46) (e6 : gI G (h + 1) 6 = nI N) (hN : N ≤ 45) (hp : bh_prm N 1 cl) (hc : ∀ i, i < N → gI G (h + 20) i = nI (cl i)) : ∃ G', f_X5_noteTurns h G = some G' ∧ (∀ i, i < N → gI G' (h + 21) (cl i) = nI (i + 1)) ∧ bh_F (fun a _ => a = h + 21) G G' := by
  obtain ⟨G', e, a, F⟩ := c_note hN hl.1 hl.2 (by omega) hp hc
  unfold f_X5_noteTurns
  rw [e6, e, ov_s]
  exact ⟨G', rfl, a, F⟩
theorem m_callsBy {G : GM} {w N X : Nat} (hw : w < 6) (hN : N ≤ 45) (hX : X < 2147483648) (hn : ∀ G', bh_F (fun a q => (a = 186 ∧ q = 33) ∨ a = 205 ∨ (a = 197 ∧ 45 * w ≤ q ∧ q < 45 * w + 45)) G G' → f_X10_numbersOf (nI w) G' = some (nI N, G')) : ∃ G', f_X10_callsBy (nI w) (lN X) G = some G' ∧ (∀ i, i < N → gI G' 197 (45 * w + i) = nI (bh_mx0 N 1 X i)) ∧ bh_F (fun a q => (a = 186 ∧ q = 33) ∨ a = 205 ∨ (a = 197 ∧ 45 * w ≤ q ∧ q < 45 * w + 45)) G G' := by
  unfold f_X10_callsBy
  have F0 : bh_F (fun a q => (a = 186 ∧ q = 33) ∨ a = 205 ∨ (a = 197 ∧ 45 * w ≤ q ∧ q < 45 * w + 45)) G (sJ G 186 33 (lN X)) := bh_FJ (bh_Fr _ _) (Or.inl ⟨rfl, rfl⟩)
  obtain ⟨G1, e1, a1, -, F1⟩ := bh_mixesM (G := sJ G 186 33 (lN X)) (n := N) (lo := 1) (X := X) hX (by rw [gJ_sJ, if_pos ⟨rfl, rfl⟩]) hN (by omega)
  have F01 := bh_Ft F0 (bh_Fm F1 (fun a q h => h.elim (fun h => Or.inr (Or.inl h)) Or.inl))
  rw [lt_r, hn _ F0, ob_s, show (1 : Int32) = nI 1 from rfl, e1, ov_s]
  refine wl1_up (P := fun o => ∃ G', o = some G' ∧ (∀ i, i < N → gI G' 197 (45 * w + i) = nI (bh_mx0 N 1 X i)) ∧ bh_F (fun a q => (a = 186 ∧ q = 33) ∨ a = 205 ∨ (a = 197 ∧ 45 * w ≤ q ∧ q < 45 * w + 45)) G G') (I := fun i G2 => (∀ j, j < i → gI G2 197 (45 * w + j) = nI (bh_mx0 N 1 X j)) ∧ bh_F (fun a q => a = 197 ∧ 45 * w ≤ q ∧ q < 45 * w + 45) G1 G2) (N := N) (by omega) ?_ (n := FU) (i := 0) (Nat.zero_le _) ⟨fun j hj => absurd hj (Nat.not_lt_zero _), bh_Fr _ _⟩ (by unfold FU; omega)
  rintro kc i G2 hi' ⟨q2, F2⟩ hk
  have FF := bh_Ft F01 (bh_Fm F2 (fun a q h => Or.inr (Or.inr h)))
  unfold lp_X10_callsBy_18
  rw [hn _ FF, ob_s]
  by_cases hi : i < N
  · rw [if_neg (nI_ge hi (by omega)), inb_n (by omega) (by omega), gd_t, show (45 : Int32) = nI 45 from rfl, pk_mul, nI_add, inb_n (by omega) (by omega), gd_t, lt_r, nI_clamp (by omega), nI_clamp (by omega), F2.1 _ _ (by omega), a1 i hi, nI_1]
    refine hk hi _ ⟨fun j hj => ?_, bh_FI F2 (by omega)⟩
    rw [gI_sI]
    by_cases hji : j = i
    · rw [hji, if_pos ⟨rfl, rfl⟩]
    · rw [if_neg (fun q => hji (by omega))]; exact q2 j (by omega)
  · have hi2 : i = N := by omega
    subst hi2
    rw [if_pos (nI_le (by omega) (by omega))]
    exact ⟨G2, rfl, q2, FF⟩
section CL
variable {ln C R E K m pu bb : Nat} {z sv cl pr cl' : Nat → Nat}
theorem bh_HC_cl {W : Nat → Nat → Prop} {G G' : GM} {h : Nat} (hm : m ≤ 8) (hC : bh_HC G h ln C R E K m pu bb z sv cl pr) (hF : bh_F W G G') (hw : ∀ a q, h ≤ a → a ≤ h + 19 → ¬ W a q) (hn : ∀ i, i < C * R * E → gI G' (h + 20) i = nI (cl' i) ∧ gI G' (h + 21) (cl' i) = nI (i + 1)) : bh_HC G' h ln C R E K m pu bb z sv cl' pr := by
  obtain ⟨⟨a1, a2, a3, a4⟩, b, c, d, e⟩ := hC
  have k : ∀ a q, h ≤ a → a ≤ h + 19 → gI G' a q = gI G a q := fun a q h1 h2 => hF.1 _ _ (hw a q h1 h2)
  refine ⟨⟨?_, ?_, ?_, ?_⟩, bh_FO_F b hF (fun a q h1 h2 => hw a q (by omega) (by omega)), fun i hi => ?_, fun i hi => ⟨?_, bh_SC_F (d i hi).2 hF (fun q => hw _ q (by omega) (by omega))⟩, hn⟩
  · rw [k _ _ (by omega) (by omega)]; exact a1
  · rw [k _ _ (by omega) (by omega)]; exact a2
  · rw [k _ _ (by omega) (by omega)]; exact a3
  · rw [k _ _ (by omega) (by omega)]; exact a4
  · rw [k _ _ (by omega) (by omega)]; exact c i hi
  · rw [k _ _ (by omega) (by omega)]; exact (d i hi).1
theorem bh_HM_cl {W : Nat → Nat → Prop} {G G' : GM} {w : Nat} (hm : m ≤ 8) (hK : K ≤ 5) (hc : bh_HM G w ln C R E K m pu bb z sv cl pr) (hF : bh_F W G G') (hw : ∀ a q, bh_PM w a q → a ≠ 197 → ¬ W a q) (hn : ∀ i, i < C * R * E → gI G' 197 (45 * w + i) = nI (cl' i)) : bh_HM G' w ln C R E K m pu bb z sv cl' pr := by
  obtain ⟨⟨a1, a2, a3, a4⟩, b, c, d, e⟩ := hc
  have k : ∀ a q, bh_PM w a q → a ≠ 197 → gI G' a q = gI G a q := fun a q h1 h2 => hF.1 _ _ (hw a q h1 h2)
  refine ⟨⟨?_, ?_, ?_, ?_⟩, bh_MO_F b hF (fun q h1 h2 => hw _ q (by unfold bh_PM; omega) (by omega)) (fun q h1 h2 => hw _ q (by unfold bh_PM; omega) (by omega)) hK, fun i hi => ?_, fun i hi => ?_, hn⟩
  · rw [k _ _ (by unfold bh_PM; omega) (by omega)]; exact a1
  · rw [k _ _ (by unfold bh_PM; omega) (by omega)]; exact a2
  · rw [k _ _ (by unfold bh_PM; omega) (by omega)]; exact a3
  · rw [k _ _ (by unfold bh_PM; omega) (by omega)]; exact a4
  · rw [k _ _ (by unfold bh_PM; omega) (by omega)]; exact c i hi
  · rw [k _ _ (by unfold bh_PM; omega) (by omega)]; exact d i hi
theorem bh_HN_cl (hp : bh_prm (C * R * E) 1 cl') (h : bh_HN ln C R E K m pu bb z sv cl pr) : bh_HN ln C R E K m pu bb z sv cl' pr :=
  ⟨h.1, h.2.1, h.2.2.1, h.2.2.2.1, h.2.2.2.2.1, h.2.2.2.2.2.1, h.2.2.2.2.2.2.1, hp⟩
end CL
theorem q_caller (x1 : Int32) : bh_Qy (f_X9_caller x1) (f_X10_caller x1) := by
  intro G hR
  have hh := bh_nwc hR
  have fT := bh_thr G
  rcases hR.2.2.2.2.1 with h0 | ⟨ln, C, R, E, K, m, pu, bb, z, sv, cl, pr, hN, hC, hM⟩
  · have h02 := bh_sc0 hh h0 fT
    exact bh_qy hR (v := (-2 : Int32)) (by unfold f_X9_caller; rw [c_noHall rfl h0, ob_s, bh_i0]) (by unfold f_X10_caller; rw [lt_r, m_noHall h02, ob_s, bh_i0]) (bh_Fr _ _) (bh_thr G)
  have hM2 := bh_scM hN hM fT
  have hV := hN.2.1
  have h45 := bh_N45 hV
  have hbC := hV.1
  have hbR := hV.2.1
  have hbE := hV.2.2.1
  have hbK := hV.2.2.2.1
  have hbm := hN.2.2.1
  have hp := hN.2.2.2.2.2.2.2
  rcases bh_cls (x := x1) (p := fun j => j < 2000000001) with ⟨s, hs, rfl⟩ | ns
  rotate_left
  · exact bh_qy hR (v := (-2 : Int32)) (by unfold f_X9_caller; rw [c_isHall rfl hN hC, ob_s, bh_i1, pD0 (M := 2000000000) (n := 2000000000) rfl (by omega) ns]) (by unfold f_X10_caller; rw [lt_r, m_isHall hN hM2, ob_s, bh_i1, m_in0 (l := 0) (b := 2000000000) (by decide) (by decide) (fun j _ _ h he => ns ⟨j, by omega, he⟩), ob_s, bh_i0]) (bh_Fr _ _) (bh_thr G)
  have hp' := bh_mx0_prm (C * R * E) 1 s
  have e6 : gI G (nw G + 1) 6 = nI (C * R * E) := by rw [hC.2.1.2.1.1, hV.2.2.2.2.2.2.1]
  obtain ⟨G1, e1, a1, F1⟩ := c_mixCalls (d := 47) (f := nw G + 1) (v := nw G + 20) (X := s) e6 h45 (c_LN hh).1 (by omega) (by omega)
  have n1 : nw G1 = nw G := F1.2.2.1
  have e6' : gI G1 (nw G + 1) 6 = nI (C * R * E) := by rw [F1.1 _ _ (by omega)]; exact e6
  obtain ⟨G3, e3, a3, F3⟩ := c_note5 (h := nw G) ⟨(c_LN hh).1, (c_LN hh).2.1⟩ e6' h45 hp' a1
  have FC : bh_F (fun a q => a = nw G + 20 ∨ a = nw G + 21 ∨ (a = 48 ∧ q = 0)) G G3 := bh_Ft (bh_Fm F1 (fun a q h => by omega)) (bh_Fm F3 (fun a q h => by omega))
  have hC3 := bh_HC_cl hbm hC FC (fun a q h1 h2 => by omega) (fun i hi => ⟨by rw [F3.1 _ _ (by omega)]; exact a1 i hi, a3 i hi⟩)
  have FC' : bh_F (bh_WN (nw G)) G G3 := bh_Fm FC (fun a q h => by
    rcases h with h | h | h
    · exact Or.inr (Or.inl (by unfold bh_PH; omega))
    · exact Or.inr (Or.inl (by unfold bh_PH; omega))
    · exact Or.inl (scr_a (by omega)))
  have hM3 : bh_HM (sI G3 186 0 0) 0 ln C R E K m pu bb z sv cl pr := bh_HM_F hbm h45 hbK.2 hM (bh_FI (W := fun a q => a = 186 ∨ a ≤ 185) (bh_Fm FC (fun a q h => Or.inr (by omega))) (Or.inl rfl)) (fun a q h => by unfold bh_PM at h; omega)
  obtain ⟨G2, e2, a2, F2⟩ := m_callsBy (G := sI G3 186 0 0) (w := 0) (N := C * R * E) (X := s) (by omega) h45 (by omega) (fun G' F => bh_numOf (bh_MO_F hM3.2.1 F (fun q _ _ h => by omega) (fun q _ _ h => by omega) hbK.2) (by omega))
  have hM4 := bh_HM_cl hbm hbK.2 hM3 F2 (fun a q h1 h2 => by unfold bh_PM at h1; omega) a2
  have hC4 := bh_HC_F hbm hC3 (bh_Ft (bh_FI (W := fun a q => 186 ≤ a) (v := 0) (k := 0) (bh_Fr _ G3) (Nat.le_refl 186)) (bh_Fm F2 (fun a q h => by omega))) (fun a q h => by unfold bh_PH at h; omega)
  have FA : bh_F (bh_WN (nw G)) G G2 := bh_Ft (bh_Ft FC' (bh_SCR_N (bh_thr G3))) (bh_Fm F2 (fun a q h => by
    rcases h with h | h | h
    · exact Or.inl (scr_d (by omega))
    · exact Or.inl (scr_e (by omega))
    · exact Or.inr (Or.inr (by unfold bh_PM; omega))))
  refine ⟨(0 : Int32), G3, G2, ?_, ?_, bh_R_N hR FA (Or.inr ⟨ln, C, R, E, K, m, pu, bb, z, sv, bh_mx0 (C * R * E) 1 s, pr, bh_HN_cl hp' hN, hC4, hM4⟩)⟩
  · unfold f_X9_caller
    rw [c_isHall rfl hN hC, ob_s, bh_i1, pD1 (M := 2000000000) (n := 2000000000) rfl hs (by omega), e1, ov_s, n1, e3, ov_s]
  · unfold f_X10_caller
    rw [lt_r, m_isHall hN hM3, ob_s, bh_i1, m_in1 (l := 0) (b := 2000000000) (by omega) (by decide) (by decide) (by omega) (by omega), ob_s, bh_i1, nI_l (by omega), show f_X10_callsBy (0 : Int32) (lN s) (sI G3 186 0 0) = _ from e2, ov_s]
