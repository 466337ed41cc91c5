/-! SHAPES -/
def bh_sh (G : GM) (s i : Nat) : Nat := (gJ G (64 + s) i).toInt.toNat
theorem bh_sh_lN {G : GM} {s i : Nat} (h : ¬ gJ G (64 + s) i < 0) : gJ G (64 + s) i = lN (bh_sh G s i) ∧ bh_sh G s i < 2 ^ 63 := by
  obtain ⟨k, hk, he⟩ := pk_lOf h
  unfold bh_sh
  rw [he, pk_lT hk]
  exact ⟨by rw [Int.toNat_natCast], by rw [Int.toNat_natCast]; exact hk⟩
/-- a place -/
def bh_gd (G : GM) (s R K i : Nat) : Prop := ¬ gJ G (64 + s) i < 0 ∧ bh_sh G s i / 10 < R ∧ bh_sh G s i % 10 < K
theorem bh_l10 {k : Nat} (h : k < 2 ^ 63) : lN k / (10 : Int64) = lN (k / 10) ∧ lN k - lN k / (10 : Int64) * (10 : Int64) = lN (k % 10) := ⟨pk_lDiv (b := 10) h (by omega) (by omega), pk_lRem (b := 10) h (by omega) (by omega)⟩
theorem bh_lg0 {a b : Nat} (ha : a < 2 ^ 63) (hb : b < 2 ^ 31) : (0 ≤ lg_cmp (lN a) (nI b).toInt64) ↔ b ≤ a := by
  rw [lg_ge0, nI_l hb, pk_lLE (by omega) ha]
theorem bh_lgl {a b : Nat} (ha : a < 2 ^ 63) (hb : b < 2 ^ 31) : (lg_cmp (lN a) (nI b).toInt64 < 0) ↔ a < b := by
  rw [lg_lt0, nI_l hb, pk_lLT ha (by omega)]
section SP
variable {ln C R E K m pu bb : Nat} {z sv cl pr cl' : Nat → Nat}
theorem c_isShape {G : GM} {h s n : Nat} (hn : nw G = h) (hN : bh_HN ln C R E K m pu bb z sv cl pr) (hC : bh_HC G h ln C R E K m pu bb z sv cl pr) (hs : s < 4) (u1 : gI G 70 s = 1) (e68 : gI G 68 s = nI n) (hn6 : n ≤ 60) : ∃ v, f_X9_isShape (nI s) G = some (v, G) ∧ ((∀ i, i < n → bh_gd G s R K i) → v = 1) ∧ (¬ (∀ i, i < n → bh_gd G s R K i) → v = 0) := by
  have hbR := hN.2.1.2.1
  have hbK := hN.2.1.2.2.2.1
  unfold f_X9_isShape
  refine wl1_up (P := fun o => ∃ v, o = some (v, G) ∧ ((∀ i, i < n → bh_gd G s R K i) → v = 1) ∧ (¬ (∀ i, i < n → bh_gd G s R K i) → v = 0)) (I := fun i G' => G' = G ∧ ∀ j, j < i → bh_gd G s R K j) (N := n) (by omega) ?_ (n := FU) (i := 0) (Nat.zero_le _) ⟨rfl, fun j hj => absurd hj (Nat.not_lt_zero _)⟩ (by unfold FU; omega)
  rintro kc i G' hi' ⟨rfl, q⟩ hk
  unfold lp_X9_isShape_2
  rw [lengthOf_1 hs u1 e68, ob_s]
  by_cases hi : i < n
  · rw [if_neg (nI_ge hi (by omega)), valueAt_1 hs u1 e68 hn6 hi, ob_s, hn, hC.2.1.1.2.1, hC.2.1.1.2.2.2]
    by_cases h0 : gJ G' (64 + s) i < 0
    · rw [if_pos ((lg_lt0 _ _).mpr h0)]
      exact ⟨0, rfl, fun h => absurd h0 (h i hi).1, fun _ => rfl⟩
    · obtain ⟨e1, e2⟩ := bh_sh_lN h0
      obtain ⟨d1, d2⟩ := bh_l10 e2
      have hd : bh_sh G' s i / 10 < 2 ^ 63 := by omega
      rw [if_neg (fun h => h0 ((lg_lt0 _ _).mp h)), e1, d1, ← d1, d2, d1]
      by_cases h1 : R ≤ bh_sh G' s i / 10
      · rw [if_pos ((bh_lg0 hd (by omega)).mpr h1)]
        exact ⟨0, rfl, fun h => absurd (h i hi).2.1 (by clear h; omega), fun _ => rfl⟩
      · rw [if_neg (fun h => h1 ((bh_lg0 hd (by omega)).mp h))]
        by_cases h2 : bh_sh G' s i % 10 < K
        · rw [if_pos ((bh_lgl (by omega) (by omega)).mpr h2), nI_1]
          refine hk hi _ ⟨rfl, fun j hj => ?_⟩
          by_cases hji : j = i
          · subst hji; exact ⟨h0, by omega, h2⟩
          · exact q j (by omega)
        · rw [if_neg (fun h => h2 ((bh_lgl (by omega) (by omega)).mp h))]
          exact ⟨0, rfl, fun h => absurd (h i hi).2.2 h2, fun _ => rfl⟩
  · have hi2 : i = n := by omega
    subst hi2
    rw [if_pos (nI_le (by omega) (by omega))]
    exact ⟨1, rfl, fun _ => rfl, fun h => absurd q h⟩
theorem m_whyShape {G : GM} {s w n : Nat} (hN : bh_HN ln C R E K m pu bb z sv cl pr) (hM : bh_HM G 0 ln C R E K m pu bb z sv cl pr) (hs : s < 4) (hw : w < 4) (e187 : gI G 187 s = nI w) (e188 : gI G 188 s = nI n) (hn6 : n ≤ 60) (ev : ∀ i, i < n → gJ G (64 + s) i = gJ G 189 (60 * s + i)) : ∃ v, f_X10_whyNotShape (nI s) G = some (v, G) ∧ ((∀ i, i < n → bh_gd G s R K i) → v = 0) ∧ (¬ (∀ i, i < n → bh_gd G s R K i) → v = -2) := by
  have hbR := hN.2.1.2.1
  have hbK := hN.2.1.2.2.2.1
  have f1 : gI G 193 1 = nI R := hM.2.1.2.1
  have f3 : gI G 193 3 = nI K := hM.2.1.2.2.2.1
  unfold f_X10_whyNotShape
  rw [m_why1 hN hM hs hw e187, ob_s, if_pos rfl]
  refine wl1_up (P := fun o => ∃ v, o = some (v, G) ∧ ((∀ i, i < n → bh_gd G s R K i) → v = 0) ∧ (¬ (∀ i, i < n → bh_gd G s R K i) → v = -2)) (I := fun i G' => G' = G ∧ ∀ j, j < i → bh_gd G s R K j) (N := n) (by omega) ?_ (n := FU) (i := 0) (Nat.zero_le _) ⟨rfl, fun j hj => absurd hj (Nat.not_lt_zero _)⟩ (by unfold FU; omega)
  rintro kc i G' hi' ⟨rfl, q⟩ hk
  unfold lp_X10_whyNotShape_14
  rw [inb_n hs (by omega), gd_t, nI_clamp (by omega), e188]
  by_cases hi : i < n
  · rw [if_neg (nI_ge hi (by omega)), show (60 : Int32) = nI 60 from rfl, pk_mul, nI_add, inb_n (by omega) (by omega), gd_t, nI_clamp (by omega), ← ev i hi, lt_r]
    by_cases h0 : gJ G' (64 + s) i < 0
    · rw [in_f (fun h => absurd h0 (Int64.not_lt.mpr h.1)), ob_s, if_pos rfl]
      exact ⟨-2, rfl, fun h => absurd h0 (h i hi).1, fun _ => rfl⟩
    · obtain ⟨e1, e2⟩ := bh_sh_lN h0
      obtain ⟨d1, d2⟩ := bh_l10 e2
      have hd : bh_sh G' s i / 10 < 2 ^ 63 := by omega
      by_cases h99 : bh_sh G' s i ≤ 99
      · rw [in_t ⟨Int64.not_lt.mp h0, by rw [e1]; exact (pk_lLE (b := 99) e2 (by omega)).mpr h99⟩, ob_s, if_neg (by decide), show inb (1 : Int32) 48 = true from by decide, gd_t, show (1 : Int32).toNatClampNeg = 1 from by decide, f1, e1, d1, ← d1, d2, d1]
        by_cases h1 : R ≤ bh_sh G' s i / 10
        · rw [if_pos ((bh_lg0 hd (by omega)).mpr h1)]
          exact ⟨-2, rfl, fun h => absurd (h i hi).2.1 (by clear h; omega), fun _ => rfl⟩
        · rw [if_neg (fun h => h1 ((bh_lg0 hd (by omega)).mp h)), show inb (3 : Int32) 48 = true from by decide, gd_t, show (3 : Int32).toNatClampNeg = 3 from by decide, f3]
          by_cases h2 : bh_sh G' s i % 10 < K
          · rw [if_pos ((bh_lgl (by omega) (by omega)).mpr h2), nI_1]
            refine hk hi _ ⟨rfl, fun j hj => ?_⟩
            by_cases hji : j = i
            · subst hji; exact ⟨h0, by omega, h2⟩
            · exact q j (by omega)
          · rw [if_neg (fun h => h2 ((bh_lgl (by omega) (by omega)).mp h))]
            exact ⟨-2, rfl, fun h => absurd (h i hi).2.2 h2, fun _ => rfl⟩
      · rw [in_f (fun h => h99 (by have := h.2; rw [e1] at this; exact (pk_lLE (b := 99) e2 (by omega)).mp this)), ob_s, if_pos rfl]
        exact ⟨-2, rfl, fun h => absurd (h i hi).2.1 (by clear h; omega), fun _ => rfl⟩
  · have hi2 : i = n := by omega
    subst hi2
    rw [if_pos (nI_le (by omega) (by omega))]
    exact ⟨0, rfl, fun _ => rfl, fun h => absurd q h⟩
def bh_sT (sh : Nat → Nat) (n : Nat) (T : Nat → Nat → Nat) : Nat := bh_mxf (fun i => T (sh i / 10) (sh i % 10)) n
theorem c_shapeT {G : GM} {s n : Nat} {T : Nat → Nat → Nat} {sh : Nat → Nat} (h : bh_VW G R E K T) (hR : R ≤ 3) (hK : K ≤ 5) (hs : s < 4) (u1 : gI G 70 s = 1) (e68 : gI G 68 s = nI n) (hn6 : n ≤ 60) (hv : ∀ i, i < n → gJ G (64 + s) i = lN (sh i) ∧ sh i / 10 < R ∧ sh i % 10 < K) (hT : ∀ r k, r < R → k < K → T r k ≤ 45) : f_X9_shapeTurn (nI s) G = some (nI (bh_sT sh n T), G) := by
  unfold f_X9_shapeTurn bh_sT
  refine wl2_up (P := fun o => o = some (nI (bh_mxf (fun i => T (sh i / 10) (sh i % 10)) n), G)) (I := fun i y G' => G' = G ∧ y = nI (bh_mxf (fun i => T (sh i / 10) (sh i % 10)) i)) (N := n) (by omega) ?_ (n := FU) (i := 0) (Nat.zero_le _) ⟨rfl, rfl⟩ (by unfold FU; omega)
  rintro kc i _ G' hi' ⟨rfl, rfl⟩ hk
  unfold lp_X9_shapeTurn_5
  rw [lengthOf_1 hs u1 e68, ob_s]
  by_cases hi : i < n
  · obtain ⟨v1, v2, v3⟩ := hv i hi
    have hb : bh_mxf (fun i => T (sh i / 10) (sh i % 10)) i ≤ 45 := bh_mxf_le.mpr fun k hk => hT _ _ (hv k (by omega)).2.1 (hv k (by omega)).2.2
    have hb2 := hT _ _ v2 v3
    have d1 : nI (sh i) / (10 : Int32) = nI (sh i / 10) := pk_div (d := 10) (by omega) (by omega) (by omega)
    have d2 : nI (sh i) - nI (sh i) / (10 : Int32) * (10 : Int32) = nI (sh i % 10) := pk_rem (d := 10) (by omega) (by omega) (by omega)
    rw [if_neg (nI_ge hi (by omega)), valueAt_1 hs u1 e68 hn6 hi, ob_s, v1, lN_i, lt_r, d2, d1, bh_turnAt h hR hK v2 v3, ob_s, jmax_n (by omega) (by omega), lt_r, nI_1]
    exact hk hi _ _ ⟨rfl, rfl⟩
  · have hi2 : i = n := by omega
    subst hi2
    rw [if_pos (nI_le (by omega) (by omega))]
theorem m_shapeT {G : GM} {s n c t : Nat} {sh : Nat → Nat} (hV : bh_VH C R E K z) (hE : bh_ME G 0 C R E K z cl) (hp : bh_prm (C * R * E) 1 cl) (hS : bh_SM G 0 C R E K z t) (hc : c < C) (hs : s < 4) (e188 : gI G 188 s = nI n) (hn6 : n ≤ 60) (hv : ∀ i, i < n → gJ G 189 (60 * s + i) = lN (sh i) ∧ sh i / 10 < R ∧ sh i % 10 < K) : f_X10_shapedOf (nI c) (nI s) G = some (nI (bh_sT sh n (bh_T C R E K z t cl c)), G) := by
  have hT := bh_T45 (s := t) hV hp hc
  obtain ⟨hbC, hbR, -, hbK, -⟩ := id hV
  unfold f_X10_shapedOf bh_sT
  refine wl2_up (P := fun o => o = some (nI (bh_mxf (fun i => bh_T C R E K z t cl c (sh i / 10) (sh i % 10)) n), G)) (I := fun i y G' => G' = G ∧ y = nI (bh_mxf (fun i => bh_T C R E K z t cl c (sh i / 10) (sh i % 10)) i)) (N := n) (by omega) ?_ (n := FU) (i := 0) (Nat.zero_le _) ⟨rfl, rfl⟩ (by unfold FU; omega)
  rintro kc i _ G' hi' ⟨rfl, rfl⟩ hk
  unfold lp_X10_shapedOf_5
  rw [inb_n hs (by omega), gd_t, nI_clamp (by omega), e188]
  by_cases hi : i < n
  · obtain ⟨v1, v2, v3⟩ := hv i hi
    have hb : bh_mxf (fun i => bh_T C R E K z t cl c (sh i / 10) (sh i % 10)) i ≤ 45 := bh_mxf_le.mpr fun k hk => hT _ _ (hv k (by omega)).2.1 (hv k (by omega)).2.2
    have d1 : nI (sh i) / (10 : Int32) = nI (sh i / 10) := pk_div (d := 10) (by omega) (by omega) (by omega)
    have d2 : nI (sh i) - nI (sh i) / (10 : Int32) * (10 : Int32) = nI (sh i % 10) := pk_rem (d := 10) (by omega) (by omega) (by omega)
    rw [if_neg (nI_ge hi (by omega)), show (60 : Int32) = nI 60 from rfl, pk_mul, nI_add, inb_n (by omega) (by omega), gd_t, nI_clamp (by omega), v1, lN_i, lt_r, d2, d1, m_at0, ob_s, inb_n (by omega) (by omega), gd_t, nI_clamp (by omega), SM0 hS (by omega) (by omega) (by omega), if_pos ⟨hc, v2, v3⟩, m_later hV hE hp hb (bh_ST_N hV t hc v2 v3), ob_s, nI_1]
    exact hk hi _ _ ⟨rfl, rfl⟩
  · have hi2 : i = n := by omega
    subst hi2
    rw [if_pos (nI_le (by omega) (by omega))]
/-- the slot that is asked stays -/
theorem bh_slF {G G' : GM} {s n : Nat} {sh : Nat → Nat} (hs : s < 4) (hF : bh_F bh_SCR G G') (u1 : gI G 70 s = 1) (e68 : gI G 68 s = nI n) (e188 : gI G 188 s = nI n) (hv : ∀ i, i < n → gJ G (64 + s) i = lN (sh i) ∧ sh i / 10 < R ∧ sh i % 10 < K) (ev : ∀ i, i < n → gJ G (64 + s) i = gJ G 189 (60 * s + i)) : gI G' 70 s = 1 ∧ gI G' 68 s = nI n ∧ gI G' 188 s = nI n ∧ (∀ i, i < n → gJ G' (64 + s) i = lN (sh i) ∧ sh i / 10 < R ∧ sh i % 10 < K) ∧ ∀ i, i < n → gJ G' 189 (60 * s + i) = lN (sh i) ∧ sh i / 10 < R ∧ sh i % 10 < K := by
  have k : ∀ a q, ((64 ≤ a ∧ a ≤ 70) ∨ (187 ≤ a ∧ a ≤ 189)) → ¬ bh_SCR a q := fun a q h => by unfold bh_SCR; omega
  refine ⟨by rw [hF.1 _ _ (k _ _ (by omega))]; exact u1, by rw [hF.1 _ _ (k _ _ (by omega))]; exact e68, by rw [hF.1 _ _ (k _ _ (by omega))]; exact e188, fun i hi => ?_, fun i hi => ?_⟩
  · rw [hF.2.1 _ _ (k _ _ (by omega))]; exact hv i hi
  · rw [hF.2.1 _ _ (k _ _ (by omega)), ← ev i hi]; exact hv i hi
end SP
theorem q_shaped (x1 x2 x3 : Int32) : bh_Qy (f_X9_shaped x1 x2 x3) (f_X10_shaped x1 x2 x3) := by
  intro G hR
  have hh := bh_nwc hR
  have fT := bh_thr G
  rcases hR.2.2.2.2.1 with h0 | ⟨ln, C, R, E, K, m, pu, bb, z, sv, cl, pr, hN, hC, hM⟩
  · have h02 := bh_sc0 hh h0 fT
    exact bh_qy hR (v := (-2 : Int32)) (by unfold f_X9_shaped; rw [c_isSerialN rfl h0 _, ob_s, bh_i0]) (by unfold f_X10_shaped; rw [lt_r, m_isSerialN h02 _, ob_s, bh_i0]) (bh_Fr _ _) (bh_thr G)
  have hM2 := bh_scM hN hM fT
  have hV := hN.2.1
  have h45 := bh_N45 hV
  have hbC := hV.1
  have hbR := hV.2.1
  have hbE := hV.2.2.1
  have hbK := hV.2.2.2.1
  have hbm := hN.2.2.1
  have hp := hN.2.2.2.2.2.2.2
  rcases bh_cls (x := x1) (p := fun j => j < 10000) with ⟨t, ht, rfl⟩ | nt
  rotate_left
  · exact bh_qy hR (v := (-2 : Int32)) (by unfold f_X9_shaped; rw [c_isSerial0 rfl hN hC nt, ob_s, bh_i0]) (by unfold f_X10_shaped; rw [lt_r, m_isSerial0 hN hM2 nt, ob_s, bh_i0]) (bh_Fr _ _) (bh_thr G)
  rcases bh_cls (x := x2) (p := fun j => j < C) with ⟨c, hc, rfl⟩ | nc
  rotate_left
  · exact bh_qy hR (v := (-2 : Int32)) (by unfold f_X9_shaped; rw [c_isSerial1 rfl hN hC ht, ob_s, bh_i1, c_isCard0 rfl hN hC nc, ob_s, bh_i0]) (by unfold f_X10_shaped; rw [lt_r, m_isSerial1 hN hM2 ht, ob_s, bh_i1, m_isCard0 hN hM2 nc, ob_s, bh_i0]) (bh_Fr _ _) (bh_thr G)
  rcases bh_cls (x := x3) (p := fun j => j < 4) with ⟨s, hs, rfl⟩ | ns
  rotate_left
  · exact bh_qy hR (v := (-2 : Int32)) (by unfold f_X9_shaped; rw [c_isSerial1 rfl hN hC ht, ob_s, bh_i1, c_isCard1 rfl hN hC hc, ob_s, bh_i1, isSlot_x (by exact ns), ob_s, bh_i0]) (by unfold f_X10_shaped; rw [lt_r, m_isSerial1 hN hM2 ht, ob_s, bh_i1, m_isCard1 hN hM2 hc, ob_s, bh_i1, show f_X10_whyNotShape x3 (sI G 186 0 0) = some (-2, sI G 186 0 0) from by unfold f_X10_whyNotShape; rw [m_why0 ns, ob_s, if_neg (by decide)], ob_s, if_neg (by decide)]) (bh_Fr _ _) (bh_thr G)
  rcases hR.1 s hs with ⟨u0, u1⟩ | ⟨u1, w, n, hw, hn, e187, e69, e68, e188, ev⟩
  · exact bh_qy hR (v := (-6 : Int32)) (by unfold f_X9_shaped; rw [c_isSerial1 rfl hN hC ht, ob_s, bh_i1, c_isCard1 rfl hN hC hc, ob_s, bh_i1, isSlot_n hs, ob_s, bh_i1, hasRow_0 hs u0, ob_s, bh_i0]) (by unfold f_X10_shaped; rw [lt_r, m_isSerial1 hN hM2 ht, ob_s, bh_i1, m_isCard1 hN hM2 hc, ob_s, bh_i1, show f_X10_whyNotShape (nI s) (sI G 186 0 0) = some (-6, sI G 186 0 0) from by unfold f_X10_whyNotShape; rw [m_why6 hN hM2 hs (by rw [gI_sIa (by omega)]; exact u1), ob_s, if_neg (by decide)], ob_s, if_neg (by decide)]) (bh_Fr _ _) fT
  obtain ⟨v9, e9, a1, a0⟩ := c_isShape rfl hN hC hs u1 e68 hn
  by_cases hsh : ∀ i, i < n → bh_gd G s R K i
  rotate_left
  · obtain ⟨v10, e10, b0, b2⟩ := m_whyShape hN hM2 hs hw (by rw [gI_sIa (by omega)]; exact e187) (by rw [gI_sIa (by omega)]; exact e188) hn (fun i hi => by rw [gJ_sI, gJ_sI]; exact ev i hi)
    exact bh_qy hR (v := (-2 : Int32)) (by unfold f_X9_shaped; rw [c_isSerial1 rfl hN hC ht, ob_s, bh_i1, c_isCard1 rfl hN hC hc, ob_s, bh_i1, isSlot_n hs, ob_s, bh_i1, hasRow_1 hs u1, ob_s, bh_i1, e9, ob_s, a0 hsh, bh_i0]) (by unfold f_X10_shaped; rw [lt_r, m_isSerial1 hN hM2 ht, ob_s, bh_i1, m_isCard1 hN hM2 hc, ob_s, bh_i1, e10, ob_s, b2 hsh, if_neg (by decide)]) (bh_Fr _ _) fT
  have hv : ∀ i, i < n → gJ G (64 + s) i = lN (bh_sh G s i) ∧ bh_sh G s i / 10 < R ∧ bh_sh G s i % 10 < K := fun i hi => ⟨(bh_sh_lN (hsh i hi).1).1, (hsh i hi).2⟩
  obtain ⟨G1, e1, v1, F1⟩ := c_cardOf rfl hh hN hC ht hc
  have hT := bh_T45 (s := t) hV hp hc
  have sl1 := bh_slF hs F1 u1 e68 e188 hv ev
  have e2 := c_shapeT v1 hbR.2 hbK.2 hs sl1.1 sl1.2.1 hn sl1.2.2.2.1 hT
  have FT := bh_Ft F1 (bh_thr G1)
  have hM2 := bh_scM hN hM FT
  have slT := bh_slF hs FT u1 e68 e188 hv ev
  obtain ⟨G2, e3, p3, -, F3⟩ := m_makes hN hM2 ht
  have F3' := bh_WS (by omega) F3
  have hM3 := bh_scM hN hM2 F3'
  have sl3 := bh_slF hs (bh_Ft FT F3') u1 e68 e188 hv ev
  obtain ⟨v10, e10, b0, b2⟩ := m_whyShape (G := sI G1 186 0 0) hN hM2 hs hw (by rw [FT.1 _ _ (by unfold bh_SCR; omega)]; exact e187) slT.2.2.1 hn (fun i hi => by rw [(slT.2.2.2.1 i hi).1, (slT.2.2.2.2 i hi).1])
  have hsh' : ∀ i, i < n → bh_gd (sI G1 186 0 0) s R K i := fun i hi => by
    have he : gJ (sI G1 186 0 0) (64 + s) i = gJ G (64 + s) i := by rw [(slT.2.2.2.1 i hi).1, (hv i hi).1]
    have := hsh i hi
    unfold bh_gd bh_sh at this ⊢
    rw [he]; exact this
  exact bh_qy hR (v := nI (bh_sT (bh_sh G s) n (bh_T C R E K z t cl c))) (G1 := G1) (G2 := G2) (by unfold f_X9_shaped; rw [c_isSerial1 rfl hN hC ht, ob_s, bh_i1, c_isCard1 rfl hN hC hc, ob_s, bh_i1, isSlot_n hs, ob_s, bh_i1, hasRow_1 hs u1, ob_s, bh_i1, e9, ob_s, a1 hsh, bh_i1, e1, ob_s, e2, ob_s]) (by unfold f_X10_shaped; rw [lt_r, m_isSerial1 hN hM2 ht, ob_s, bh_i1, m_isCard1 hN hM2 hc, ob_s, bh_i1, e10, ob_s, b0 hsh', if_pos rfl, e3, ov_s, m_shapeT hV (bh_ME_of hM3) hp p3 hc hs sl3.2.2.1 hn sl3.2.2.2.2, ob_s]) F1 (bh_Ft (bh_thr _) F3')
/-- the first to have a shape: when, and who -/
def bh_sp (C : Nat) (f : Nat → Nat → Nat) : Nat → Int32 × Int32
  | 0 => (-1, -1)
  | j + 1 => if (bh_sp C f j).1 = -1 ∨ nI (f (j / C) (j % C)) < (bh_sp C f j).1 then (nI (f (j / C) (j % C)), nI (10 * (j / C) + j % C)) else bh_sp C f j
theorem bh_sp_at {C i c : Nat} (f : Nat → Nat → Nat) (hc : c < C) : bh_sp C f (i * C + (c + 1)) = if (bh_sp C f (i * C + c)).1 = -1 ∨ nI (f i c) < (bh_sp C f (i * C + c)).1 then (nI (f i c), nI (10 * i + c)) else bh_sp C f (i * C + c) := by
  have e : bh_sp C f (i * C + (c + 1)) = if (bh_sp C f (i * C + c)).1 = -1 ∨ nI (f ((i * C + c) / C) ((i * C + c) % C)) < (bh_sp C f (i * C + c)).1 then (nI (f ((i * C + c) / C) ((i * C + c) % C)), nI (10 * ((i * C + c) / C) + (i * C + c) % C)) else bh_sp C f (i * C + c) := rfl
  rw [e, (bh_dm hc).1, (bh_dm hc).2]
theorem q_shape (x1 x2 : Int32) : bh_Qy (f_X9_shape x1 x2) (f_X10_shape x1 x2) := by
  intro G hR
  have hh := bh_nwc hR
  have fT := bh_thr G
  rcases hR.2.2.2.2.1 with h0 | ⟨ln, C, R, E, K, m, pu, bb, z, sv, cl, pr, hN, hC, hM⟩
  · have h02 := bh_sc0 hh h0 fT
    refine bh_qy hR (v := (-2 : Int32)) (by unfold f_X9_shape; rw [c_noHall rfl h0, ob_s, bh_i0]) ?_ (bh_Fr _ _) (bh_thr G)
    unfold f_X10_shape
    rcases bh_cls (x := x2) (p := fun j => j < 2) with ⟨w, hw, rfl⟩ | nw2
    · rw [lt_r, m_in1 (l := 0) (b := 1) (by omega) (by decide) (by decide) (by omega) (by omega), ob_s, bh_i1, show f_X10_whyNotShape x1 (sI G 186 0 0) = some (-2, sI G 186 0 0) from by unfold f_X10_whyNotShape; rw [m_whyN' _ h02, ob_s, if_neg (by decide)], ob_s]
      unfold k_X10_shape_25
      rw [if_neg (by decide)]
    · rw [lt_r, m_in0 (l := 0) (b := 1) (by decide) (by decide) (fun j _ _ h he => nw2 ⟨j, by omega, he⟩), ob_s, bh_i0]
      unfold k_X10_shape_25
      rw [if_neg (by decide)]
  have hM2 := bh_scM hN hM fT
  have hV := hN.2.1
  have h45 := bh_N45 hV
  have hbC := hV.1
  have hbR := hV.2.1
  have hbE := hV.2.2.1
  have hbK := hV.2.2.2.1
  have hbm := hN.2.2.1
  have hp := hN.2.2.2.2.2.2.2
  rcases bh_cls (x := x1) (p := fun j => j < 4) with ⟨s, hs, rfl⟩ | ns
  rotate_left
  · refine bh_qy hR (v := (-2 : Int32)) (by unfold f_X9_shape; rw [c_isHall rfl hN hC, ob_s, bh_i1, isSlot_x (by exact ns), ob_s, bh_i0]) ?_ (bh_Fr _ _) (bh_thr G)
    unfold f_X10_shape
    rcases bh_cls (x := x2) (p := fun j => j < 2) with ⟨w, hw, rfl⟩ | nw2
    · rw [lt_r, m_in1 (l := 0) (b := 1) (by omega) (by decide) (by decide) (by omega) (by omega), ob_s, bh_i1, show f_X10_whyNotShape x1 (sI G 186 0 0) = some (-2, sI G 186 0 0) from by unfold f_X10_whyNotShape; rw [m_why0 ns, ob_s, if_neg (by decide)], ob_s]
      unfold k_X10_shape_25
      rw [if_neg (by decide)]
    · rw [lt_r, m_in0 (l := 0) (b := 1) (by decide) (by decide) (fun j _ _ h he => nw2 ⟨j, by omega, he⟩), ob_s, bh_i0]
      unfold k_X10_shape_25
      rw [if_neg (by decide)]
  rcases bh_cls (x := x2) (p := fun j => j < 2) with ⟨w2, hw2, rfl⟩ | nw2
  rotate_left
  · refine bh_qy hR (v := (-2 : Int32)) (by unfold f_X9_shape; rw [c_isHall rfl hN hC, ob_s, bh_i1, isSlot_n hs, ob_s, bh_i1, pD0 (M := 1) (n := 1) rfl (by omega) nw2]) ?_ (bh_Fr _ _) (bh_thr G)
    unfold f_X10_shape
    rw [lt_r, m_in0 (l := 0) (b := 1) (by decide) (by decide) (fun j _ _ h he => nw2 ⟨j, by omega, he⟩), ob_s, bh_i0]
    unfold k_X10_shape_25
    rw [if_neg (by decide)]
  rcases hR.1 s hs with ⟨u0, u1⟩ | ⟨u1, w, n, hw, hn, e187, e69, e68, e188, ev⟩
  · refine bh_qy hR (v := (-6 : Int32)) (by unfold f_X9_shape; rw [c_isHall rfl hN hC, ob_s, bh_i1, isSlot_n hs, ob_s, bh_i1, pD1 (M := 1) (n := 1) rfl hw2 (by omega), hasRow_0 hs u0, ob_s, bh_i0]) ?_ (bh_Fr _ _) fT
    unfold f_X10_shape
    rw [lt_r, m_in1 (l := 0) (b := 1) (by omega) (by decide) (by decide) (by omega) (by omega), ob_s, bh_i1, show f_X10_whyNotShape (nI s) (sI G 186 0 0) = some (-6, sI G 186 0 0) from by unfold f_X10_whyNotShape; rw [m_why6 hN hM2 hs (by rw [gI_sIa (by omega)]; exact u1), ob_s, if_neg (by decide)], ob_s]
    unfold k_X10_shape_25
    rw [if_neg (by decide)]
  obtain ⟨v9, e9, a1, a0⟩ := c_isShape rfl hN hC hs u1 e68 hn
  by_cases hsh : ∀ i, i < n → bh_gd G s R K i
  rotate_left
  · obtain ⟨v10, e10, b0, b2⟩ := m_whyShape hN hM2 hs hw (by rw [gI_sIa (by omega)]; exact e187) (by rw [gI_sIa (by omega)]; exact e188) hn (fun i hi => by rw [gJ_sI, gJ_sI]; exact ev i hi)
    refine bh_qy hR (v := (-2 : Int32)) (by unfold f_X9_shape; rw [c_isHall rfl hN hC, ob_s, bh_i1, isSlot_n hs, ob_s, bh_i1, pD1 (M := 1) (n := 1) rfl hw2 (by omega), hasRow_1 hs u1, ob_s, bh_i1, e9, ob_s, a0 hsh, bh_i0]) ?_ (bh_Fr _ _) fT
    unfold f_X10_shape
    rw [lt_r, m_in1 (l := 0) (b := 1) (by omega) (by decide) (by decide) (by omega) (by omega), ob_s, bh_i1, e10, ob_s, b2 hsh]
    unfold k_X10_shape_25
    rw [if_neg (by decide)]
  have hv : ∀ i, i < n → gJ G (64 + s) i = lN (bh_sh G s i) ∧ bh_sh G s i / 10 < R ∧ bh_sh G s i % 10 < K := fun i hi => ⟨(bh_sh_lN (hsh i hi).1).1, (hsh i hi).2⟩
  have a1 := a1 hsh
  obtain ⟨sh, esh⟩ : ∃ sh, sh = bh_sh G s := ⟨_, rfl⟩
  rw [← esh] at hv
  have hmC : m * C ≤ 24 := Nat.mul_le_mul hbm hbC.2
  obtain ⟨f, ef⟩ : ∃ f : Nat → Nat → Nat, f = fun i c => bh_sT sh n (bh_T C R E K z (sv i) cl c) := ⟨_, rfl⟩
  have fle : ∀ i c, c < C → f i c ≤ 45 := fun i c hc => by
    rw [ef]
    exact bh_mxf_le.mpr fun k hk => bh_T45 (s := sv i) hV hp hc _ _ (hv k hk).2.1 (hv k hk).2.2
  have cs : ∃ G', wl3 FU (lp_X9_shape_63 (nI s) (nI w2)) (-1 : Int32) (-1 : Int32) (0 : Int32) G = some (if nI w2 = 0 then (bh_sp C f (m * C)).1 else (bh_sp C f (m * C)).2, G') ∧ bh_F bh_W7 G G' := by
    refine bh_wl3_up (P := fun o => ∃ G', o = some (if nI w2 = 0 then (bh_sp C f (m * C)).1 else (bh_sp C f (m * C)).2, G') ∧ bh_F bh_W7 G G') (I := fun i x y G1 => x = (bh_sp C f (i * C)).1 ∧ y = (bh_sp C f (i * C)).2 ∧ bh_F bh_W7 G G1) (N := m) (by omega) ?_ (n := FU) (i := 0) (Nat.zero_le _) ⟨by rw [Nat.zero_mul]; rfl, by rw [Nat.zero_mul]; rfl, bh_Fr _ _⟩ (by unfold FU; omega)
    rintro kc i _ _ G1 hi' ⟨rfl, rfl, F1⟩ hkc
    have c1 := bh_CT_F hh hbm (by omega) (bh_CT_of rfl hN hC) F1
    unfold lp_X9_shape_63
    rw [c1.1, c1.2.1.1.2.2.2]
    by_cases hi : i < m
    · rw [if_neg (nI_ge hi (by omega))]
      refine bh_wl3_up (P := fun o => ∃ G', o = some (if nI w2 = 0 then (bh_sp C f (m * C)).1 else (bh_sp C f (m * C)).2, G') ∧ bh_F bh_W7 G G') (I := fun c x y G2 => x = (bh_sp C f (i * C + c)).1 ∧ y = (bh_sp C f (i * C + c)).2 ∧ bh_F bh_W7 G G2) (N := C) (by omega) ?_ (n := FU) (i := 0) (Nat.zero_le _) ⟨rfl, rfl, F1⟩ (by unfold FU; omega)
      rintro kc2 c _ _ G2 hc' ⟨rfl, rfl, F2⟩ hk2
      have c2 := bh_CT_F hh hbm (by omega) (bh_CT_of rfl hN hC) F2
      unfold lp_X9_shape_78
      rw [c2.1, c2.2.1.2.1.1.1]
      by_cases hc : c < C
      · obtain ⟨G3, e3, v3, F3⟩ := c_soldCard c2.1 hh hN c2.2.1 hi hc hp c2.2.2 (c_LN hh).2.1 (by omega)
        have F23 := bh_Ft F2 (bh_Fm (W' := bh_W7) F3 (fun a q h => by unfold bh_W7; omega))
        have sl := bh_slF hs (scrW7 F23) u1 e68 e188 hv ev
        have e4 : f_X9_shapeTurn (nI s) G3 = some (nI (f i c), G3) := by
          rw [ef]; exact c_shapeT v3 hbR.2 hbK.2 hs sl.1 sl.2.1 hn sl.2.2.2.1 (bh_T45 (s := sv i) hV hp hc)
        have es := bh_sp_at (i := i) f hc
        rw [if_neg (nI_ge hc (by omega)), e3, ob_s, e4, ob_s]
        by_cases h1 : (bh_sp C f (i * C + c)).1 = -1
        · rw [if_pos (Or.inl h1)] at es
          rw [if_pos h1]
          unfold k_X9_shape_126
          rw [show (10 : Int32) = nI 10 from rfl, pk_mul, nI_add, lt_r, nI_1]
          exact hk2 hc _ _ _ ⟨by rw [es], by rw [es], F23⟩
        · rw [if_neg h1]
          by_cases h2 : (bh_sp C f (i * C + c)).1 ≤ nI (f i c)
          · rw [if_neg (fun q => q.elim h1 (fun q => absurd q (Int32.not_lt.mpr h2)))] at es
            rw [if_pos h2, nI_1]
            exact hk2 hc _ _ _ ⟨by rw [es], by rw [es], F23⟩
          · rw [if_pos (Or.inr (Int32.not_le.mp h2))] at es
            rw [if_neg h2]
            unfold k_X9_shape_126
            rw [show (10 : Int32) = nI 10 from rfl, pk_mul, nI_add, lt_r, nI_1]
            exact hk2 hc _ _ _ ⟨by rw [es], by rw [es], F23⟩
      · have hc2 : c = C := by omega
        subst hc2
        rw [if_pos (nI_le (by omega) (by omega)), nI_1]
        exact hkc hi _ _ _ ⟨by rw [Nat.succ_mul], by rw [Nat.succ_mul], F2⟩
    · have hi2 : i = m := by omega
      subst hi2
      rw [if_pos (nI_le (by omega) (by omega))]
      refine ⟨G1, ?_, F1⟩
      by_cases hw0 : nI w2 = (0 : Int32)
      · rw [if_pos hw0, if_pos hw0]
      · rw [if_neg hw0, if_neg hw0]
  obtain ⟨G1, e1, F1⟩ := cs
  have FT := bh_Ft (scrW7 F1) (bh_thr G1)
  have hM2 := bh_scM hN hM FT
  have slT := bh_slF hs FT u1 e68 e188 hv ev
  obtain ⟨v10, e10, b0, b2⟩ := m_whyShape (G := sI G1 186 0 0) hN hM2 hs hw (by rw [FT.1 _ _ (by unfold bh_SCR; omega)]; exact e187) slT.2.2.1 hn (fun i hi => by rw [(slT.2.2.2.1 i hi).1, (slT.2.2.2.2 i hi).1])
  have hsh' : ∀ i, i < n → bh_gd (sI G1 186 0 0) s R K i := fun i hi => by
    have he : gJ (sI G1 186 0 0) (64 + s) i = gJ G (64 + s) i := by rw [(slT.2.2.2.1 i hi).1, (hv i hi).1]
    have := hsh i hi
    unfold bh_gd bh_sh at this ⊢
    rw [he]; exact this
  have b0 := b0 hsh'
  clear hsh hsh' a0 b2
  have ms : ∃ G', wl3 FU (lp_X10_shape_41 (nI s) (nI w2)) (-1 : Int32) (-1 : Int32) (0 : Int32) (sI G1 186 0 0) = some (if nI w2 = 0 then (bh_sp C f (m * C)).1 else (bh_sp C f (m * C)).2, G') ∧ bh_F bh_Wr (sI G1 186 0 0) G' := by
    refine bh_wl3_up (P := fun o => ∃ G', o = some (if nI w2 = 0 then (bh_sp C f (m * C)).1 else (bh_sp C f (m * C)).2, G') ∧ bh_F bh_Wr (sI G1 186 0 0) G') (I := fun i x y G2 => x = (bh_sp C f (i * C)).1 ∧ y = (bh_sp C f (i * C)).2 ∧ bh_F bh_Wr (sI G1 186 0 0) G2) (N := m) (by omega) ?_ (n := FU) (i := 0) (Nat.zero_le _) ⟨by rw [Nat.zero_mul]; rfl, by rw [Nat.zero_mul]; rfl, bh_Fr _ _⟩ (by unfold FU; omega)
    rintro kc i _ _ G2 hi' ⟨rfl, rfl, F2⟩ hkc
    have hM3 := bh_scM hN hM2 (scrWr F2)
    have e4 : gI G2 193 4 = nI m := hM3.1.2.1
    unfold lp_X10_shape_41
    rw [show inb (4 : Int32) 48 = true from by decide, gd_t, show (4 : Int32).toNatClampNeg = 4 from by decide, e4]
    by_cases hi : i < m
    · have e5 : gI G2 196 i = nI (sv i) := by
        have := hM3.2.2.2.1 i hi
        rwa [Nat.mul_zero, Nat.zero_add] at this
      have hsv := hN.2.2.2.2.2.2.1 i hi
      obtain ⟨G3, e3, p3, -, F3⟩ := m_makes hN hM3 (s := sv i) (by omega)
      have F23 := bh_Ft F2 (bh_WkWr F3)
      have hM4 := bh_scM hN hM2 (scrWr F23)
      have sl := bh_slF hs (bh_Ft FT (scrWr F23)) u1 e68 e188 hv ev
      have e0 : gI G3 193 0 = nI C := hM4.2.1.1
      rw [if_neg (nI_ge hi (by omega)), inb_n (by omega) (by omega), gd_t, nI_clamp (by omega), e5, e3, ov_s]
      refine bh_wl3_up (P := fun o => ∃ G', o = some (if nI w2 = 0 then (bh_sp C f (m * C)).1 else (bh_sp C f (m * C)).2, G') ∧ bh_F bh_Wr (sI G1 186 0 0) G') (I := fun c x y G4 => G4 = G3 ∧ x = (bh_sp C f (i * C + c)).1 ∧ y = (bh_sp C f (i * C + c)).2) (N := C) (by omega) ?_ (n := FU) (i := 0) (Nat.zero_le _) ⟨rfl, rfl, rfl⟩ (by unfold FU; omega)
      rintro kc2 c _ _ G4 hc' ⟨rfl, rfl, rfl⟩ hk2
      unfold lp_X10_shape_68
      rw [show inb (0 : Int32) 48 = true from by decide, gd_t, show (0 : Int32).toNatClampNeg = 0 from by decide, e0]
      by_cases hc : c < C
      · have e6 : f_X10_shapedOf (nI c) (nI s) G4 = some (nI (f i c), G4) := by
          rw [ef]; exact m_shapeT hV (bh_ME_of hM4) hp p3 hc hs sl.2.2.1 hn sl.2.2.2.2
        have es := bh_sp_at (i := i) f hc
        rw [if_neg (nI_ge hc (by omega)), e6, ob_s]
        by_cases h1 : (bh_sp C f (i * C + c)).1 = -1
        · rw [if_pos (Or.inl h1)] at es
          rw [if_pos h1]
          unfold k_X10_shape_104
          rw [show (10 : Int32) = nI 10 from rfl, pk_mul, nI_add, lt_r, nI_1]
          exact hk2 hc _ _ _ ⟨rfl, by rw [es], by rw [es]⟩
        · rw [if_neg h1]
          by_cases h2 : nI (f i c) < (bh_sp C f (i * C + c)).1
          · rw [if_pos (Or.inr h2)] at es
            rw [if_pos h2]
            unfold k_X10_shape_104
            rw [show (10 : Int32) = nI 10 from rfl, pk_mul, nI_add, lt_r, nI_1]
            exact hk2 hc _ _ _ ⟨rfl, by rw [es], by rw [es]⟩
          · rw [if_neg (fun q => q.elim h1 h2)] at es
            rw [if_neg h2, nI_1]
            exact hk2 hc _ _ _ ⟨rfl, by rw [es], by rw [es]⟩
      · have hc2 : c = C := by omega
        subst hc2
        rw [if_pos (nI_le (by omega) (by omega)), nI_1]
        exact hkc hi _ _ _ ⟨by rw [Nat.succ_mul], by rw [Nat.succ_mul], F23⟩
    · have hi2 : i = m := by omega
      subst hi2
      rw [if_pos (nI_le (by omega) (by omega))]
      refine ⟨G2, ?_, F2⟩
      by_cases hw0 : nI w2 = (0 : Int32)
      · rw [if_pos hw0, if_pos hw0]
      · rw [if_neg hw0, if_neg hw0]
  obtain ⟨G2, e2, F2⟩ := ms
  refine bh_qy hR (v := if nI w2 = 0 then (bh_sp C f (m * C)).1 else (bh_sp C f (m * C)).2) (G1 := G1) (G2 := G2) (by unfold f_X9_shape; rw [c_isHall rfl hN hC, ob_s, bh_i1, isSlot_n hs, ob_s, bh_i1, pD1 (M := 1) (n := 1) rfl hw2 (by omega), hasRow_1 hs u1, ob_s, bh_i1, e9, ob_s, a1, bh_i1, e1]) ?_ (scrW7 F1) (bh_Ft (bh_thr _) (scrWr F2))
  unfold f_X10_shape
  rw [lt_r, m_in1 (l := 0) (b := 1) (by omega) (by decide) (by decide) (by omega) (by omega), ob_s, bh_i1, e10, ob_s, b0]
  unfold k_X10_shape_25
  rw [if_pos rfl, e2]
