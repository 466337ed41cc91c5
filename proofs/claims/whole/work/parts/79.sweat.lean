/-! questions: sweat, nearest, race -/
section RX
variable {ln C R E K m pu bb : Nat} {z sv cl pr cl' : Nat → Nat}
def bh_lQ (C R E K : Nat) (z sv cl : Nat → Nat) (kind n i c : Nat) : Int32 := bh_lI K R (bh_T C R E K z (sv i) cl c) kind n
theorem c_sl {G : GM} {h i c kind n : Nat} (hh : h = 1 ∨ h = 23) (hN : bh_HN ln C R E K m pu bb z sv cl pr) (hc : bh_CT G h (h + 21) ln C R E K m pu bb z sv cl pr cl) (hi : i < m) (hcc : c < C) (hk : kind < 3) (hn : n ≤ 45) : ∃ G1 G2, f_X9_soldCard (nI i) (nI c) (h + 21) G = some (71, G1) ∧ f_X0_lackOf (nI kind) (nI n) G1 = some (bh_lQ C R E K z sv cl kind n i c, G2) ∧ bh_F bh_W7 G G2 := by
  have hV := hN.2.1
  have hp := hN.2.2.2.2.2.2.2
  obtain ⟨G1, e1, v1, F1⟩ := c_soldCard hc.1 hh hN hc.2.1 hi hcc hp hc.2.2 (c_LN hh).2.1 (by omega)
  obtain ⟨G2, e2, F2⟩ := bh_lackOf v1 hV.2.1 hV.2.2.2.1.2 hk hn (bh_T45 hV hp hcc)
  exact ⟨G1, G2, e1, e2, bh_Ft (bh_Fm F1 (fun a q h => by unfold bh_W7; omega)) (bh_Fm F2 (fun a q h => by unfold bh_W7; omega))⟩
/-- the fewest, as both sides look for it -/
def bh_nr (f : Nat → Int32) : Nat → Int32
  | 0 => -1
  | j + 1 => if f j = -1 then bh_nr f j else if bh_nr f j = -1 then f j else if bh_nr f j ≤ f j then bh_nr f j else f j
theorem bh_nr_s (f : Nat → Int32) (j : Nat) : bh_nr f (j + 1) = if f j = -1 then bh_nr f j else if bh_nr f j = -1 then f j else if bh_nr f j ≤ f j then bh_nr f j else f j := rfl
theorem bh_nr_at (f : Nat → Nat → Int32) {i c : Nat} (hc : c < C) : bh_nr (fun j => f (j / C) (j % C)) (i * C + c + 1) = if f i c = -1 then bh_nr (fun j => f (j / C) (j % C)) (i * C + c) else if bh_nr (fun j => f (j / C) (j % C)) (i * C + c) = -1 then f i c else if bh_nr (fun j => f (j / C) (j % C)) (i * C + c) ≤ f i c then bh_nr (fun j => f (j / C) (j % C)) (i * C + c) else f i c := by
  have h := bh_nr_s (fun j => f (j / C) (j % C)) (i * C + c)
  have e1 : f ((i * C + c) / C) ((i * C + c) % C) = f i c := by rw [(bh_dm hc).1, (bh_dm hc).2]
  rw [e1] at h
  exact h
theorem bh_nr_tQ {kind i : Nat} (hV : bh_VH C R E K z) (hp : bh_prm (C * R * E) 1 cl) (hk : kind < 3) : ∀ n, n ≤ C → bh_nr (bh_tQ C R E K z sv cl kind i) n = if (kind = 1 ∧ R < 2) ∨ n = 0 then -1 else nI (bh_mn (bh_tG C R E K z sv cl kind i) n)
  | 0, _ => by rw [if_pos (Or.inr rfl)]; rfl
  | n + 1, hn => by
    have h45 := bh_N45 hV
    have ih := bh_nr_tQ (i := i) hV hp hk n (by omega)
    rw [bh_nr_s, ih]
    by_cases hcan : kind = 1 ∧ R < 2
    · rw [bh_tQ_0 hcan, if_pos rfl, if_pos (Or.inl hcan), if_pos (Or.inl hcan)]
    · have hle := bh_tG_le (sv := sv) (i := i) hV hp hk hcan (show n < C by omega)
      have e2 : (if (kind = 1 ∧ R < 2) ∨ n + 1 = 0 then (-1 : Int32) else nI (bh_mn (bh_tG C R E K z sv cl kind i) (n + 1))) = nI (bh_mn (bh_tG C R E K z sv cl kind i) (n + 1)) := if_neg (fun q => q.elim hcan (by omega))
      rw [e2, bh_tQ_1 hcan, if_neg (nIm1 (by omega)), bh_mn_s]
      by_cases h0 : n = 0
      · subst h0
        rw [if_pos (Or.inr rfl), if_pos rfl, if_pos rfl]
      · obtain ⟨-, k, q2, q3⟩ := bh_mn_is (f := bh_tG C R E K z sv cl kind i) (n := n) (by omega)
        have hle2 := bh_tG_le (sv := sv) (i := i) hV hp hk hcan (c := k) (by omega)
        have e1 : (if (kind = 1 ∧ R < 2) ∨ n = 0 then (-1 : Int32) else nI (bh_mn (bh_tG C R E K z sv cl kind i) n)) = nI (bh_mn (bh_tG C R E K z sv cl kind i) n) := if_neg (fun q => q.elim hcan h0)
        rw [e1, if_neg (nIm1 (by omega)), if_neg h0]
        by_cases hlt : bh_mn (bh_tG C R E K z sv cl kind i) n ≤ bh_tG C R E K z sv cl kind i n
        · rw [if_pos (nI_le hlt (by omega)), Nat.min_eq_left hlt]
        · rw [if_neg (by rw [nI_leI (by omega) (by omega)]; exact hlt), Nat.min_eq_right (by omega)]
def bh_fQ (C R E K : Nat) (z sv cl : Nat → Nat) (kind i : Nat) : Int32 := bh_nr (bh_tQ C R E K z sv cl kind i) C
theorem c_fQ {G : GM} {h i kind : Nat} (hh : h = 1 ∨ h = 23) (hN : bh_HN ln C R E K m pu bb z sv cl pr) (hc : bh_CT G h (h + 21) ln C R E K m pu bb z sv cl pr cl) (hi : i < m) (hk : kind < 3) : ∃ G', f_X9_firstTurnOf (nI i) (nI kind) (h + 21) G = some (bh_fQ C R E K z sv cl kind i, G') ∧ bh_F bh_W7 G G' := by
  obtain ⟨G', e, F⟩ := c_fTO hh hN hc hN.2.2.2.2.2.2.2 (c_LN hh).2.1 (by omega) hi hk
  refine ⟨G', ?_, F⟩
  rw [e]
  unfold bh_fQ
  have hC := hN.2.1.1
  rw [bh_nr_tQ hN.2.1 hN.2.2.2.2.2.2.2 hk C (Nat.le_refl _)]
  by_cases hcan : kind = 1 ∧ R < 2
  · rw [if_pos hcan, if_pos (Or.inl hcan)]
  · rw [if_neg hcan, if_neg (fun q => q.elim hcan (by omega))]
theorem m_wO {G : GM} {i kind : Nat} (hN : bh_HN ln C R E K m pu bb z sv cl pr) (hM : bh_HM G 0 ln C R E K m pu bb z sv cl pr) (h9 : ∀ i c, i < m → c < C → gI G 209 (3 * i + c) = bh_tQ C R E K z sv cl kind i c) (hi : i < m) : f_X10_whenOf (nI i) G = some (bh_fQ C R E K z sv cl kind i, G) := by
  have hbC := hN.2.1.1
  have hbm := hN.2.2.1
  have e0 : gI G 193 0 = nI C := hM.2.1.1
  unfold f_X10_whenOf bh_fQ
  refine wl2_up (P := fun o => o = some (bh_nr (bh_tQ C R E K z sv cl kind i) C, G)) (I := fun c y G1 => G1 = G ∧ y = bh_nr (bh_tQ C R E K z sv cl kind i) c) (N := C) (by omega) ?_ (n := FU) (i := 0) (Nat.zero_le _) ⟨rfl, rfl⟩ (by unfold FU; omega)
  rintro kc c _ G1 hc' ⟨rfl, rfl⟩ hkc
  unfold lp_X10_whenOf_4
  rw [show inb (0 : Int32) 48 = true from by decide, gd_t, show (0 : Int32).toNatClampNeg = 0 from by decide, e0]
  by_cases hc : c < C
  · have es := bh_nr_s (bh_tQ C R E K z sv cl kind i) c
    rw [if_neg (nI_ge hc (by omega)), show (3 : Int32) = nI 3 from rfl, pk_mul, nI_add, inb_n (by omega) (by omega), gd_t, nI_clamp (by omega), h9 i c hi hc, lt_r]
    by_cases h1 : bh_tQ C R E K z sv cl kind i c = -1
    · rw [if_pos h1] at es
      rw [if_pos h1]
      unfold k_X10_whenOf_48 k_X10_whenOf_49
      rw [nI_1]
      exact hkc hc _ _ ⟨rfl, es.symm⟩
    · rw [if_neg h1] at es
      rw [if_neg h1]
      by_cases h2 : bh_nr (bh_tQ C R E K z sv cl kind i) c = -1
      · rw [if_pos h2] at es
        rw [if_pos h2]
        unfold k_X10_whenOf_43 k_X10_whenOf_49
        rw [nI_1]
        exact hkc hc _ _ ⟨rfl, es.symm⟩
      · rw [if_neg h2] at es
        rw [if_neg h2]
        by_cases h3 : bh_nr (bh_tQ C R E K z sv cl kind i) c ≤ bh_tQ C R E K z sv cl kind i c
        · rw [if_pos h3] at es
          rw [if_pos h3]
          unfold k_X10_whenOf_48 k_X10_whenOf_49
          rw [nI_1]
          exact hkc hc _ _ ⟨rfl, es.symm⟩
        · rw [if_neg h3] at es
          rw [if_neg h3]
          unfold k_X10_whenOf_43 k_X10_whenOf_49
          rw [nI_1]
          exact hkc hc _ _ ⟨rfl, es.symm⟩
  · have hc2 : c = C := by omega
    subst hc2
    rw [if_pos (nI_le (by omega) (by omega))]
def bh_aO (C R E K m : Nat) (z sv cl : Nat → Nat) (kind k n : Nat) : Nat := bh_sm (fun o => if bh_fQ C R E K z sv cl kind o < bh_fQ C R E K z sv cl kind k ∨ (bh_fQ C R E K z sv cl kind o = bh_fQ C R E K z sv cl kind k ∧ o < k) then 1 else 0) n
theorem c_aO {G : GM} {h k kind : Nat} (hn : nw G = h) (hh : h = 1 ∨ h = 23) (hN : bh_HN ln C R E K m pu bb z sv cl pr) (hC : bh_HC G h ln C R E K m pu bb z sv cl pr) (hkm : k < m) (hk : kind < 3) : ∃ G', f_X9_aheadOf (nI k) (bh_fQ C R E K z sv cl kind k) (nI kind) G = some (nI (bh_aO C R E K m z sv cl kind k m), G') ∧ bh_F bh_W7 G G' := by
  have hbm := hN.2.2.1
  unfold f_X9_aheadOf
  refine wl2_up (P := fun o => ∃ G', o = some (nI (bh_aO C R E K m z sv cl kind k m), G') ∧ bh_F bh_W7 G G') (I := fun i y G1 => y = nI (bh_aO C R E K m z sv cl kind k i) ∧ bh_F bh_W7 G G1) (N := m) (by omega) ?_ (n := FU) (i := 0) (Nat.zero_le _) ⟨rfl, bh_Fr _ _⟩ (by unfold FU; omega)
  rintro kc i _ G1 hi' ⟨rfl, F1⟩ hkc
  have c1 := bh_CT_F hh hbm (by omega) (bh_CT_of hn hN hC) F1
  have es : bh_aO C R E K m z sv cl kind k (i + 1) = bh_aO C R E K m z sv cl kind k i + if bh_fQ C R E K z sv cl kind i < bh_fQ C R E K z sv cl kind k ∨ (bh_fQ C R E K z sv cl kind i = bh_fQ C R E K z sv cl kind k ∧ i < k) then 1 else 0 := rfl
  unfold lp_X9_aheadOf_6
  rw [c1.1, c1.2.1.1.2.2.2]
  by_cases hi : i < m
  · obtain ⟨G2, e2, F2⟩ := c_fQ hh hN c1 hi hk
    have FF := bh_Ft F1 F2
    rw [if_neg (nI_ge hi (by omega)), e2, ob_s]
    by_cases h1 : bh_fQ C R E K z sv cl kind i < bh_fQ C R E K z sv cl kind k
    · rw [if_pos (Or.inl h1)] at es
      rw [if_pos h1, nI_1, nI_1]
      exact hkc hi _ _ ⟨by rw [es], FF⟩
    · rw [if_neg h1]
      by_cases h2 : bh_fQ C R E K z sv cl kind i = bh_fQ C R E K z sv cl kind k
      · rw [if_pos h2]
        by_cases h3 : k ≤ i
        · rw [if_neg (fun q => q.elim h1 (fun q => by omega))] at es
          rw [if_pos (nI_le h3 (by omega)), nI_1]
          exact hkc hi _ _ ⟨by rw [es]; rfl, FF⟩
        · rw [if_pos (Or.inr ⟨h2, by omega⟩)] at es
          rw [if_neg (by rw [nI_leI (by omega) (by omega)]; exact h3), nI_1, nI_1]
          exact hkc hi _ _ ⟨by rw [es], FF⟩
      · rw [if_neg (fun q => q.elim h1 (fun q => h2 q.1))] at es
        rw [if_neg h2, nI_1]
        exact hkc hi _ _ ⟨by rw [es]; rfl, FF⟩
  · have hi2 : i = m := by omega
    subst hi2
    rw [if_pos (nI_le (by omega) (by omega))]
    exact ⟨G1, rfl, F1⟩
end RX
theorem q_race (x1 x2 : Int32) : bh_Qy (f_X9_race x1 x2) (f_X10_race x1 x2) := by
  intro G hR
  have hh := bh_nwc hR
  have fT := bh_thr G
  rcases hR.2.2.2.2.1 with h0 | ⟨ln, C, R, E, K, m, pu, bb, z, sv, cl, pr, hN, hC, hM⟩
  · have h02 := bh_sc0 hh h0 fT
    exact bh_qy hR (v := (-2 : Int32)) (by unfold f_X9_race; rw [c_isKindN rfl h0 _, ob_s, bh_i0]) (by unfold f_X10_race; rw [lt_r, m_noHall h02, ob_s, bh_i0]) (bh_Fr _ _) (bh_thr G)
  have hM2 := bh_scM hN hM fT
  have hV := hN.2.1
  have h45 := bh_N45 hV
  have hbC := hV.1
  have hbR := hV.2.1
  have hbE := hV.2.2.1
  have hbK := hV.2.2.2.1
  have hbm := hN.2.2.1
  have hp := hN.2.2.2.2.2.2.2
  rcases bh_cls (x := x1) (p := fun j => j < 3) with ⟨kd, hkd, rfl⟩ | nkd
  rotate_left
  · exact bh_qy hR (v := (-2 : Int32)) (by unfold f_X9_race; rw [c_isKind0 rfl hN hC nkd, ob_s, bh_i0]) (by unfold f_X10_race; rw [lt_r, m_isHall hN hM2, ob_s, bh_i1, m_isKind0 nkd _, ob_s, bh_i0]) (bh_Fr _ _) (bh_thr G)
  obtain ⟨t, t1, t2, t3⟩ := bh_fd (fun k => ¬ (bh_fQ C R E K z sv cl kd k ≠ -1 ∧ nI (bh_aO C R E K m z sv cl kd k m) = x2)) m
  have t3 := fun h => Classical.not_not.mp (t3 h)
  have cs : ∃ G', wl1 FU (lp_X9_race_13 (nI kd) x2) (0 : Int32) G = some (if t < m then nI t else -1, G') ∧ bh_F bh_W7 G G' := by
    refine wl1_up (P := fun o => ∃ G', o = some (if t < m then nI t else -1, G') ∧ bh_F bh_W7 G G') (I := fun k G1 => k ≤ t ∧ bh_F bh_W7 G G1) (N := m) (by omega) ?_ (n := FU) (i := 0) (Nat.zero_le _) ⟨Nat.zero_le _, bh_Fr _ _⟩ (by unfold FU; omega)
    rintro kc k G1 hk' ⟨hkt, F1⟩ hkc
    have c1 := bh_CT_F hh hbm (by omega) (bh_CT_of rfl hN hC) F1
    unfold lp_X9_race_13
    rw [c1.1, c1.2.1.1.2.2.2]
    by_cases hk : k < m
    · obtain ⟨G2, e2, F2⟩ := c_fQ hh hN c1 hk hkd
      have FF := bh_Ft F1 F2
      rw [if_neg (nI_ge hk (by omega)), e2, ob_s]
      by_cases h1 : bh_fQ C R E K z sv cl kd k = -1
      · have hne : k ≠ t := fun h => (t3 (by omega)).1 (by rw [← h]; exact h1)
        rw [if_pos h1, nI_1]
        exact hkc hk _ ⟨by omega, FF⟩
      · obtain ⟨G3, e3, F3⟩ := c_aO FF.2.2.1 hh hN (bh_scC hh hN hC (scrW7 FF)) hk hkd
        have FF3 := bh_Ft FF F3
        rw [if_neg h1, e3, ob_s]
        by_cases h2 : nI (bh_aO C R E K m z sv cl kd k m) = x2
        · have he : k = t := Nat.le_antisymm hkt (Nat.le_of_not_lt fun h => t2 k h ⟨h1, h2⟩)
          rw [if_pos h2, ← he, if_pos hk]
          exact ⟨G3, rfl, FF3⟩
        · have hne : k ≠ t := fun h => h2 (by rw [h]; exact (t3 (by omega)).2)
          rw [if_neg h2, nI_1]
          exact hkc hk _ ⟨by omega, FF3⟩
    · have hk2 : k = m := by omega
      subst hk2
      rw [if_pos (nI_le (by omega) (by omega)), if_neg (by omega)]
      exact ⟨G1, rfl, F1⟩
  obtain ⟨G1, e1, F1⟩ := cs
  have hM2 := bh_scM hN hM (bh_Ft (scrW7 F1) (bh_thr _))
  obtain ⟨G2, e2, a1, a2, a3, hM3, a4, F2⟩ := m_rcW hN hM2 hkd
  have e4 : gI G2 193 4 = nI m := hM3.1.2.1
  refine bh_qy hR (v := if t < m then nI t else -1) (G1 := G1) (G2 := G2) (by unfold f_X9_race; rw [c_isKind1 rfl hN hC hkd, ob_s, bh_i1, e1]) ?_ (scrW7 F1) (bh_Ft (bh_thr _) (scrWr F2))
  unfold f_X10_race
  rw [lt_r, m_isHall hN hM2, ob_s, bh_i1, m_isKind1 hkd _, ob_s, bh_i1, e2, ov_s]
  refine wl1_up (P := fun o => o = some (if t < m then nI t else -1, G2)) (I := fun k G' => G' = G2 ∧ k ≤ t) (N := m) (by omega) ?_ (n := FU) (i := 0) (Nat.zero_le _) ⟨rfl, Nat.zero_le _⟩ (by unfold FU; omega)
  rintro kc k G' hk' ⟨rfl, hkt⟩ hkc
  unfold lp_X10_race_30
  rw [show inb (4 : Int32) 48 = true from by decide, gd_t, show (4 : Int32).toNatClampNeg = 4 from by decide, e4]
  by_cases hk : k < m
  · rw [if_neg (nI_ge hk (by omega))]
    refine wl2_up (P := fun o => o = some (if t < m then nI t else -1, G')) (I := fun i y G3 => G3 = G' ∧ y = nI (bh_aO C R E K m z sv cl kd k i)) (N := m) (by omega) ?_ (n := FU) (i := 0) (Nat.zero_le _) ⟨rfl, rfl⟩ (by unfold FU; omega)
    rintro kc2 i _ G3 hi' ⟨rfl, rfl⟩ hk2
    have es : bh_aO C R E K m z sv cl kd k (i + 1) = bh_aO C R E K m z sv cl kd k i + if bh_fQ C R E K z sv cl kd i < bh_fQ C R E K z sv cl kd k ∨ (bh_fQ C R E K z sv cl kd i = bh_fQ C R E K z sv cl kd k ∧ i < k) then 1 else 0 := rfl
    have wk := m_wO hN hM3 a3 hk
    unfold lp_X10_race_46
    rw [show inb (4 : Int32) 48 = true from by decide, gd_t, show (4 : Int32).toNatClampNeg = 4 from by decide, e4]
    by_cases hi : i < m
    · rw [if_neg (nI_ge hi (by omega)), m_wO hN hM3 a3 hi, ob_s, wk, ob_s]
      by_cases h1 : bh_fQ C R E K z sv cl kd i < bh_fQ C R E K z sv cl kd k
      · rw [if_pos (Or.inl h1)] at es
        rw [if_pos h1]
        unfold k_X10_race_93 k_X10_race_98
        rw [nI_1, lt_r, nI_1]
        exact hk2 hi _ _ ⟨rfl, by rw [es]⟩
      · rw [if_neg h1, m_wO hN hM3 a3 hi, ob_s, wk, ob_s]
        by_cases h2 : bh_fQ C R E K z sv cl kd i = bh_fQ C R E K z sv cl kd k
        · rw [if_pos h2]
          by_cases h3 : k ≤ i
          · rw [if_neg (fun q => q.elim h1 (fun q => by omega))] at es
            rw [if_pos (nI_le h3 (by omega))]
            unfold k_X10_race_97 k_X10_race_98
            rw [Int32.add_zero, lt_r, nI_1]
            exact hk2 hi _ _ ⟨rfl, by rw [es]; rfl⟩
          · rw [if_pos (Or.inr ⟨h2, by omega⟩)] at es
            rw [if_neg (by rw [nI_leI (by omega) (by omega)]; exact h3)]
            unfold k_X10_race_93 k_X10_race_98
            rw [nI_1, lt_r, nI_1]
            exact hk2 hi _ _ ⟨rfl, by rw [es]⟩
        · rw [if_neg (fun q => q.elim h1 (fun q => h2 q.1))] at es
          rw [if_neg h2]
          unfold k_X10_race_97 k_X10_race_98
          rw [Int32.add_zero, lt_r, nI_1]
          exact hk2 hi _ _ ⟨rfl, by rw [es]; rfl⟩
    · have hi2 : i = m := by omega
      subst hi2
      rw [if_pos (nI_le (by omega) (by omega))]
      by_cases h2 : nI (bh_aO C R E K i z sv cl kd k i) = x2
      · rw [if_pos h2, wk, ob_s]
        by_cases h1 : bh_fQ C R E K z sv cl kd k = -1
        · have hne : k ≠ t := fun h => (t3 (by omega)).1 (by rw [← h]; exact h1)
          rw [if_pos h1, nI_1]
          exact hkc hk _ ⟨rfl, by omega⟩
        · have he : k = t := Nat.le_antisymm hkt (Nat.le_of_not_lt fun h => t2 k h ⟨h1, h2⟩)
          rw [if_neg h1, ← he, if_pos hk]
      · have hne : k ≠ t := fun h => h2 (by rw [h]; exact (t3 (by omega)).2)
        rw [if_neg h2, nI_1]
        exact hkc hk _ ⟨rfl, by omega⟩
  · have hk2 : k = m := by omega
    subst hk2
    rw [if_pos (nI_le (by omega) (by omega)), if_neg (by omega)]
def bh_sw1 (C R E K : Nat) (z sv cl : Nat → Nat) (kd n j : Nat) : Nat := bh_sm (fun j => if bh_lQ C R E K z sv cl kd n (j / C) (j % C) = 1 then 1 else 0) j
def bh_swI (C R E K : Nat) (z sv cl : Nat → Nat) (kd n j : Nat) : Int32 := nI (bh_sw1 C R E K z sv cl kd n j)
theorem bh_sw1_s {C R E K kd n i c : Nat} {z sv cl : Nat → Nat} (hc : c < C) : bh_sw1 C R E K z sv cl kd n (i * C + (c + 1)) = bh_sw1 C R E K z sv cl kd n (i * C + c) + if bh_lQ C R E K z sv cl kd n i c = 1 then 1 else 0 := by
  have e : bh_sw1 C R E K z sv cl kd n (i * C + (c + 1)) = bh_sw1 C R E K z sv cl kd n (i * C + c) + if bh_lQ C R E K z sv cl kd n ((i * C + c) / C) ((i * C + c) % C) = 1 then 1 else 0 := rfl
  rw [e, (bh_dm hc).1, (bh_dm hc).2]
def bh_ndI (C R E K : Nat) (z sv cl : Nat → Nat) (kd n j : Nat) : Int32 := bh_nr (fun j => bh_lQ C R E K z sv cl kd n (j / C) (j % C)) j
theorem bh_nd_s {C R E K kd n i c : Nat} {z sv cl : Nat → Nat} (hc : c < C) : bh_ndI C R E K z sv cl kd n (i * C + (c + 1)) = if bh_lQ C R E K z sv cl kd n i c = -1 then bh_ndI C R E K z sv cl kd n (i * C + c) else if bh_ndI C R E K z sv cl kd n (i * C + c) = -1 then bh_lQ C R E K z sv cl kd n i c else if bh_ndI C R E K z sv cl kd n (i * C + c) ≤ bh_lQ C R E K z sv cl kd n i c then bh_ndI C R E K z sv cl kd n (i * C + c) else bh_lQ C R E K z sv cl kd n i c := bh_nr_at (bh_lQ C R E K z sv cl kd n) hc
theorem q_sweat (x1 x2 : Int32) : bh_Qy (f_X9_sweat x1 x2) (f_X10_sweat x1 x2) := by
  intro G hR
  have hh := bh_nwc hR
  have fT := bh_thr G
  rcases hR.2.2.2.2.1 with h0 | ⟨ln, C, R, E, K, m, pu, bb, z, sv, cl, pr, hN, hC, hM⟩
  · have h02 := bh_sc0 hh h0 fT
    exact bh_qy hR (v := (-2 : Int32)) (by unfold f_X9_sweat; rw [c_isKindN rfl h0 _, ob_s, bh_i0]) (by unfold f_X10_sweat; rw [lt_r, m_isByN h02 _ _, ob_s, bh_i0]) (bh_Fr _ _) (bh_thr G)
  have hM2 := bh_scM hN hM fT
  have hV := hN.2.1
  have h45 := bh_N45 hV
  have hbC := hV.1
  have hbR := hV.2.1
  have hbE := hV.2.2.1
  have hbK := hV.2.2.2.1
  have hbm := hN.2.2.1
  have hp := hN.2.2.2.2.2.2.2
  rcases bh_cls (x := x1) (p := fun j => j < 3) with ⟨kd, hkd, rfl⟩ | nkd
  rotate_left
  · exact bh_qy hR (v := (-2 : Int32)) (by unfold f_X9_sweat; rw [c_isKind0 rfl hN hC nkd, ob_s, bh_i0]) (by unfold f_X10_sweat; rw [lt_r, m_isBy0 hN hM2 (fun q => nkd q.1), ob_s, bh_i0]) (bh_Fr _ _) (bh_thr G)
  rcases bh_cls (x := x2) (p := fun j => j < C * R * E + 1) with ⟨n, hn, rfl⟩ | nn
  rotate_left
  · exact bh_qy hR (v := (-2 : Int32)) (by unfold f_X9_sweat; rw [c_isKind1 rfl hN hC hkd, ob_s, bh_i1, c_isTime0 rfl hN hC nn, ob_s, bh_i0]) (by unfold f_X10_sweat; rw [lt_r, m_isBy0 hN hM2 (fun q => nn q.2), ob_s, bh_i0]) (bh_Fr _ _) (bh_thr G)
  have hmC : m * C ≤ 24 := Nat.mul_le_mul hbm hbC.2
  have cs : ∃ G', wl2 FU (lp_X9_sweat_24 (nI kd) (nI n)) (0 : Int32) (0 : Int32) G = some (bh_swI C R E K z sv cl kd n (m * C), G') ∧ bh_F bh_W7 G G' := by
    refine wl2_up (P := fun o => ∃ G', o = some (bh_swI C R E K z sv cl kd n (m * C), G') ∧ bh_F bh_W7 G G') (I := fun i y G1 => y = bh_swI C R E K z sv cl kd n (i * C) ∧ bh_F bh_W7 G G1) (N := m) (by omega) ?_ (n := FU) (i := 0) (Nat.zero_le _) ⟨by rw [Nat.zero_mul]; rfl, bh_Fr _ _⟩ (by unfold FU; omega)
    rintro kc i _ G1 hi' ⟨rfl, F1⟩ hkc
    have c1 := bh_CT_F hh hbm (by omega) (bh_CT_of rfl hN hC) F1
    unfold lp_X9_sweat_24
    rw [c1.1, c1.2.1.1.2.2.2]
    by_cases hi : i < m
    · rw [if_neg (nI_ge hi (by omega))]
      refine wl2_up (P := fun o => ∃ G', o = some (bh_swI C R E K z sv cl kd n (m * C), G') ∧ bh_F bh_W7 G G') (I := fun c y G2 => y = bh_swI C R E K z sv cl kd n (i * C + c) ∧ bh_F bh_W7 G G2) (N := C) (by omega) ?_ (n := FU) (i := 0) (Nat.zero_le _) ⟨rfl, F1⟩ (by unfold FU; omega)
      rintro kc2 c _ G2 hc' ⟨rfl, F2⟩ hk2
      have c2 := bh_CT_F hh hbm (by omega) (bh_CT_of rfl hN hC) F2
      unfold lp_X9_sweat_39
      rw [c2.1, c2.2.1.2.1.1.1]
      by_cases hc : c < C
      · obtain ⟨G3, G4, e3, e4, F4⟩ := c_sl (n := n) hh hN c2 hi hc hkd (by omega)
        have FF := bh_Ft F2 F4
        rw [if_neg (nI_ge hc (by omega)), e3, ob_s, e4, ob_s]
        have es := bh_sw1_s (R := R) (E := E) (K := K) (kd := kd) (n := n) (i := i) (z := z) (sv := sv) (cl := cl) hc
        unfold bh_swI at hk2 ⊢
        by_cases h1 : bh_lQ C R E K z sv cl kd n i c = (1 : Int32)
        · rw [if_pos h1] at es
          rw [if_pos h1, nI_1, nI_1]
          exact hk2 hc _ _ ⟨by rw [es], FF⟩
        · rw [if_neg h1] at es
          rw [if_neg h1, nI_1]
          exact hk2 hc _ _ ⟨by rw [es]; rfl, FF⟩
      · have hc2 : c = C := by omega
        subst hc2
        rw [if_pos (nI_le (by omega) (by omega)), nI_1]
        exact hkc hi _ _ ⟨by rw [Nat.succ_mul], F2⟩
    · have hi2 : i = m := by omega
      subst hi2
      rw [if_pos (nI_le (by omega) (by omega))]
      exact ⟨G1, rfl, F1⟩
  obtain ⟨G1, e1, F1⟩ := cs
  have hM2 := bh_scM hN hM (bh_Ft (scrW7 F1) (bh_thr _))
  have ms : ∃ G', wl2 FU (lp_X10_sweat_22 (nI kd) (nI n)) (0 : Int32) (0 : Int32) (sI G1 186 0 0) = some (bh_swI C R E K z sv cl kd n (m * C), G') ∧ bh_F bh_Wr (sI G1 186 0 0) G' := by
    refine wl2_up (P := fun o => ∃ G', o = some (bh_swI C R E K z sv cl kd n (m * C), G') ∧ bh_F bh_Wr (sI G1 186 0 0) G') (I := fun i y G2 => y = bh_swI C R E K z sv cl kd n (i * C) ∧ bh_F bh_Wr (sI G1 186 0 0) G2) (N := m) (by omega) ?_ (n := FU) (i := 0) (Nat.zero_le _) ⟨by rw [Nat.zero_mul]; rfl, bh_Fr _ _⟩ (by unfold FU; omega)
    rintro kc i _ G2 hi' ⟨rfl, F2⟩ hkc
    have hM3 := bh_scM hN hM2 (scrWr F2)
    have e4 : gI G2 193 4 = nI m := hM3.1.2.1
    unfold lp_X10_sweat_22
    rw [show inb (4 : Int32) 48 = true from by decide, gd_t, show (4 : Int32).toNatClampNeg = 4 from by decide, e4]
    by_cases hi : i < m
    · have e5 : gI G2 196 i = nI (sv i) := by
        have := hM3.2.2.2.1 i hi
        rwa [Nat.mul_zero, Nat.zero_add] at this
      have hsv := hN.2.2.2.2.2.2.1 i hi
      obtain ⟨G3, e3, p3, -, F3⟩ := m_makes hN hM3 (s := sv i) (by omega)
      have F23 := bh_Ft F2 (bh_WkWr F3)
      rw [if_neg (nI_ge hi (by omega)), inb_n (by omega) (by omega), gd_t, nI_clamp (by omega), e5, e3, ov_s]
      refine wl2_up (P := fun o => ∃ G', o = some (bh_swI C R E K z sv cl kd n (m * C), G') ∧ bh_F bh_Wr (sI G1 186 0 0) G') (I := fun c y G4 => y = bh_swI C R E K z sv cl kd n (i * C + c) ∧ bh_F (fun a _ => a = 208) G3 G4) (N := C) (by omega) ?_ (n := FU) (i := 0) (Nat.zero_le _) ⟨rfl, bh_Fr _ _⟩ (by unfold FU; omega)
      rintro kc2 c _ G4 hc' ⟨rfl, F4⟩ hk2
      have F24 := bh_Ft F23 (bh_Fm F4 (fun a q h => by unfold bh_Wr; omega))
      have hM4 := bh_scM hN hM2 (scrWr F24)
      have e0 : gI G4 193 0 = nI C := hM4.2.1.1
      unfold lp_X10_sweat_49
      rw [show inb (0 : Int32) 48 = true from by decide, gd_t, show (0 : Int32).toNatClampNeg = 0 from by decide, e0]
      by_cases hc : c < C
      · obtain ⟨G5, e6, F5⟩ := m_lacksOf0 (n := n) hV (bh_ME_of hM4) hp (bh_SM_F p3 F4 (fun q _ _ h => by omega)) hc hkd (by omega)
        have e7 : bh_lI K R (bh_T C R E K z (sv i) cl c) kd n = bh_lQ C R E K z sv cl kd n i c := rfl
        have FF := bh_Ft F4 F5
        rw [if_neg (nI_ge hc (by omega)), e6, ob_s, e7]
        have es := bh_sw1_s (R := R) (E := E) (K := K) (kd := kd) (n := n) (i := i) (z := z) (sv := sv) (cl := cl) hc
        unfold bh_swI at hk2 ⊢
        by_cases h1 : bh_lQ C R E K z sv cl kd n i c = (1 : Int32)
        · rw [if_pos h1] at es
          rw [if_pos h1]
          unfold k_X10_sweat_79
          rw [nI_1, lt_r, nI_1]
          exact hk2 hc _ _ ⟨by rw [es], FF⟩
        · rw [if_neg h1] at es
          rw [if_neg h1]
          unfold k_X10_sweat_79
          rw [Int32.add_zero, lt_r, nI_1]
          exact hk2 hc _ _ ⟨by rw [es]; rfl, FF⟩
      · have hc2 : c = C := by omega
        subst hc2
        rw [if_pos (nI_le (by omega) (by omega)), nI_1]
        exact hkc hi _ _ ⟨by rw [Nat.succ_mul], F24⟩
    · have hi2 : i = m := by omega
      subst hi2
      rw [if_pos (nI_le (by omega) (by omega))]
      exact ⟨G2, rfl, F2⟩
  obtain ⟨G2, e2, F2⟩ := ms
  exact bh_qy hR (v := bh_swI C R E K z sv cl kd n (m * C)) (G1 := G1) (G2 := G2) (by unfold f_X9_sweat; rw [c_isKind1 rfl hN hC hkd, ob_s, bh_i1, c_isTime1 rfl hN hC hn, ob_s, bh_i1, e1]) (by unfold f_X10_sweat; rw [lt_r, m_isBy1 hN hM2 hkd hn, ob_s, bh_i1, e2]) (scrW7 F1) (bh_Ft (bh_thr _) (scrWr F2))
theorem q_nearest (x1 x2 : Int32) : bh_Qy (f_X9_nearest x1 x2) (f_X10_nearest x1 x2) := by
  intro G hR
  have hh := bh_nwc hR
  have fT := bh_thr G
  rcases hR.2.2.2.2.1 with h0 | ⟨ln, C, R, E, K, m, pu, bb, z, sv, cl, pr, hN, hC, hM⟩
  · have h02 := bh_sc0 hh h0 fT
    exact bh_qy hR (v := (-2 : Int32)) (by unfold f_X9_nearest; rw [c_isKindN rfl h0 _, ob_s, bh_i0]) (by unfold f_X10_nearest; rw [lt_r, m_isByN h02 _ _, ob_s, bh_i0]) (bh_Fr _ _) (bh_thr G)
  have hM2 := bh_scM hN hM fT
  have hV := hN.2.1
  have h45 := bh_N45 hV
  have hbC := hV.1
  have hbR := hV.2.1
  have hbE := hV.2.2.1
  have hbK := hV.2.2.2.1
  have hbm := hN.2.2.1
  have hp := hN.2.2.2.2.2.2.2
  rcases bh_cls (x := x1) (p := fun j => j < 3) with ⟨kd, hkd, rfl⟩ | nkd
  rotate_left
  · exact bh_qy hR (v := (-2 : Int32)) (by unfold f_X9_nearest; rw [c_isKind0 rfl hN hC nkd, ob_s, bh_i0]) (by unfold f_X10_nearest; rw [lt_r, m_isBy0 hN hM2 (fun q => nkd q.1), ob_s, bh_i0]) (bh_Fr _ _) (bh_thr G)
  rcases bh_cls (x := x2) (p := fun j => j < C * R * E + 1) with ⟨n, hn, rfl⟩ | nn
  rotate_left
  · exact bh_qy hR (v := (-2 : Int32)) (by unfold f_X9_nearest; rw [c_isKind1 rfl hN hC hkd, ob_s, bh_i1, c_isTime0 rfl hN hC nn, ob_s, bh_i0]) (by unfold f_X10_nearest; rw [lt_r, m_isBy0 hN hM2 (fun q => nn q.2), ob_s, bh_i0]) (bh_Fr _ _) (bh_thr G)
  have hmC : m * C ≤ 24 := Nat.mul_le_mul hbm hbC.2
  have cs : ∃ G', wl2 FU (lp_X9_nearest_24 (nI kd) (nI n)) (-1 : Int32) (0 : Int32) G = some (bh_ndI C R E K z sv cl kd n (m * C), G') ∧ bh_F bh_W7 G G' := by
    refine wl2_up (P := fun o => ∃ G', o = some (bh_ndI C R E K z sv cl kd n (m * C), G') ∧ bh_F bh_W7 G G') (I := fun i y G1 => y = bh_ndI C R E K z sv cl kd n (i * C) ∧ bh_F bh_W7 G G1) (N := m) (by omega) ?_ (n := FU) (i := 0) (Nat.zero_le _) ⟨by rw [Nat.zero_mul]; rfl, bh_Fr _ _⟩ (by unfold FU; omega)
    rintro kc i _ G1 hi' ⟨rfl, F1⟩ hkc
    have c1 := bh_CT_F hh hbm (by omega) (bh_CT_of rfl hN hC) F1
    unfold lp_X9_nearest_24
    rw [c1.1, c1.2.1.1.2.2.2]
    by_cases hi : i < m
    · rw [if_neg (nI_ge hi (by omega))]
      refine wl2_up (P := fun o => ∃ G', o = some (bh_ndI C R E K z sv cl kd n (m * C), G') ∧ bh_F bh_W7 G G') (I := fun c y G2 => y = bh_ndI C R E K z sv cl kd n (i * C + c) ∧ bh_F bh_W7 G G2) (N := C) (by omega) ?_ (n := FU) (i := 0) (Nat.zero_le _) ⟨rfl, F1⟩ (by unfold FU; omega)
      rintro kc2 c _ G2 hc' ⟨rfl, F2⟩ hk2
      have c2 := bh_CT_F hh hbm (by omega) (bh_CT_of rfl hN hC) F2
      unfold lp_X9_nearest_39
      rw [c2.1, c2.2.1.2.1.1.1]
      by_cases hc : c < C
      · obtain ⟨G3, G4, e3, e4, F4⟩ := c_sl (n := n) hh hN c2 hi hc hkd (by omega)
        have FF := bh_Ft F2 F4
        rw [if_neg (nI_ge hc (by omega)), e3, ob_s, e4, ob_s]
        have es := bh_nd_s (R := R) (E := E) (K := K) (kd := kd) (n := n) (i := i) (z := z) (sv := sv) (cl := cl) hc
        by_cases h1 : bh_lQ C R E K z sv cl kd n i c = (-1 : Int32)
        · rw [if_pos h1] at es
          rw [if_pos h1]
          rw [nI_1]
          exact hk2 hc _ _ ⟨by rw [es], FF⟩
        · rw [if_neg h1] at es
          rw [if_neg h1]
          by_cases h2 : bh_ndI C R E K z sv cl kd n (i * C + c) = -1
          · rw [if_pos h2] at es
            rw [if_pos h2]
            unfold k_X9_nearest_93
            rw [nI_1]
            exact hk2 hc _ _ ⟨by rw [es], FF⟩
          · rw [if_neg h2] at es
            rw [if_neg h2]
            by_cases h3 : bh_ndI C R E K z sv cl kd n (i * C + c) ≤ bh_lQ C R E K z sv cl kd n i c
            · rw [if_pos h3] at es
              rw [if_pos h3]
              rw [nI_1]
              exact hk2 hc _ _ ⟨by rw [es], FF⟩
            · rw [if_neg h3] at es
              rw [if_neg h3]
              unfold k_X9_nearest_93
              rw [nI_1]
              exact hk2 hc _ _ ⟨by rw [es], FF⟩
      · have hc2 : c = C := by omega
        subst hc2
        rw [if_pos (nI_le (by omega) (by omega)), nI_1]
        exact hkc hi _ _ ⟨by rw [Nat.succ_mul], F2⟩
    · have hi2 : i = m := by omega
      subst hi2
      rw [if_pos (nI_le (by omega) (by omega))]
      exact ⟨G1, rfl, F1⟩
  obtain ⟨G1, e1, F1⟩ := cs
  have hM2 := bh_scM hN hM (bh_Ft (scrW7 F1) (bh_thr _))
  have ms : ∃ G', wl2 FU (lp_X10_nearest_22 (nI kd) (nI n)) (-1 : Int32) (0 : Int32) (sI G1 186 0 0) = some (bh_ndI C R E K z sv cl kd n (m * C), G') ∧ bh_F bh_Wr (sI G1 186 0 0) G' := by
    refine wl2_up (P := fun o => ∃ G', o = some (bh_ndI C R E K z sv cl kd n (m * C), G') ∧ bh_F bh_Wr (sI G1 186 0 0) G') (I := fun i y G2 => y = bh_ndI C R E K z sv cl kd n (i * C) ∧ bh_F bh_Wr (sI G1 186 0 0) G2) (N := m) (by omega) ?_ (n := FU) (i := 0) (Nat.zero_le _) ⟨by rw [Nat.zero_mul]; rfl, bh_Fr _ _⟩ (by unfold FU; omega)
    rintro kc i _ G2 hi' ⟨rfl, F2⟩ hkc
    have hM3 := bh_scM hN hM2 (scrWr F2)
    have e4 : gI G2 193 4 = nI m := hM3.1.2.1
    unfold lp_X10_nearest_22
    rw [show inb (4 : Int32) 48 = true from by decide, gd_t, show (4 : Int32).toNatClampNeg = 4 from by decide, e4]
    by_cases hi : i < m
    · have e5 : gI G2 196 i = nI (sv i) := by
        have := hM3.2.2.2.1 i hi
        rwa [Nat.mul_zero, Nat.zero_add] at this
      have hsv := hN.2.2.2.2.2.2.1 i hi
      obtain ⟨G3, e3, p3, -, F3⟩ := m_makes hN hM3 (s := sv i) (by omega)
      have F23 := bh_Ft F2 (bh_WkWr F3)
      rw [if_neg (nI_ge hi (by omega)), inb_n (by omega) (by omega), gd_t, nI_clamp (by omega), e5, e3, ov_s]
      refine wl2_up (P := fun o => ∃ G', o = some (bh_ndI C R E K z sv cl kd n (m * C), G') ∧ bh_F bh_Wr (sI G1 186 0 0) G') (I := fun c y G4 => y = bh_ndI C R E K z sv cl kd n (i * C + c) ∧ bh_F (fun a _ => a = 208) G3 G4) (N := C) (by omega) ?_ (n := FU) (i := 0) (Nat.zero_le _) ⟨rfl, bh_Fr _ _⟩ (by unfold FU; omega)
      rintro kc2 c _ G4 hc' ⟨rfl, F4⟩ hk2
      have F24 := bh_Ft F23 (bh_Fm F4 (fun a q h => by unfold bh_Wr; omega))
      have hM4 := bh_scM hN hM2 (scrWr F24)
      have e0 : gI G4 193 0 = nI C := hM4.2.1.1
      unfold lp_X10_nearest_49
      rw [show inb (0 : Int32) 48 = true from by decide, gd_t, show (0 : Int32).toNatClampNeg = 0 from by decide, e0]
      by_cases hc : c < C
      · obtain ⟨G5, e6, F5⟩ := m_lacksOf0 (n := n) hV (bh_ME_of hM4) hp (bh_SM_F p3 F4 (fun q _ _ h => by omega)) hc hkd (by omega)
        have e7 : bh_lI K R (bh_T C R E K z (sv i) cl c) kd n = bh_lQ C R E K z sv cl kd n i c := rfl
        have FF := bh_Ft F4 F5
        rw [if_neg (nI_ge hc (by omega)), e6, ob_s, e7]
        have es := bh_nd_s (R := R) (E := E) (K := K) (kd := kd) (n := n) (i := i) (z := z) (sv := sv) (cl := cl) hc
        by_cases h1 : bh_lQ C R E K z sv cl kd n i c = (-1 : Int32)
        · rw [if_pos h1] at es
          rw [if_pos h1]
          unfold k_X10_nearest_93 k_X10_nearest_94
          rw [nI_1]
          exact hk2 hc _ _ ⟨by rw [es], FF⟩
        · rw [if_neg h1] at es
          rw [if_neg h1]
          by_cases h2 : bh_ndI C R E K z sv cl kd n (i * C + c) = -1
          · rw [if_pos h2] at es
            rw [if_pos h2]
            unfold k_X10_nearest_88 k_X10_nearest_94
            rw [nI_1]
            exact hk2 hc _ _ ⟨by rw [es], FF⟩
          · rw [if_neg h2] at es
            rw [if_neg h2]
            by_cases h3 : bh_ndI C R E K z sv cl kd n (i * C + c) ≤ bh_lQ C R E K z sv cl kd n i c
            · rw [if_pos h3] at es
              rw [if_pos h3]
              unfold k_X10_nearest_93 k_X10_nearest_94
              rw [nI_1]
              exact hk2 hc _ _ ⟨by rw [es], FF⟩
            · rw [if_neg h3] at es
              rw [if_neg h3]
              unfold k_X10_nearest_88 k_X10_nearest_94
              rw [nI_1]
              exact hk2 hc _ _ ⟨by rw [es], FF⟩
      · have hc2 : c = C := by omega
        subst hc2
        rw [if_pos (nI_le (by omega) (by omega)), nI_1]
        exact hkc hi _ _ ⟨by rw [Nat.succ_mul], F24⟩
    · have hi2 : i = m := by omega
      subst hi2
      rw [if_pos (nI_le (by omega) (by omega))]
      exact ⟨G2, rfl, F2⟩
  obtain ⟨G2, e2, F2⟩ := ms
  exact bh_qy hR (v := bh_ndI C R E K z sv cl kd n (m * C)) (G1 := G1) (G2 := G2) (by unfold f_X9_nearest; rw [c_isKind1 rfl hN hC hkd, ob_s, bh_i1, c_isTime1 rfl hN hC hn, ob_s, bh_i1, e1]) (by unfold f_X10_nearest; rw [lt_r, m_isBy1 hN hM2 hkd hn, ob_s, bh_i1, e2]) (scrW7 F1) (bh_Ft (bh_thr _) (scrWr F2))
