/-! questions: corners, filled, last -/
def bh_e1 (f : Nat → Nat) : Nat → Nat
  | 0 => 0
  | n + 1 => if bh_e1 f n = 0 then f n else bh_e1 f n
def bh_e2 (f : Nat → Nat) : Nat → Nat
  | 0 => 0
  | n + 1 => if f n = 0 then bh_e2 f n else f n
theorem bh_e1_s (f : Nat → Nat) (n : Nat) : bh_e1 f (n + 1) = if bh_e1 f n = 0 then f n else bh_e1 f n := rfl
theorem bh_e2_s (f : Nat → Nat) (n : Nat) : bh_e2 f (n + 1) = if f n = 0 then bh_e2 f n else f n := rfl
theorem bh_e1_mem (f : Nat → Nat) : ∀ n, bh_e1 f n = 0 ∨ ∃ k, k < n ∧ bh_e1 f n = f k
  | 0 => Or.inl rfl
  | n + 1 => by
    rw [bh_e1_s]
    by_cases h : bh_e1 f n = 0
    · rw [if_pos h]; exact Or.inr ⟨n, by omega, rfl⟩
    · rw [if_neg h]
      rcases bh_e1_mem f n with h1 | ⟨k, h1, h2⟩
      · exact Or.inl h1
      · exact Or.inr ⟨k, by omega, h2⟩
theorem bh_e2_mem (f : Nat → Nat) : ∀ n, bh_e2 f n = 0 ∨ ∃ k, k < n ∧ bh_e2 f n = f k
  | 0 => Or.inl rfl
  | n + 1 => by
    rw [bh_e2_s]
    by_cases h : f n = 0
    · rw [if_pos h]
      rcases bh_e2_mem f n with h1 | ⟨k, h1, h2⟩
      · exact Or.inl h1
      · exact Or.inr ⟨k, by omega, h2⟩
    · rw [if_neg h]; exact Or.inr ⟨n, by omega, rfl⟩
theorem c_endsTurn {G : GM} {R E K r : Nat} {T : Nat → Nat → Nat} (h : bh_VW G R E K T) (hR : R ≤ 3) (hK : K ≤ 5) (hr : r < R) (hT : ∀ r k, r < R → k < K → T r k ≤ 45) : f_X0_endsTurn (nI r) G = some (nI (max (bh_e1 (T r) K) (bh_e2 (T r) K)), G) := by
  unfold f_X0_endsTurn
  refine bh_wl3_up (P := fun o => o = some (nI (max (bh_e1 (T r) K) (bh_e2 (T r) K)), G)) (I := fun i x y G1 => G1 = G ∧ x = nI (bh_e1 (T r) i) ∧ y = nI (bh_e2 (T r) i)) (N := K) (by omega) ?_ (n := FU) (i := 0) (Nat.zero_le _) ⟨rfl, rfl, rfl⟩ (by unfold FU; omega)
  rintro kc k _ _ G1 hk' ⟨rfl, rfl, rfl⟩ hkc
  have b1 : bh_e1 (T r) k ≤ 45 := by
    rcases bh_e1_mem (T r) k with h1 | ⟨j, h1, h2⟩
    · omega
    · rw [h2]; exact hT r j hr (by omega)
  have b2 : bh_e2 (T r) k ≤ 45 := by
    rcases bh_e2_mem (T r) k with h1 | ⟨j, h1, h2⟩
    · omega
    · rw [h2]; exact hT r j hr (by omega)
  unfold lp_X0_endsTurn_7
  rw [h.2.1]
  by_cases hk : k < K
  · have ht := hT r k hr hk
    rw [if_neg (nI_ge hk (by omega)), bh_turnAt h hR hK hr hk, ob_s]
    by_cases h0 : T r k = 0
    · rw [h0, if_pos (show nI 0 ≤ (0 : Int32) from by decide), nI_1]
      refine hkc hk _ _ _ ⟨rfl, ?_, ?_⟩
      · rw [bh_e1_s]
        by_cases h1 : bh_e1 (T r) k = 0
        · rw [if_pos h1, h1, h0]
        · rw [if_neg h1]
      · rw [bh_e2_s]
        rw [if_pos h0]
    · rw [if_neg (nI_nle (by omega) (by omega))]
      have e2 : bh_e2 (T r) (k + 1) = T r k := by rw [bh_e2_s]; rw [if_neg h0]
      by_cases h1 : bh_e1 (T r) k = 0
      · rw [h1, if_pos (show nI 0 = (0 : Int32) from rfl)]
        unfold k_X0_endsTurn_40
        rw [nI_1]
        exact hkc hk _ _ _ ⟨rfl, by rw [bh_e1_s]; rw [if_pos h1], by rw [e2]⟩
      · rw [if_neg (nI_ne0 (by omega) (by omega))]
        unfold k_X0_endsTurn_40
        rw [nI_1]
        exact hkc hk _ _ _ ⟨rfl, by rw [bh_e1_s]; rw [if_neg h1], by rw [e2]⟩
  · have hk2 : k = K := by omega
    subst hk2
    rw [if_pos (nI_le (by omega) (by omega)), jmax_n (by omega) (by omega)]
theorem m_later {G : GM} {C R E K n v : Nat} {z cl : Nat → Nat} (hV : bh_VH C R E K z) (h : bh_ME G 0 C R E K z cl) (hp : bh_prm (C * R * E) 1 cl) (hn : n ≤ 45) (hv : v ≤ C * R * E) : f_X10_later (nI n) (nI v) G = some (nI (max n (bh_tn (C * R * E) cl v)), G) := by
  have h45 := bh_N45 hV
  unfold f_X10_later
  by_cases h0 : v = 0
  · subst h0
    rw [if_pos (show nI 0 ≤ (0 : Int32) from by decide), bh_tn_0 hp, Nat.max_eq_left (Nat.zero_le _)]
  · have ht := bh_tn_in hp (v := v) (by omega) hv
    rw [if_neg (nI_nle (by omega) (by omega)), m_calledIn0 hV h hp (by omega) hv, ob_s]
    by_cases hc : bh_tn (C * R * E) cl v ≤ n
    · rw [if_pos (nI_le hc (by omega)), Nat.max_eq_left hc]
    · rw [if_neg (by rw [nI_leI (by omega) (by omega)]; exact hc), m_calledIn0 hV h hp (by omega) hv, ob_s, Nat.max_eq_right (by omega)]
theorem bh_e1_tn {f g : Nat → Nat} : ∀ {n : Nat}, (∀ k, k < n → (f k = 0 ↔ g k = 0)) → (bh_e1 f n = 0 ↔ bh_e1 g n = 0) ∧ ∀ t : Nat → Nat, t 0 = 0 → (∀ k, k < n → g k = t (f k)) → bh_e1 g n = t (bh_e1 f n)
  | 0, _ => ⟨Iff.rfl, fun t h0 _ => h0.symm⟩
  | n + 1, h => by
    obtain ⟨h1, h2⟩ := bh_e1_tn (f := f) (g := g) (n := n) (fun k hk => h k (by omega))
    rw [bh_e1_s f, bh_e1_s g]
    by_cases hf : bh_e1 f n = 0
    · rw [if_pos hf, if_pos (h1.mp hf)]
      exact ⟨h n (by omega), fun t _ h4 => h4 n (by omega)⟩
    · rw [if_neg hf, if_neg (fun q => hf (h1.mpr q))]
      exact ⟨h1, fun t h3 h4 => h2 t h3 (fun k hk => h4 k (by omega))⟩
theorem bh_e2_tn {f g : Nat → Nat} : ∀ {n : Nat}, (∀ k, k < n → (f k = 0 ↔ g k = 0)) → ∀ t : Nat → Nat, t 0 = 0 → (∀ k, k < n → g k = t (f k)) → bh_e2 g n = t (bh_e2 f n)
  | 0, _ => fun t h0 _ => h0.symm
  | n + 1, h => by
    intro t h0 h4
    have h2 := bh_e2_tn (f := f) (g := g) (n := n) (fun k hk => h k (by omega)) t h0 (fun k hk => h4 k (by omega))
    rw [bh_e2_s f, bh_e2_s g]
    by_cases hf : f n = 0
    · rw [if_pos hf, if_pos ((h n (by omega)).mp hf)]; exact h2
    · rw [if_neg hf, if_neg (fun q => hf ((h n (by omega)).mpr q))]; exact h4 n (by omega)
theorem bh_e1_first {f : Nat → Nat} {k : Nat} : ∀ {n : Nat}, k < n → f k ≠ 0 → (∀ j, j < k → f j = 0) → bh_e1 f n = f k
  | 0, h, _, _ => absurd h (Nat.not_lt_zero _)
  | n + 1, h, h1, h2 => by
    rw [bh_e1_s]
    by_cases hk : k = n
    · subst hk
      have : bh_e1 f k = 0 := by
        rcases bh_e1_mem f k with h3 | ⟨j, h3, h4⟩
        · exact h3
        · rw [h4]; exact h2 j h3
      rw [if_pos this]
    · have := bh_e1_first (f := f) (k := k) (n := n) (by omega) h1 h2
      rw [this, if_neg h1]
theorem bh_e2_last {f : Nat → Nat} {k : Nat} : ∀ {n : Nat}, k < n → f k ≠ 0 → (∀ j, k < j → j < n → f j = 0) → bh_e2 f n = f k
  | 0, h, _, _ => absurd h (Nat.not_lt_zero _)
  | n + 1, h, h1, h2 => by
    rw [bh_e2_s]
    by_cases hk : k = n
    · subst hk
      rw [if_neg h1]
    · rw [if_pos (h2 n (by omega) (by omega))]
      exact bh_e2_last (by omega) h1 (fun j h3 h4 => h2 j h3 (by omega))
theorem bh_row_some {C R E K s c r : Nat} {z : Nat → Nat} (hV : bh_VH C R E K z) (hc : c < C) (hr : r < R) : ∃ k, k < K ∧ bh_ST C R E K z s c r k ≠ 0 := by
  apply Classical.byContradiction
  intro hn
  have h := bh_row_E hV s hc hr
  have h0 : bh_sm (fun k => if 0 < bh_ST C R E K z s c r k then 1 else 0) K = 0 := bh_sm_0.mpr fun k hk => if_neg (fun h2 => hn ⟨k, hk, by omega⟩)
  have := hV.2.2.1
  omega
theorem m_endOf1 {G : GM} {C R E K s c r : Nat} {z : Nat → Nat} (hV : bh_VH C R E K z) (hS : bh_SM G 0 C R E K z s) (hc : c < C) (hr : r < R) : f_X10_endOf (nI c) (nI r) (1 : Int32) G = some (nI (bh_e1 (bh_ST C R E K z s c r) K), G) := by
  have h45 := bh_N45 hV
  obtain ⟨k0, hk0, h0⟩ := bh_row_some (s := s) hV hc hr
  obtain ⟨hC, hR, hE, hK, -⟩ := id hV
  unfold f_X10_endOf k_X10_endOf_9
  rw [if_neg (by decide)]
  refine wl1_up (P := fun o => o = some (nI (bh_e1 (bh_ST C R E K z s c r) K), G)) (I := fun i G1 => G1 = G ∧ ∀ j, j < i → bh_ST C R E K z s c r j = 0) (N := K) (by omega) ?_ (n := FU) (i := 0) (Nat.zero_le _) ⟨rfl, fun j hj => absurd hj (Nat.not_lt_zero _)⟩ (by unfold FU; omega)
  rintro kc k G1 hk' ⟨rfl, q⟩ hkc
  have hk : k < K := Nat.lt_of_not_le fun h => h0 (q k0 (by omega))
  have hST := bh_ST_N hV s hc hr hk
  have e := SM0 hS (c := c) (r := r) (k := k) (by omega) (by omega) (by omega)
  rw [if_pos ⟨hc, hr, hk⟩] at e
  unfold lp_X10_endOf_11
  rw [m_at0, ob_s, inb_n (by omega) (by omega), gd_t, nI_clamp (by omega), e]
  by_cases he : bh_ST C R E K z s c r k = 0
  · rw [he, if_pos (show nI 0 = (0 : Int32) from rfl), lt_r, nI_1]
    refine hkc hk _ ⟨rfl, fun j hj => ?_⟩
    by_cases hjk : j = k
    · subst hjk; exact he
    · exact q j (by omega)
  · rw [if_neg (nI_ne0 (by omega) (by omega)), m_at0, ob_s, inb_n (by omega) (by omega), gd_t, nI_clamp (by omega), e, bh_e1_first hk he q]
theorem m_endOf2 {G : GM} {C R E K s c r : Nat} {z : Nat → Nat} (hV : bh_VH C R E K z) (hS : bh_SM G 0 C R E K z s) (hc : c < C) (hr : r < R) : f_X10_endOf (nI c) (nI r) (-1 : Int32) G = some (nI (bh_e2 (bh_ST C R E K z s c r) K), G) := by
  have h45 := bh_N45 hV
  obtain ⟨k0, hk0, h0⟩ := bh_row_some (s := s) hV hc hr
  obtain ⟨hC, hR, hE, hK, -⟩ := id hV
  unfold f_X10_endOf k_X10_endOf_9
  rw [if_pos (by decide)]
  refine wl1_P (P := fun o => o = some (nI (bh_e2 (bh_ST C R E K z s c r) K), G)) (I := fun x G1 => G1 = G ∧ ∃ k, x = nI k ∧ k < 5 ∧ ∀ j, k < j → j < K → bh_ST C R E K z s c r j = 0) (m := fun x _ => x.toNatClampNeg) ?_ FU (4 : Int32) G ⟨rfl, 4, rfl, by omega, fun j h1 h2 => by omega⟩ (by rw [show (4 : Int32).toNatClampNeg = 4 from by decide]; unfold FU; omega)
  rintro kc _ G1 ⟨rfl, k, rfl, hk, q⟩ hkc
  have e := SM0 hS (c := c) (r := r) (k := k) (by omega) (by omega) hk
  unfold lp_X10_endOf_11
  rw [m_at0, ob_s, inb_n (by omega) (by omega), gd_t, nI_clamp (by omega)]
  have next : (if c < C ∧ r < R ∧ k < K then bh_ST C R E K z s c r k else 0) = 0 → lt (nI k + (-1 : Int32)) (fun x32 => kc x32 G1) = some (nI (bh_e2 (bh_ST C R E K z s c r) K), G1) := by
    intro he
    rw [lt_r]
    have hk1 : 0 < k := Nat.pos_of_ne_zero fun h => by
      subst h
      rw [if_pos ⟨hc, hr, by omega⟩] at he
      by_cases hk00 : k0 = 0
      · subst hk00; exact h0 he
      · exact h0 (q k0 (by omega) hk0)
    obtain ⟨k', rfl⟩ : ∃ k', k = k' + 1 := ⟨k - 1, by omega⟩
    rw [pk_m1]
    refine hkc _ _ ⟨rfl, k', rfl, by omega, fun j h1 h2 => ?_⟩ (by rw [nI_clamp (by omega), nI_clamp (by omega)]; omega)
    by_cases hj : j = k' + 1
    · subst hj
      rw [if_pos ⟨hc, hr, h2⟩] at he; exact he
    · exact q j (by omega) h2
  by_cases hkK : k < K
  · have hST := bh_ST_N hV s hc hr hkK
    rw [if_pos ⟨hc, hr, hkK⟩] at next e
    rw [e]
    by_cases he : bh_ST C R E K z s c r k = 0
    · rw [he, if_pos (show nI 0 = (0 : Int32) from rfl)]
      exact next he
    · rw [if_neg (nI_ne0 (by omega) (by omega)), m_at0, ob_s, inb_n (by omega) (by omega), gd_t, nI_clamp (by omega), e, bh_e2_last hkK he q]
  · rw [if_neg (fun h => hkK h.2.2)] at next e
    rw [e, if_pos (show nI 0 = (0 : Int32) from rfl)]
    exact next rfl
theorem q_corners (x1 x2 : Int32) : bh_Qy (f_X9_corners x1 x2) (f_X10_corners x1 x2) := by
  intro G hR
  have hh := bh_nwc hR
  have fT := bh_thr G
  rcases hR.2.2.2.2.1 with h0 | ⟨ln, C, R, E, K, m, pu, bb, z, sv, cl, pr, hN, hC, hM⟩
  · have h02 := bh_sc0 hh h0 fT
    exact bh_qy hR (v := (-2 : Int32)) (by unfold f_X9_corners; rw [c_isSerialN rfl h0 _, ob_s, bh_i0]) (by unfold f_X10_corners; rw [lt_r, m_isSerialN h02 _, ob_s, bh_i0]) (bh_Fr _ _) (bh_thr G)
  have hM2 := bh_scM hN hM fT
  have hV := hN.2.1
  have h45 := bh_N45 hV
  have hbC := hV.1
  have hbR := hV.2.1
  have hbE := hV.2.2.1
  have hbK := hV.2.2.2.1
  have hbm := hN.2.2.1
  rcases bh_cls (x := x1) (p := fun j => j < 10000) with ⟨s, hs, rfl⟩ | ns
  rotate_left
  · exact bh_qy hR (v := (-2 : Int32)) (by unfold f_X9_corners; rw [c_isSerial0 rfl hN hC ns, ob_s, bh_i0]) (by unfold f_X10_corners; rw [lt_r, m_isSerial0 hN hM2 ns, ob_s, bh_i0]) (bh_Fr _ _) (bh_thr G)
  rcases bh_cls (x := x2) (p := fun j => j < C) with ⟨c, hc, rfl⟩ | nc
  rotate_left
  · exact bh_qy hR (v := (-2 : Int32)) (by unfold f_X9_corners; rw [c_isSerial1 rfl hN hC hs, ob_s, bh_i1, c_isCard0 rfl hN hC nc, ob_s, bh_i0]) (by unfold f_X10_corners; rw [lt_r, m_isSerial1 hN hM2 hs, ob_s, bh_i1, m_isCard0 hN hM2 nc, ob_s, bh_i0]) (bh_Fr _ _) (bh_thr G)
  obtain ⟨G1, e9, v9, F9⟩ := c_cardOf rfl hh hN hC hs hc
  have hp := hN.2.2.2.2.2.2.2
  have hT := bh_T45 (s := s) hV hp hc
  have hC1 := bh_scC hh hN hC F9
  have hM2 := bh_scM hN hM (bh_Ft F9 (bh_thr _))
  obtain ⟨G5, e5, p5, -, F5⟩ := m_makes hN hM2 hs
  have hM5 := bh_scM hN hM2 (bh_WS (by omega) F5)
  have hE5 := bh_ME_of hM5
  have FF5 : bh_F bh_SCR G1 G5 := bh_Ft (bh_thr _) (bh_WS (by omega) F5)
  have f1 : gI G5 193 1 = nI R := hM5.2.1.2.1
  obtain ⟨R', rfl⟩ : ∃ R', R = R' + 1 := ⟨R - 1, by omega⟩
  have zer : ∀ r, r < R' + 1 → ∀ k, k < K → (bh_ST C (R' + 1) E K z s c r k = 0 ↔ bh_T C (R' + 1) E K z s cl c r k = 0) := fun r hr k hk => by
    have := bh_tn_pos hp (bh_ST_N hV s hc hr hk)
    unfold bh_T; omega
  have t1 : ∀ r, r < R' + 1 → bh_e1 (bh_T C (R' + 1) E K z s cl c r) K = bh_tn (C * (R' + 1) * E) cl (bh_e1 (bh_ST C (R' + 1) E K z s c r) K) := fun r hr => (bh_e1_tn (zer r hr)).2 _ (bh_tn_0 hp) (fun k hk => rfl)
  have t2 : ∀ r, r < R' + 1 → bh_e2 (bh_T C (R' + 1) E K z s cl c r) K = bh_tn (C * (R' + 1) * E) cl (bh_e2 (bh_ST C (R' + 1) E K z s c r) K) := fun r hr => bh_e2_tn (zer r hr) _ (bh_tn_0 hp) (fun k hk => rfl)
  have le1 : ∀ r, r < R' + 1 → bh_e1 (bh_ST C (R' + 1) E K z s c r) K ≤ C * (R' + 1) * E := fun r hr => by
    rcases bh_e1_mem (bh_ST C (R' + 1) E K z s c r) K with h1 | ⟨j, h1, h2⟩
    · omega
    · rw [h2]; exact bh_ST_N hV s hc hr h1
  have le2 : ∀ r, r < R' + 1 → bh_e2 (bh_ST C (R' + 1) E K z s c r) K ≤ C * (R' + 1) * E := fun r hr => by
    rcases bh_e2_mem (bh_ST C (R' + 1) E K z s c r) K with h1 | ⟨j, h1, h2⟩
    · omega
    · rw [h2]; exact bh_ST_N hV s hc hr h1
  have tl : ∀ v, v ≤ C * (R' + 1) * E → bh_tn (C * (R' + 1) * E) cl v ≤ 45 := fun v hv => Nat.le_trans (bh_tn_le hp hv) h45
  have a1 := tl _ (le1 0 (by omega))
  have a2 := tl _ (le2 0 (by omega))
  have a3 := tl _ (le1 R' (by omega))
  have a4 := tl _ (le2 R' (by omega))
  refine bh_qy hR (v := nI (max (max (max (max 0 (bh_e1 (bh_T C (R' + 1) E K z s cl c 0) K)) (bh_e2 (bh_T C (R' + 1) E K z s cl c 0) K)) (bh_e1 (bh_T C (R' + 1) E K z s cl c R') K)) (bh_e2 (bh_T C (R' + 1) E K z s cl c R') K))) (G1 := G1) (G2 := G5) ?_ ?_ F9 FF5
  · unfold f_X9_corners
    rw [c_isSerial1 rfl hN hC hs, ob_s, bh_i1, c_isCard1 rfl hN hC hc, ob_s, bh_i1, e9, ob_s, show (0 : Int32) = nI 0 from rfl, c_endsTurn v9 hbR.2 hbK.2 (by omega) hT, ob_s, F9.2.2.1, hC1.2.1.1.2.1, bh_m1, c_endsTurn v9 hbR.2 hbK.2 (by omega) hT, ob_s, jmax_n (by rw [t1 0 (by omega), t2 0 (by omega)]; omega) (by rw [t1 R' (by omega), t2 R' (by omega)]; omega)]
    refine congrArg (fun v => some (nI v, G1)) ?_
    omega
  · unfold f_X10_corners
    rw [lt_r, m_isSerial1 hN hM2 hs, ob_s, bh_i1, m_isCard1 hN hM2 hc, ob_s, bh_i1, e5, ov_s, show inb (1 : Int32) 48 = true from by decide, gd_t, show (1 : Int32).toNatClampNeg = 1 from by decide, f1, bh_m1, lt_r]
    have z0 : (0 : Int32) = nI 0 := rfl
    rw [t1 0 (by omega), t2 0 (by omega), t1 R' (by omega), t2 R' (by omega)]
    rw [show f_X10_endOf (nI c) (0 : Int32) (1 : Int32) G5 = _ from m_endOf1 (r := 0) hV p5 hc (by omega), ob_s, show ∀ v, f_X10_later (0 : Int32) v G5 = f_X10_later (nI 0) v G5 from fun _ => rfl, m_later hV hE5 hp (by omega) (le1 0 (by omega)), ob_s, show f_X10_endOf (nI c) (0 : Int32) (-1 : Int32) G5 = _ from m_endOf2 (r := 0) hV p5 hc (by omega), ob_s, m_later hV hE5 hp (by omega) (le2 0 (by omega)), ob_s, m_endOf1 hV p5 hc (by omega), ob_s, m_later hV hE5 hp (by omega) (le1 R' (by omega)), ob_s, m_endOf2 hV p5 hc (by omega), ob_s, m_later hV hE5 hp (by omega) (le2 R' (by omega)), ob_s]
theorem bh_mxf_ext {f g : Nat → Nat} {m : Nat} : ∀ {n : Nat}, m ≤ n → (∀ k, k < m → f k = g k) → (∀ k, m ≤ k → k < n → g k = 0) → bh_mxf g n = bh_mxf f m
  | 0, h, _, _ => by
    have : m = 0 := by omega
    subst this; rfl
  | n + 1, h, h1, h2 => by
    by_cases hm : m = n + 1
    · subst hm
      have := bh_mxf_ext (f := f) (g := g) (m := n) (n := n) (Nat.le_refl _) (fun k hk => h1 k (by omega)) (fun k h3 h4 => by omega)
      show max (bh_mxf g n) (g n) = max (bh_mxf f n) (f n)
      rw [this, h1 n (by omega)]
    · show max (bh_mxf g n) (g n) = _
      rw [bh_mxf_ext (f := f) (m := m) (n := n) (by omega) h1 (fun k h3 h4 => h2 k h3 (by omega)), h2 n (by omega) (by omega)]
      omega
theorem q_filled (x1 x2 x3 : Int32) : bh_Qy (f_X9_filled x1 x2 x3) (f_X10_filled x1 x2 x3) := by
  intro G hR
  have hh := bh_nwc hR
  have fT := bh_thr G
  rcases hR.2.2.2.2.1 with h0 | ⟨ln, C, R, E, K, m, pu, bb, z, sv, cl, pr, hN, hC, hM⟩
  · have h02 := bh_sc0 hh h0 fT
    exact bh_qy hR (v := (-2 : Int32)) (by unfold f_X9_filled; rw [c_isSerialN rfl h0 _, ob_s, bh_i0]) (by unfold f_X10_filled; rw [lt_r, m_isSerialN h02 _, ob_s, bh_i0]) (bh_Fr _ _) (bh_thr G)
  have hM2 := bh_scM hN hM fT
  have hV := hN.2.1
  have h45 := bh_N45 hV
  have hbC := hV.1
  have hbR := hV.2.1
  have hbE := hV.2.2.1
  have hbK := hV.2.2.2.1
  have hbm := hN.2.2.1
  rcases bh_cls (x := x1) (p := fun j => j < 10000) with ⟨s, hs, rfl⟩ | ns
  rotate_left
  · exact bh_qy hR (v := (-2 : Int32)) (by unfold f_X9_filled; rw [c_isSerial0 rfl hN hC ns, ob_s, bh_i0]) (by unfold f_X10_filled; rw [lt_r, m_isSerial0 hN hM2 ns, ob_s, bh_i0]) (bh_Fr _ _) (bh_thr G)
  rcases bh_cls (x := x2) (p := fun j => j < C) with ⟨c, hc, rfl⟩ | nc
  rotate_left
  · exact bh_qy hR (v := (-2 : Int32)) (by unfold f_X9_filled; rw [c_isSerial1 rfl hN hC hs, ob_s, bh_i1, c_isCard0 rfl hN hC nc, ob_s, bh_i0]) (by unfold f_X10_filled; rw [lt_r, m_isSerial1 hN hM2 hs, ob_s, bh_i1, m_isCard0 hN hM2 nc, ob_s, bh_i0]) (bh_Fr _ _) (bh_thr G)
  rcases bh_cls (x := x3) (p := fun j => j < K) with ⟨k, hk, rfl⟩ | nk
  rotate_left
  · exact bh_qy hR (v := (-2 : Int32)) (by unfold f_X9_filled; rw [c_isSerial1 rfl hN hC hs, ob_s, bh_i1, c_isCard1 rfl hN hC hc, ob_s, bh_i1, c_isColumn0 rfl hN hC nk, ob_s, bh_i0]) (by unfold f_X10_filled; rw [lt_r, m_isSerial1 hN hM2 hs, ob_s, bh_i1, m_isCard1 hN hM2 hc, ob_s, bh_i1, m_isColumn0 hN hM2 nk, ob_s, bh_i0]) (bh_Fr _ _) (bh_thr G)
  obtain ⟨G1, e9, v9, F9⟩ := c_cardOf rfl hh hN hC hs hc
  have hp := hN.2.2.2.2.2.2.2
  have hT := bh_T45 (s := s) hV hp hc
  have hC1 := bh_scC hh hN hC F9
  have hM2 := bh_scM hN hM (bh_Ft F9 (bh_thr _))
  obtain ⟨G5, e5, p5, -, F5⟩ := m_makes hN hM2 hs
  have hM5 := bh_scM hN hM2 (bh_WS (by omega) F5)
  have hE5 := bh_ME_of hM5
  have FF5 : bh_F bh_SCR G1 G5 := bh_Ft (bh_thr _) (bh_WS (by omega) F5)
  have hb : ∀ n, n ≤ R → bh_mxf (fun r => bh_T C R E K z s cl c r k) n ≤ 45 := fun n hn => bh_mxf_le.mpr fun r hr => hT r k (by omega) hk
  refine bh_qy hR (v := nI (bh_mxf (fun r => bh_T C R E K z s cl c r k) R)) (G1 := G1) (G2 := G5) ?_ ?_ F9 FF5
  · unfold f_X9_filled
    rw [c_isSerial1 rfl hN hC hs, ob_s, bh_i1, c_isCard1 rfl hN hC hc, ob_s, bh_i1, c_isColumn1 rfl hN hC hk, ob_s, bh_i1, e9, ob_s]
    refine wl2_up (P := fun o => o = some (nI (bh_mxf (fun r => bh_T C R E K z s cl c r k) R), G1)) (I := fun i y G' => G' = G1 ∧ y = nI (bh_mxf (fun r => bh_T C R E K z s cl c r k) i)) (N := R) (by omega) ?_ (n := FU) (i := 0) (Nat.zero_le _) ⟨rfl, rfl⟩ (by unfold FU; omega)
    rintro kc r _ G' hr' ⟨rfl, rfl⟩ hkc
    unfold lp_X9_filled_41
    rw [F9.2.2.1, hC1.2.1.1.2.1]
    by_cases hr : r < R
    · have h1 := hT r k hr hk
      have h2 := hb r (by omega)
      rw [if_neg (nI_ge hr (by omega)), bh_turnAt v9 hbR.2 hbK.2 hr hk, ob_s, jmax_n (by omega) (by omega), lt_r, nI_1]
      exact hkc hr _ _ ⟨rfl, rfl⟩
    · have hr2 : r = R := by omega
      subst hr2
      rw [if_pos (nI_le (by omega) (by omega))]
  · unfold f_X10_filled
    rw [lt_r, m_isSerial1 hN hM2 hs, ob_s, bh_i1, m_isCard1 hN hM2 hc, ob_s, bh_i1, m_isColumn1 hN hM2 hk, ob_s, bh_i1, e5, ov_s]
    refine wl2_up (P := fun o => o = some (nI (bh_mxf (fun r => bh_T C R E K z s cl c r k) R), G5)) (I := fun i y G' => G' = G5 ∧ y = nI (bh_mxf (fun r => if r < R then bh_T C R E K z s cl c r k else 0) i)) (N := 3) (by omega) ?_ (n := FU) (i := 0) (Nat.zero_le _) ⟨rfl, rfl⟩ (by unfold FU; omega)
    rintro kc r _ G' hr' ⟨rfl, rfl⟩ hkc
    unfold lp_X10_filled_45
    rw [show (3 : Int32) = nI 3 from rfl]
    by_cases hr : r < 3
    · have h2 : bh_mxf (fun r => if r < R then bh_T C R E K z s cl c r k else 0) r ≤ 45 := bh_mxf_le.mpr fun q hq => by
        by_cases hqR : q < R
        · rw [if_pos hqR]; exact hT q k hqR hk
        · rw [if_neg hqR]; omega
      have hle : (if c < C ∧ r < R ∧ k < K then bh_ST C R E K z s c r k else 0) ≤ C * R * E := by
        by_cases hin : c < C ∧ r < R ∧ k < K
        · rw [if_pos hin]; exact bh_ST_N hV s hc hin.2.1 hk
        · rw [if_neg hin]; omega
      rw [if_neg (nI_ge hr (by omega)), m_at0, ob_s, inb_n (by omega) (by omega), gd_t, nI_clamp (by omega), SM0 p5 (by omega) hr (by omega), m_later hV hE5 hp h2 hle, ob_s, nI_1]
      refine hkc hr _ _ ⟨rfl, ?_⟩
      show nI (max _ _) = nI (max _ (if r < R then bh_T C R E K z s cl c r k else 0))
      by_cases hrR : r < R
      · rw [if_pos ⟨hc, hrR, hk⟩, if_pos hrR]; rfl
      · rw [if_neg (fun q => hrR q.2.1), if_neg hrR, bh_tn_0 hp]
    · have hr2 : r = 3 := by omega
      subst hr2
      rw [if_pos (nI_le (by omega) (by omega)), bh_mxf_ext (f := fun r => bh_T C R E K z s cl c r k) (m := R) hbR.2 (fun q hq => by rw [if_pos hq]) (fun q h1 h2 => if_neg (by omega))]
theorem q_last (x1 x2 : Int32) : bh_Qy (f_X9_last x1 x2) (f_X10_last x1 x2) := by
  intro G hR
  have hh := bh_nwc hR
  have fT := bh_thr G
  rcases hR.2.2.2.2.1 with h0 | ⟨ln, C, R, E, K, m, pu, bb, z, sv, cl, pr, hN, hC, hM⟩
  · have h02 := bh_sc0 hh h0 fT
    exact bh_qy hR (v := (-2 : Int32)) (by unfold f_X9_last; rw [c_isSerialN rfl h0 _, ob_s, bh_i0]) (by unfold f_X10_last; rw [lt_r, m_isSerialN h02 _, ob_s, bh_i0]) (bh_Fr _ _) (bh_thr G)
  have hM2 := bh_scM hN hM fT
  have hV := hN.2.1
  have h45 := bh_N45 hV
  have hbC := hV.1
  have hbR := hV.2.1
  have hbE := hV.2.2.1
  have hbK := hV.2.2.2.1
  have hbm := hN.2.2.1
  rcases bh_cls (x := x1) (p := fun j => j < 10000) with ⟨s, hs, rfl⟩ | ns
  rotate_left
  · exact bh_qy hR (v := (-2 : Int32)) (by unfold f_X9_last; rw [c_isSerial0 rfl hN hC ns, ob_s, bh_i0]) (by unfold f_X10_last; rw [lt_r, m_isSerial0 hN hM2 ns, ob_s, bh_i0]) (bh_Fr _ _) (bh_thr G)
  rcases bh_cls (x := x2) (p := fun j => j < C) with ⟨c, hc, rfl⟩ | nc
  rotate_left
  · exact bh_qy hR (v := (-2 : Int32)) (by unfold f_X9_last; rw [c_isSerial1 rfl hN hC hs, ob_s, bh_i1, c_isCard0 rfl hN hC nc, ob_s, bh_i0]) (by unfold f_X10_last; rw [lt_r, m_isSerial1 hN hM2 hs, ob_s, bh_i1, m_isCard0 hN hM2 nc, ob_s, bh_i0]) (bh_Fr _ _) (bh_thr G)
  have hk : 2 < 3 := by omega
  obtain ⟨G1, e9, v9, F9⟩ := c_cardOf rfl hh hN hC hs hc
  have hp := hN.2.2.2.2.2.2.2
  have hT := bh_T45 (s := s) hV hp hc
  have hC1 := bh_scC hh hN hC F9
  have hM2 := bh_scM hN hM (bh_Ft F9 (bh_thr _))
  obtain ⟨G4, e4, F4⟩ := bh_turnOf (kind := 2) v9 hbR hbK.2 hk hT
  have FF4 := bh_Ft F9 (scr73 F4)
  have hC4 := bh_scC hh hN hC FF4
  have hM2 := bh_scM hN hM (bh_Ft FF4 (bh_thr _))
  obtain ⟨G5, e5, p5, -, F5⟩ := m_makes hN hM2 hs
  have hM5 := bh_scM hN hM2 (bh_WS (by omega) F5)
  have hE5 := bh_ME_of hM5
  have FF5 : bh_F bh_SCR G4 G5 := bh_Ft (bh_thr _) (bh_WS (by omega) F5)
  have e : bh_tI K R (bh_T C R E K z s cl c) 2 = nI (bh_tO K R (bh_T C R E K z s cl c) 2) := if_neg (by omega)
  have hle : bh_tO K R (bh_T C R E K z s cl c) 2 ≤ C * R * E := bh_tO_le hbR (by omega) (by omega) (fun r k hr hk => bh_T_le hV hp hc hr hk)
  have hiff : ∀ m, bh_tO K R (bh_T C R E K z s cl c) 2 ≤ m ↔ ∀ r, r < R → bh_rT K (bh_T C R E K z s cl c) r ≤ m := by
    intro m
    have e2 : bh_tO K R (bh_T C R E K z s cl c) 2 = bh_srt R (bh_rT K (bh_T C R E K z s cl c)) (R - 1) := rfl
    rw [e2]
    constructor
    · intro h r hr
      have : bh_rT K (bh_T C R E K z s cl c) r ≤ bh_srt R (bh_rT K (bh_T C R E K z s cl c)) (R - 1) := by
        rcases (by omega : R = 1 ∨ R = 2 ∨ R = 3) with rfl | rfl | rfl
        · have : r = 0 := by omega
          subst this; simp [bh_srt]
        · rcases (by omega : r = 0 ∨ r = 1) with rfl | rfl <;> simp [bh_srt] <;> omega
        · rcases (by omega : r = 0 ∨ r = 1 ∨ r = 2) with rfl | rfl | rfl <;> simp [bh_srt] <;> omega
      omega
    · intro h
      obtain ⟨i, hi, he⟩ := bh_srt_mem (a := bh_rT K (bh_T C R E K z s cl c)) (n := R) (j := R - 1) hbR.2 (by omega)
      rw [he]; exact h i hi
  have hpos : 1 ≤ bh_tO K R (bh_T C R E K z s cl c) 2 := by
    obtain ⟨k0, hk0, h0⟩ := bh_row_some (s := s) hV hc (r := 0) (by omega)
    have h1 := (hiff (bh_tO K R (bh_T C R E K z s cl c) 2)).mp (Nat.le_refl _) 0 (by omega)
    have h2 := bh_mxf_le.mp h1 k0 hk0
    have h3 : 0 < bh_T C R E K z s cl c 0 k0 := (bh_tn_pos hp (bh_ST_N hV s hc (by omega) hk0)).mpr (by omega)
    omega
  obtain ⟨t, ht⟩ : ∃ t, bh_tO K R (bh_T C R E K z s cl c) 2 = t + 1 := ⟨bh_tO K R (bh_T C R E K z s cl c) 2 - 1, by omega⟩
  have e7 : gI G5 197 t = nI (cl t) := by
    have := hM5.2.2.2.2 t (by omega)
    rwa [Nat.mul_zero, Nat.zero_add] at this
  refine bh_qy hR (v := nI (cl t)) (G1 := G4) (G2 := G5) ?_ ?_ FF4 FF5
  · unfold f_X9_last
    rw [c_isSerial1 rfl hN hC hs, ob_s, bh_i1, c_isCard1 rfl hN hC hc, ob_s, bh_i1, e9, ob_s, show (2 : Int32) = nI 2 from rfl, e4, ob_s, e, ht, if_neg (show ¬ nI (t + 1) < (1 : Int32) from nI_nlt (b := 1) (by omega) (by omega)), FF4.2.2.1, hC4.2.1.2.1.1, hV.2.2.2.2.2.2.1, if_pos (nI_le (by omega) (by omega)), bh_m1, inb_n (by omega) (by omega), gd_t, nI_clamp (by omega), (hC4.2.2.2.2 t (by omega)).1]
  · unfold f_X10_last
    rw [lt_r, m_isSerial1 hN hM2 hs, ob_s, bh_i1, m_isCard1 hN hM2 hc, ob_s, bh_i1, e5, ov_s]
    refine wl2_up (P := fun o => o = some (nI (cl t), G5)) (I := fun i y G' => G' = G5 ∧ y = nI (bh_mxf (fun i => if i / 5 < R ∧ i % 5 < K then bh_T C R E K z s cl c (i / 5) (i % 5) else 0) i)) (N := 15) (by omega) ?_ (n := FU) (i := 0) (Nat.zero_le _) ⟨rfl, rfl⟩ (by unfold FU; omega)
    rintro kc i _ G' hi' ⟨rfl, rfl⟩ hkc
    have h2 : ∀ n, bh_mxf (fun i => if i / 5 < R ∧ i % 5 < K then bh_T C R E K z s cl c (i / 5) (i % 5) else 0) n ≤ 45 := fun n => bh_mxf_le.mpr fun q hq => by
      by_cases hqR : q / 5 < R ∧ q % 5 < K
      · rw [if_pos hqR]; exact hT _ _ hqR.1 hqR.2
      · rw [if_neg hqR]; omega
    unfold lp_X10_last_36
    rw [show (15 : Int32) = nI 15 from rfl]
    by_cases hi : i < 15
    · have hS := SM0 p5 (c := c) (r := i / 5) (k := i % 5) (by omega) (by omega) (by omega)
      rw [show 15 * c + 5 * (i / 5) + i % 5 = 15 * c + i from by omega] at hS
      have hle : (if c < C ∧ i / 5 < R ∧ i % 5 < K then bh_ST C R E K z s c (i / 5) (i % 5) else 0) ≤ C * R * E := by
        by_cases hin : c < C ∧ i / 5 < R ∧ i % 5 < K
        · rw [if_pos hin]; exact bh_ST_N hV s hc hin.2.1 hin.2.2
        · rw [if_neg hin]; omega
      rw [if_neg (nI_ge hi (by omega)), pk_mul, nI_add, inb_n (by omega) (by omega), gd_t, nI_clamp (by omega), hS, m_later hV hE5 hp (h2 i) hle, ob_s, nI_1]
      refine hkc hi _ _ ⟨rfl, ?_⟩
      show nI (max _ _) = nI (max _ (if i / 5 < R ∧ i % 5 < K then bh_T C R E K z s cl c (i / 5) (i % 5) else 0))
      by_cases hrR : i / 5 < R ∧ i % 5 < K
      · rw [if_pos ⟨hc, hrR⟩, if_pos hrR]; rfl
      · rw [if_neg (fun q => hrR q.2), if_neg hrR, bh_tn_0 hp]
    · have hi2 : i = 15 := by omega
      subst hi2
      have hm : bh_mxf (fun i => if i / 5 < R ∧ i % 5 < K then bh_T C R E K z s cl c (i / 5) (i % 5) else 0) 15 = t + 1 := by
        rw [← ht]
        apply Nat.le_antisymm
        · refine bh_mxf_le.mpr fun q hq => ?_
          by_cases hqR : q / 5 < R ∧ q % 5 < K
          · rw [if_pos hqR]
            exact bh_mxf_le.mp ((hiff _).mp (Nat.le_refl _) (q / 5) hqR.1) (q % 5) hqR.2
          · rw [if_neg hqR]; omega
        · refine (hiff _).mpr fun r hr => bh_rT_le fun k hk => ?_
          have := bh_mxf_le.mp (Nat.le_refl (bh_mxf (fun i => if i / 5 < R ∧ i % 5 < K then bh_T C R E K z s cl c (i / 5) (i % 5) else 0) 15)) (5 * r + k) (by omega)
          rw [show (5 * r + k) / 5 = r from by omega, show (5 * r + k) % 5 = k from by omega, if_pos ⟨hr, hk⟩] at this
          exact this
      rw [if_pos (nI_le (by omega) (by omega)), hm, bh_m1, inb_n (by omega) (by omega), gd_t, nI_clamp (by omega), e7]
