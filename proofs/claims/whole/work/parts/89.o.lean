/-! READING: the beginning and the end -/
theorem m_clears (H : GM) : ∃ H', f_X10_clears H = some H' ∧ gI H' 192 4 = 0 ∧ (∀ k, k < 7 → gI H' 193 (32 + k) = 0) ∧ gI H' 193 39 = 1 ∧ (∀ k, k < 3 → gI H' 195 (12 + k) = 0) ∧ bh_F (fun a q => (a = 192 ∧ q = 4) ∨ (a = 193 ∧ 32 ≤ q ∧ q < 40) ∨ (a = 195 ∧ 12 ≤ q ∧ q < 15)) H H' := by
  unfold f_X10_clears
  rw [show inb (4 : Int32) 6 = true from by decide, gd_t, show (4 : Int32).toNatClampNeg = 4 from by decide, lt_r]
  have F0 : bh_F (fun a q => (a = 192 ∧ q = 4) ∨ (a = 193 ∧ 32 ≤ q ∧ q < 40) ∨ (a = 195 ∧ 12 ≤ q ∧ q < 15)) H (sI H 192 4 0) := bh_FI (bh_Fr _ _) (Or.inl ⟨rfl, rfl⟩)
  refine wl1_up (P := fun o => ∃ H', o = some H' ∧ gI H' 192 4 = 0 ∧ (∀ k, k < 7 → gI H' 193 (32 + k) = 0) ∧ gI H' 193 39 = 1 ∧ (∀ k, k < 3 → gI H' 195 (12 + k) = 0) ∧ bh_F (fun a q => (a = 192 ∧ q = 4) ∨ (a = 193 ∧ 32 ≤ q ∧ q < 40) ∨ (a = 195 ∧ 12 ≤ q ∧ q < 15)) H H') (I := fun i H1 => (∀ k, k < i → gI H1 193 (32 + k) = if k = 7 then 1 else 0) ∧ bh_F (fun a q => a = 193 ∧ 32 ≤ q ∧ q < 40) (sI H 192 4 0) H1) (N := 8) (by omega) ?_ (n := FU) (i := 0) (Nat.zero_le _) ⟨fun k hk => absurd hk (Nat.not_lt_zero _), bh_Fr _ _⟩ (by unfold FU; omega)
  rintro kc i H1 hi' ⟨q1, F1⟩ hkc
  unfold lp_X10_clears_9 k_X10_clears_34
  by_cases hi : i < 8
  · rw [if_neg (show ¬ (8 : Int32) ≤ nI i from nI_ge (b := 8) hi (by omega)), show (32 : Int32) = nI 32 from rfl, nI_add, inb_n (by omega) (by omega), gd_t, gd_t, nI_clamp (by omega), lt_r, lt_r, nI_1]
    have nx1 : ∀ (v : Int32), (v = if i = 7 then 1 else 0) → (∀ k, k < i + 1 → gI (sI H1 193 (32 + i) v) 193 (32 + k) = if k = 7 then 1 else 0) ∧ bh_F (fun a q => a = 193 ∧ 32 ≤ q ∧ q < 40) (sI H 192 4 0) (sI H1 193 (32 + i) v) := fun v hv => ⟨fun k hk => by
      by_cases hki : k = i
      · rw [hki, gI_sIs]; exact hv
      · rw [gI_sIk (by omega)]; exact q1 k (by omega), bh_FI F1 (by omega)⟩
    by_cases h7 : i = 7
    · rw [if_pos (show nI i = (7 : Int32) from by rw [h7]; rfl)]
      exact hkc hi _ (nx1 1 (by rw [if_pos h7]))
    · rw [if_neg (show ¬ nI i = (7 : Int32) from fun h => h7 ((nI_eq (b := 7) (by omega) (by omega)).mp h))]
      exact hkc hi _ (nx1 0 (by rw [if_neg h7]))
  · have hi2 : i = 8 := by omega
    subst hi2
    rw [if_pos (show (8 : Int32) ≤ nI 8 from by decide)]
    refine wl1_up (P := fun o => ∃ H', o = some H' ∧ gI H' 192 4 = 0 ∧ (∀ k, k < 7 → gI H' 193 (32 + k) = 0) ∧ gI H' 193 39 = 1 ∧ (∀ k, k < 3 → gI H' 195 (12 + k) = 0) ∧ bh_F (fun a q => (a = 192 ∧ q = 4) ∨ (a = 193 ∧ 32 ≤ q ∧ q < 40) ∨ (a = 195 ∧ 12 ≤ q ∧ q < 15)) H H') (I := fun i H2 => (∀ k, k < i → gI H2 195 (12 + k) = 0) ∧ bh_F (fun a q => a = 195 ∧ 12 ≤ q ∧ q < 15) H1 H2) (N := 3) (by omega) ?_ (n := FU) (i := 0) (Nat.zero_le _) ⟨fun k hk => absurd hk (Nat.not_lt_zero _), bh_Fr _ _⟩ (by unfold FU; omega)
    rintro kc2 j H2 hj' ⟨q2, F2⟩ hkc2
    unfold lp_X10_clears_43
    by_cases hj : j < 3
    · rw [if_neg (show ¬ (3 : Int32) ≤ nI j from nI_ge (b := 3) hj (by omega)), show (12 : Int32) = nI 12 from rfl, nI_add, inb_n (by omega) (by omega), gd_t, nI_clamp (by omega), lt_r, nI_1]
      refine hkc2 hj _ ⟨fun k hk => ?_, bh_FI F2 (by omega)⟩
      by_cases hkj : k = j
      · rw [hkj, gI_sIs]
      · rw [gI_sIk (by omega)]; exact q2 k (by omega)
    · have hj2 : j = 3 := by omega
      subst hj2
      rw [if_pos (show (3 : Int32) ≤ nI 3 from by decide)]
      refine ⟨H2, rfl, ?_, fun k hk => ?_, ?_, q2, bh_Ft F0 (bh_Ft (bh_Fm F1 (fun a q h => by omega)) (bh_Fm F2 (fun a q h => by omega)))⟩
      · rw [F2.1 _ _ (by omega), F1.1 _ _ (by omega), gI_sIs]
      · rw [F2.1 _ _ (by omega), q1 k (by omega), if_neg (by omega)]
      · rw [F2.1 _ _ (by omega)]
        exact (q1 7 (by omega)).trans (if_pos rfl)
def rd_EM0 (a q : Nat) : Prop := rd_LN a q ∨ (a = 186 ∧ q = 0)
theorem rd_begin {h : Nat} {G H : GM} (hh : h = 1 ∨ h = 23) (hT : RT G) (hag : ∀ a q, 186 ≤ a → gI H a q = gI G a q) : ∃ G' H' n a p t, f_X7_begin h G = some G' ∧ (∀ kc : GM → Option (Int32 × GM), (lt (sI H 186 0 (0 : Int32)) fun G2 => ov (f_X10_clears G2) fun G6 => ov (f_X10_begins G6) fun G10 => kc G10) = kc H') ∧ rd_G n a p t G' H' ∧ (t ≠ 0 → 0 + 1 ≤ a) ∧ rd_D0 h G' H' ∧ bh_F (rd_LC h) G G' ∧ bh_F rd_EM0 H H' := by
  obtain ⟨n, hn, t1, t2, t3⟩ := hT
  -- the class's hall cleared
  have FA : bh_F (fun a q => a = h + 1 ∧ q < 4) G (sI (sI (sI (sI G (h + 1) 0 0) (h + 1) 1 0) (h + 1) 2 0) (h + 1) 3 0) := bh_FI (bh_FI (bh_FI (bh_FI (bh_Fr _ _) (by omega)) (by omega)) (by omega)) (by omega)
  have vA : ∀ k, k < 4 → gI (sI (sI (sI (sI G (h + 1) 0 0) (h + 1) 1 0) (h + 1) 2 0) (h + 1) 3 0) (h + 1) k = nI 0 := fun k hk => by
    rcases (by omega : k = 0 ∨ k = 1 ∨ k = 2 ∨ k = 3) with rfl | rfl | rfl | rfl
    · rw [gI_sIk (by decide), gI_sIk (by decide), gI_sIk (by decide), gI_sIs]; rfl
    · rw [gI_sIk (by decide), gI_sIk (by decide), gI_sIs]; rfl
    · rw [gI_sIk (by decide), gI_sIs]; rfl
    · rw [gI_sIs]; rfl
  obtain ⟨G1, e1, p1, F1⟩ := bh_settle (G := sI (sI (sI (sI G (h + 1) 0 0) (h + 1) 1 0) (h + 1) 2 0) (h + 1) 3 0) (f := h + 1) (C := 0) (R := 0) (E := 0) (K := 0) (z := fun _ => 0) (by omega) (by omega) (Or.inr rfl) (by omega) (by omega) (fun k hk => absurd hk (Nat.not_lt_zero _)) (vA 0 (by omega)) (vA 1 (by omega)) (vA 2 (by omega)) (vA 3 (by omega)) (fun k hk => absurd hk (Nat.not_lt_zero _))
  have FB : bh_F (fun a _ => h ≤ a ∧ a ≤ h + 21) G (sI G1 h 1 0) := bh_FI (bh_Ft (bh_Fm FA (fun a q hq => by omega)) (bh_Fm F1 (fun a q hq => by unfold bh_WF at hq; omega))) (by omega)
  obtain ⟨G2, e2, F2, p2⟩ := bh_fill (b := h + 9) (sI G1 h 1 0) 0 (by rcases hh with rfl | rfl <;> decide +kernel)
  have l9 : LN (h + 9) = 3 := by rcases hh with rfl | rfl <;> decide +kernel
  have FC : bh_F (rd_LC h) G (sI (sI (sI (sI (sI (sI (sI G2 h 3 0) h 4 0) h 5 0) 53 4 0) 53 8 1) 53 9 0) 53 10 (-1)) := bh_FI (bh_FI (bh_FI (bh_FI (bh_FI (bh_FI (bh_FI (bh_Ft (bh_Fm FB (fun a q hq => Or.inr (Or.inr hq))) (bh_Fm F2 (fun a q hq => Or.inr (Or.inr (by omega))))) (Or.inr (Or.inr (by omega)))) (Or.inr (Or.inr (by omega)))) (Or.inr (Or.inr (by omega)))) (Or.inl (by omega))) (Or.inl (by omega))) (Or.inl (by omega))) (Or.inl (by omega))
  have uc : f_X7_begin h G = ov (f_X7_takeToken (sI (sI (sI (sI (sI (sI (sI G2 h 3 0) h 4 0) h 5 0) 53 4 0) 53 8 1) 53 9 0) 53 10 (-1))) fun G25 => some G25 := by
    unfold f_X7_begin f_X5_clear f_X4_clear
    rw [lt_r, lt_r, lt_r, lt_r, e1, ov_s, ov_s, lt_r, e2, ov_s, lt_r, lt_r, lt_r, ov_s, lt_r, lt_r, lt_r, lt_r]
  -- what lies there now
  have keep : ∀ {a q : Nat}, a ≠ h → a ≠ 53 → gI (sI (sI (sI (sI (sI (sI (sI G2 h 3 0) h 4 0) h 5 0) 53 4 0) 53 8 1) 53 9 0) 53 10 (-1)) a q = gI G2 a q := fun h1 h2 => by rw [gI_sIa h2, gI_sIa h2, gI_sIa h2, gI_sIa h2, gI_sIa h1, gI_sIa h1, gI_sIa h1]
  have keepf : ∀ q, gI (sI (sI (sI (sI (sI (sI (sI G2 h 3 0) h 4 0) h 5 0) 53 4 0) 53 8 1) 53 9 0) 53 10 (-1)) (h + 1) q = gI G1 (h + 1) q := fun q => by
    rw [keep (by omega) (by omega), F2.1 _ _ (by omega), gI_sIa (by omega)]
  have d53 : ∀ {q : Nat}, gI (sI (sI (sI (sI (sI (sI (sI G2 h 3 0) h 4 0) h 5 0) 53 4 0) 53 8 1) 53 9 0) 53 10 (-1)) h q = gI (sI (sI (sI G2 h 3 0) h 4 0) h 5 0) h q := fun {q} => by
    rw [gI_sIa (by omega), gI_sIa (by omega), gI_sIa (by omega), gI_sIa (by omega)]
  have c1 : (gI (sI (sI (sI (sI (sI (sI (sI G2 h 3 0) h 4 0) h 5 0) 53 4 0) 53 8 1) 53 9 0) 53 10 (-1)) h 1 = 0 ∧ gI (sI (sI (sI (sI (sI (sI (sI G2 h 3 0) h 4 0) h 5 0) 53 4 0) 53 8 1) 53 9 0) 53 10 (-1)) h 3 = 0 ∧ gI (sI (sI (sI (sI (sI (sI (sI G2 h 3 0) h 4 0) h 5 0) 53 4 0) 53 8 1) 53 9 0) 53 10 (-1)) h 4 = 0 ∧ gI (sI (sI (sI (sI (sI (sI (sI G2 h 3 0) h 4 0) h 5 0) 53 4 0) 53 8 1) 53 9 0) 53 10 (-1)) h 5 = 0) := by
    rw [d53, d53, d53, d53]
    refine ⟨?_, ?_, ?_, ?_⟩
    · rw [gI_sIk (by decide), gI_sIk (by decide), gI_sIk (by decide), F2.1 _ _ (by omega), gI_sIs]
    · rw [gI_sIk (by decide), gI_sIk (by decide), gI_sIs]
    · rw [gI_sIk (by decide), gI_sIs]
    · rw [gI_sIs]
  have c53 : (gI (sI (sI (sI (sI (sI (sI (sI G2 h 3 0) h 4 0) h 5 0) 53 4 0) 53 8 1) 53 9 0) 53 10 (-1)) 53 4 = nI 0 ∧ gI (sI (sI (sI (sI (sI (sI (sI G2 h 3 0) h 4 0) h 5 0) 53 4 0) 53 8 1) 53 9 0) 53 10 (-1)) 53 8 = 1 ∧ gI (sI (sI (sI (sI (sI (sI (sI G2 h 3 0) h 4 0) h 5 0) 53 4 0) 53 8 1) 53 9 0) 53 10 (-1)) 53 9 = 0 ∧ gI (sI (sI (sI (sI (sI (sI (sI G2 h 3 0) h 4 0) h 5 0) 53 4 0) 53 8 1) 53 9 0) 53 10 (-1)) 53 10 = -1) := by
    refine ⟨?_, ?_, ?_, gI_sIs _ _ _ _⟩
    · rw [gI_sIk (by decide), gI_sIk (by decide), gI_sIk (by decide), gI_sIs]; rfl
    · rw [gI_sIk (by decide), gI_sIk (by decide), gI_sIs]
    · rw [gI_sIk (by decide), gI_sIs]
  have c9 : ∀ k, k < 3 → gI (sI (sI (sI (sI (sI (sI (sI G2 h 3 0) h 4 0) h 5 0) 53 4 0) 53 8 1) 53 9 0) 53 10 (-1)) (h + 9) k = 0 := fun k hk => by
    rw [keep (by omega) (by omega)]; exact p2 k (by omega)
  have cf : ∀ k, k < 4 → gI G1 (h + 1) k = 0 := fun k hk => by
    rw [F1.1 _ _ (by unfold bh_WF; omega)]; exact vA k hk
  have c6 : gI G1 (h + 1) 6 = 0 := p1.2.1.1
  generalize sI (sI (sI (sI (sI (sI (sI G2 h 3 0) h 4 0) h 5 0) 53 4 0) 53 8 1) 53 9 0) 53 10 (-1) = G3 at *
  -- the reference's
  obtain ⟨H1, m1, y4, yk, y39, y12, K1⟩ := m_clears (sI H 186 0 0)
  have KA : bh_F rd_EM0 H (sI (sI (sI H1 186 12 0) 186 13 (-1)) 186 7 0) := bh_FI (bh_FI (bh_FI (bh_Ft (bh_FI (bh_Fr _ _) (Or.inr ⟨rfl, rfl⟩)) (bh_Fm K1 (fun a q hq => Or.inl (Or.inr (Or.inr (by unfold bh_PM; omega)))))) (Or.inl (Or.inl (by omega)))) (Or.inl (Or.inl (by omega)))) (Or.inl (Or.inl (by omega)))
  have hT3 : rd_T n G3 (sI (sI (sI H1 186 12 0) 186 13 (-1)) 186 7 0) := by
    refine ⟨hn, ?_, ?_, fun i hi => ?_⟩
    · rw [FC.1 _ _ (by unfold rd_LC; omega)]; exact t1
    · rw [KA.1 _ _ (by unfold rd_EM0 rd_LN bh_PM; omega), hag _ _ (by omega)]; exact t2
    · rw [FC.1 _ _ (by unfold rd_LC; omega), KA.1 _ _ (by unfold rd_EM0 rd_LN bh_PM; omega), hag _ _ (by omega)]; exact t3 i hi
  have m7 : gI (sI (sI (sI H1 186 12 0) 186 13 (-1)) 186 7 0) 186 7 = nI 0 := gI_sIs _ _ _ _
  obtain ⟨G4, H4, a, p, t, e4, m4, hC4, hap, F4, K4⟩ := rd_tok hT3 (Nat.zero_le n) c53.1 m7
  refine ⟨G4, H4, n, a, p, t, ?_, fun kc => ?_, ⟨rd_T_F hT3 F4 (fun x q h => by unfold rd_FC; omega) K4 (fun x q h => by unfold rd_FM; omega), hC4, ?_, ?_, ?_, ?_⟩, fun ht => by have := hC4.2.1.2.2.2 ht; omega, ⟨⟨?_, ?_, ?_, ?_, ?_⟩, fun k hk => ?_, ?_, fun k hk => ?_, ?_, fun k hk => ?_, ?_, fun k hk => ?_⟩, bh_Ft FC (bh_Fm F4 (fun a q h => rd_FB_L a q (rd_FC_B a q h))), bh_Ft KA (bh_Fm K4 (fun a q h => Or.inl (rd_FN_L a q (rd_FM_N a q h))))⟩
  · rw [uc, e4, ov_s]
  · rw [lt_r, m1, ov_s]
    unfold f_X10_begins
    rw [lt_r, lt_r, lt_r, m4, ov_s, ov_s]
  · rw [F4.1 _ _ (by unfold rd_FC; omega)]; exact c53.2.2.1
  · rw [K4.1 _ _ (by unfold rd_FM; omega), gI_sIk (by decide), gI_sIk (by decide), gI_sIs]
  · rw [F4.1 _ _ (by unfold rd_FC; omega)]; exact c53.2.2.2
  · rw [K4.1 _ _ (by unfold rd_FM; omega), gI_sIk (by decide), gI_sIs]
  · rw [F4.1 _ _ (by unfold rd_FC; omega)]; exact c1.1
  · rw [F4.1 _ _ (by unfold rd_FC; omega)]; exact c1.2.1
  · rw [F4.1 _ _ (by unfold rd_FC; omega)]; exact c1.2.2.1
  · rw [F4.1 _ _ (by unfold rd_FC; omega)]; exact c1.2.2.2
  · rw [F4.1 _ _ (by unfold rd_FC; omega)]; exact c53.2.1
  · rw [F4.1 _ _ (by unfold rd_FC; omega), keepf]; exact cf k hk
  · rw [F4.1 _ _ (by unfold rd_FC; omega), keepf]; exact c6
  · rw [F4.1 _ _ (by unfold rd_FC; omega)]; exact c9 k hk
  · rw [K4.1 _ _ (by unfold rd_FM; omega), gI_sIa (by decide), gI_sIa (by decide), gI_sIa (by decide)]; exact y4
  · rw [K4.1 _ _ (by unfold rd_FM; omega), gI_sIa (by decide), gI_sIa (by decide), gI_sIa (by decide)]; exact yk k hk
  · rw [K4.1 _ _ (by unfold rd_FM; omega), gI_sIa (by decide), gI_sIa (by decide), gI_sIa (by decide)]; exact y39
  · rw [K4.1 _ _ (by unfold rd_FM; omega), gI_sIa (by decide), gI_sIa (by decide), gI_sIa (by decide)]; exact y12 k hk
