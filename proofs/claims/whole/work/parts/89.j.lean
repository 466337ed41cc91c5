/-! READING: the later lines: prize, jackpot, caller -/
theorem rd_takeNG {n a p t lo hi : Nat} {G H : GM} (hG : rd_G n a p t G H) (hh : hi < 1000000) (hl : lo ≤ hi) : (∃ v G1 H1 a1 p1 t1, t = 2 ∧ lo ≤ v ∧ v ≤ hi ∧ gI G 53 7 = nI v ∧ gI H 186 10 = nI v ∧ f_X7_isNumberOf (nI lo) (nI hi) G = some (1, G) ∧ f_X7_takeNumber (nI lo) (nI hi) G = some (nI v, G1) ∧ f_X10_number (nI lo) (nI hi) H = some (nI v, H1) ∧ rd_G n a1 p1 t1 G1 H1 ∧ a ≤ a1 ∧ bh_F rd_FB G G1 ∧ bh_F rd_FN H H1) ∨ (f_X7_isNumberOf (nI lo) (nI hi) G = some (0, G) ∧ (t = 2 → ∀ v, gI H 186 10 = nI v → v < 2 ^ 31 → ¬ (lo ≤ v ∧ v ≤ hi)) ∧ ∃ G1 H1, f_X7_takeNumber (nI lo) (nI hi) G = some (nI lo, G1) ∧ f_X10_number (nI lo) (nI hi) H = some (nI lo, H1) ∧ rd_X n G1 H1 ∧ bh_F rd_FB G G1 ∧ bh_F rd_FN H H1) := by
  obtain ⟨hT, hC, c9, m12, c10, m13⟩ := id hG
  have c5 := hC.1.2.2.2.2.1
  have m8 := hC.1.2.2.2.2.2
  have b3 := hC.2.1.2.2.1
  have bad : ∀ {k : Int32}, k ≠ 0 → ∃ G' H' G'', f_X7_fail k G = some G'' ∧ k_X7_takeNumber_30 (nI lo) (nI hi) G'' = some (nI lo, G') ∧ f_X10_fails k H = some H' ∧ rd_X n G' H' ∧ bh_F rd_FB G G' ∧ bh_F rd_FN H H' := fun {k} hk => by
    obtain ⟨G1, H1, e1, e2, hX, F1, F2⟩ := rd_fail hG hk
    obtain ⟨f, s, hB, x1, x2⟩ := hX
    obtain ⟨G2, e3, hB2, F3⟩ := rdB_tok hB
    refine ⟨G2, H1, G1, e1, ?_, e2, ⟨f, s, hB2, x1, x2⟩, bh_Ft F1 F3, F2⟩
    unfold k_X7_takeNumber_30 k_X7_takeNumber_45
    rw [hB.1.1, if_neg hB.1.2, e3, ov_s]
  unfold f_X7_takeNumber f_X10_number
  rw [m12, if_pos rfl, c5, m8]
  rcases rd_isN (lo := lo) (hi := hi) hG hh hl with ⟨rfl, v, h1, h2, h3, h3', h4, h5⟩ | ⟨rfl, h3, h4, h5⟩ | ⟨ht, h4⟩
  · obtain ⟨G1, H1, a1, p1, t1, e1, e2, hG1, hap, F1, F2⟩ := rdG_tok hG
    refine Or.inl ⟨v, G1, H1, a1, p1, t1, rfl, h1, h2, h3, h3', h4, ?_, ?_, hG1, by have := hG1.2.1.2.1.1; omega, F1, F2⟩
    · rw [if_pos (show nI 2 = (2 : Int32) from rfl), h4, ob_s, if_neg (by decide)]
      unfold k_X7_takeNumber_30 k_X7_takeNumber_45
      rw [c9, if_pos rfl, e1, ov_s, h3]
    · rw [if_pos (show nI 2 = (2 : Int32) from rfl), h5, ob_s, if_neg (by decide), lt_r, e2, ov_s, h3']
  · obtain ⟨G', H', G'', e1, e2, e3, hX, F1, F2⟩ := bad (k := 2) (by decide)
    refine Or.inr ⟨h4, fun _ => h3, G', H', ?_, ?_, hX, F1, F2⟩
    · rw [if_pos (show nI 2 = (2 : Int32) from rfl), h4, ob_s, if_pos rfl, e1, ov_s, e2]
    · rw [if_pos (show nI 2 = (2 : Int32) from rfl), h5, ob_s, if_pos rfl, e3, ov_s]
  · obtain ⟨G', H', G'', e1, e2, e3, hX, F1, F2⟩ := bad (k := 1) (by decide)
    have ht' : ¬ nI t = (2 : Int32) := fun h => ht ((nI_eq (b := 2) (by omega) (by omega)).mp h)
    refine Or.inr ⟨h4, fun h => absurd h ht, G', H', ?_, ?_, hX, F1, F2⟩
    · rw [if_neg ht', e1, ov_s, e2]
    · rw [if_neg ht', e3, ov_s]
/-- the hall as read so far: bounds, the class's, the reference's -/
def rd_DN (C R E K m pu bb sd : Nat) (z sv pr : Nat → Nat) : Prop := bh_VH C R E K z ∧ m ≤ 8 ∧ pu ≤ 9999 ∧ bb ≤ 45 ∧ (∀ k, k < 3 → pr k ≤ 9999) ∧ (∀ i, i < m → sv i ≤ 9999) ∧ sd ≤ 99999
def rd_DC (G : GM) (h ln C R E K m pu bb sd : Nat) (z sv pr : Nat → Nat) : Prop := (gI G h 1 = nI ln ∧ gI G h 3 = nI pu ∧ gI G h 4 = nI bb ∧ gI G h 5 = nI m ∧ gI G 53 8 = nI sd) ∧ bh_FO G (h + 1) C R E K z ∧ (∀ k, k < 3 → gI G (h + 9) k = nI (pr k)) ∧ ∀ i, i < m → gI G (h + 10) i = nI (sv i) ∧ bh_SC G (h + 12 + i) C R E K z (sv i)
def rd_DM (H : GM) (ln C R E K m pu bb sd : Nat) (z sv pr : Nat → Nat) : Prop := (gI H 192 4 = nI ln ∧ gI H 193 36 = nI m ∧ gI H 193 37 = nI pu ∧ gI H 193 38 = nI bb ∧ gI H 193 39 = nI sd) ∧ bh_MO H 4 C R E K z ∧ (∀ k, k < 3 → gI H 195 (12 + k) = nI (pr k)) ∧ ∀ i, i < m → gI H 196 (32 + i) = nI (sv i)
def rd_D (h ln : Nat) (G H : GM) : Prop := ∃ (C R E K m pu bb sd : Nat) (z sv pr : Nat → Nat), rd_DN C R E K m pu bb sd z sv pr ∧ rd_DC G h ln C R E K m pu bb sd z sv pr ∧ rd_DM H ln C R E K m pu bb sd z sv pr
def rd_LC (h a q : Nat) : Prop := (a = 53 ∧ 4 ≤ q) ∨ (55 ≤ a ∧ a ≤ 61) ∨ (h ≤ a ∧ a ≤ h + 21)
def rd_LN (a q : Nat) : Prop := (a = 186 ∧ 7 ≤ q ∧ q ≠ 14 ∧ q ≠ 15) ∨ 199 ≤ a ∨ bh_PM 4 a q
def rd_R (h n a ln : Nat) (G H : GM) : Prop := rd_X n G H ∨ ∃ a' p' t', a ≤ a' ∧ rd_G n a' p' t' G H ∧ rd_D h ln G H
theorem rd_FB_L {h : Nat} (a q : Nat) (hh : rd_FB a q) : rd_LC h a q := Or.inl ⟨hh.1, hh.2.1⟩
theorem rd_FN_L (a q : Nat) (hh : rd_FN a q) : rd_LN a q := Or.inl ⟨hh.1, hh.2.1, by have := hh.2.2; omega, by have := hh.2.2; omega⟩
section DD
variable {C R E K m pu bb sd ln h : Nat} {z sv pr : Nat → Nat}
theorem rd_DC_F {W : Nat → Nat → Prop} {G G' : GM} (hm : m ≤ 8) (hc : rd_DC G h ln C R E K m pu bb sd z sv pr) (hF : bh_F W G G') (hw : ∀ a q, (h ≤ a ∧ a ≤ h + 21) ∨ (a = 53 ∧ q = 8) → ¬ W a q) : rd_DC G' h ln C R E K m pu bb sd z sv pr := by
  obtain ⟨⟨a1, a2, a3, a4, a5⟩, b, c, d⟩ := hc
  have k : ∀ a q, (h ≤ a ∧ a ≤ h + 21) ∨ (a = 53 ∧ q = 8) → gI G' a q = gI G a q := fun a q h => hF.1 _ _ (hw a q h)
  refine ⟨⟨?_, ?_, ?_, ?_, ?_⟩, bh_FO_F b hF (fun a q h1 h2 => hw a q (by omega)), fun i hi => ?_, fun i hi => ⟨?_, bh_SC_F (d i hi).2 hF (fun q => hw _ q (by omega))⟩⟩
  · rw [k _ _ (by omega)]; exact a1
  · rw [k _ _ (by omega)]; exact a2
  · rw [k _ _ (by omega)]; exact a3
  · rw [k _ _ (by omega)]; exact a4
  · rw [k _ _ (by omega)]; exact a5
  · rw [k _ _ (by omega)]; exact c i hi
  · rw [k _ _ (by omega)]; exact (d i hi).1
theorem rd_DM_F {W : Nat → Nat → Prop} {H H' : GM} (hm : m ≤ 8) (hK : K ≤ 5) (hc : rd_DM H ln C R E K m pu bb sd z sv pr) (hF : bh_F W H H') (hw : ∀ a q, bh_PM 4 a q ∧ a ≠ 197 → ¬ W a q) : rd_DM H' ln C R E K m pu bb sd z sv pr := by
  obtain ⟨⟨a1, a2, a3, a4, a5⟩, b, c, d⟩ := hc
  have k : ∀ a q, bh_PM 4 a q ∧ a ≠ 197 → gI H' a q = gI H a q := fun a q h => hF.1 _ _ (hw a q h)
  refine ⟨⟨?_, ?_, ?_, ?_, ?_⟩, bh_MO_F b hF (fun q h1 h2 => hw _ q (by unfold bh_PM; omega)) (fun q h1 h2 => hw _ q (by unfold bh_PM; omega)) hK, fun i hi => ?_, fun i hi => ?_⟩
  · rw [k _ _ (by unfold bh_PM; omega)]; exact a1
  · rw [k _ _ (by unfold bh_PM; omega)]; exact a2
  · rw [k _ _ (by unfold bh_PM; omega)]; exact a3
  · rw [k _ _ (by unfold bh_PM; omega)]; exact a4
  · rw [k _ _ (by unfold bh_PM; omega)]; exact a5
  · rw [k _ _ (by unfold bh_PM; omega)]; exact c i hi
  · rw [k _ _ (by unfold bh_PM; omega)]; exact d i hi
theorem rd_DC_B {G G' : GM} (hh : h = 1 ∨ h = 23) (hm : m ≤ 8) (hc : rd_DC G h ln C R E K m pu bb sd z sv pr) (hF : bh_F rd_FB G G') : rd_DC G' h ln C R E K m pu bb sd z sv pr := rd_DC_F hm hc hF (fun a q h1 h2 => by unfold rd_FB at h2; omega)
theorem rd_DM_N {H H' : GM} (hm : m ≤ 8) (hK : K ≤ 5) (hc : rd_DM H ln C R E K m pu bb sd z sv pr) (hF : bh_F rd_FN H H') : rd_DM H' ln C R E K m pu bb sd z sv pr := rd_DM_F hm hK hc hF (fun a q h1 h2 => by unfold rd_FN at h2; unfold bh_PM at h1; omega)
end DD
/-- the word's own token taken: known to be there -/
theorem rd_tok1 {n a p t v : Nat} {c : Int64} {G H : GM} (hG : rd_G n a p t G H) (eb : f_X7_isWord v G = some (1, G)) (em : f_X10_is c H = some (1, H)) : ∃ G1 H1 a1 p1 t1, f_X7_takeWord v G = some G1 ∧ f_X10_next H = some H1 ∧ f_X10_takes c H = some (1, H1) ∧ f_X10_asks c H = some H1 ∧ rd_G n a1 p1 t1 G1 H1 ∧ a ≤ a1 ∧ bh_F rd_FB G G1 ∧ bh_F rd_FN H H1 := by
  obtain ⟨G1, H1, a1, p1, t1, e1, e2, hG1, hap, F1, F2⟩ := rdG_tok hG
  refine ⟨G1, H1, a1, p1, t1, ?_, e2, ?_, ?_, hG1, by have := hG1.2.1.2.1.1; omega, F1, F2⟩
  · unfold f_X7_takeWord k_X7_takeWord_13
    rw [eb, ob_s, if_neg (by decide), e1, ov_s]
  · unfold f_X10_takes
    rw [em, ob_s, if_neg (by decide), e2, ov_s]
  · unfold f_X10_asks f_X10_takes
    rw [em, ob_s, if_neg (by decide), e2, ov_s, ob_s, if_neg (by decide)]
theorem rd_takes0 {c : Int64} {H : GM} (em : f_X10_is c H = some (0, H)) : f_X10_takes c H = some (0, H) := by
  unfold f_X10_takes
  rw [em, ob_s, if_pos rfl]
/-- the caller's line -/
theorem rd_caller {h n a p t ln : Nat} {G H : GM} (hh : h = 1 ∨ h = 23) (hG : rd_G n a p t G H) (hD : rd_D h ln G H) : ∃ G' H', (ov (f_X7_takeWord 12 G) fun G103 => ob (f_X7_takeNumber (0 : Int32) (99999 : Int32) G103) fun r111 G111 => some (sI G111 53 8 r111)) = some G' ∧ (ov (f_X10_asks (43823259 : Int64) H) fun G277 => ob (f_X10_number (0 : Int32) (99999 : Int32) G277) fun r290 G290 => some (sI G290 193 39 r290)) = some H' ∧ bh_F (rd_LC h) G G' ∧ bh_F rd_LN H H' ∧ rd_R h n a ln G' H' := by
  obtain ⟨-, -, -, -, -, -, -, -, -, -, -, -, w12⟩ := rd_wds
  obtain ⟨C, R, E, K, m, pu, bb, sd, z, sv, pr, hN, hDC, hDM⟩ := hD
  obtain ⟨G1, H1, e1, m1, S1, F1, K1⟩ := rd_takeW (a := a) (Or.inl ⟨a, p, t, Nat.le_refl _, hG⟩) w12
  obtain ⟨x, G2, H2, hx1, hx2, e2, m2, S2, F2, K2⟩ := rd_takeN (lo := 0) (hi := 99999) S1 (by omega) (by omega)
  have FA : bh_F (fun a q => a = 53 ∧ q = 8) G2 (sI G2 53 8 (nI x)) := bh_FI (bh_Fr _ _) ⟨rfl, rfl⟩
  have KA : bh_F (fun a q => a = 193 ∧ q = 39) H2 (sI H2 193 39 (nI x)) := bh_FI (bh_Fr _ _) ⟨rfl, rfl⟩
  have SA : rd_S n a (sI G2 53 8 (nI x)) (sI H2 193 39 (nI x)) := rd_S_F S2 FA (fun x q h => by unfold rd_KC at h; omega) KA (fun x q h => by unfold rd_KM at h; omega)
  have hC2 := rd_DC_B hh hN.2.1 hDC (bh_Ft F1 F2)
  have hM2 := rd_DM_N hN.2.1 hN.1.2.2.2.1.2 hDM (bh_Ft K1 K2)
  refine ⟨sI G2 53 8 (nI x), sI H2 193 39 (nI x), ?_, ?_, bh_FI (bh_Fm (bh_Ft F1 F2) rd_FB_L) (Or.inl ⟨rfl, by omega⟩), bh_FI (bh_Fm (bh_Ft K1 K2) rd_FN_L) (Or.inr (Or.inr (by unfold bh_PM; omega))), ?_⟩
  · rw [e1, ov_s]
    rw [show f_X7_takeNumber (0 : Int32) (99999 : Int32) G1 = some (nI x, G2) from e2, ob_s]
  · rw [m1, ov_s]
    rw [show f_X10_number (0 : Int32) (99999 : Int32) H1 = some (nI x, H2) from m2, ob_s]
  · rcases SA with ⟨a', p', t', ha', hG'⟩ | hX
    · refine Or.inr ⟨a', p', t', ha', hG', C, R, E, K, m, pu, bb, x, z, sv, pr, ⟨hN.1, hN.2.1, hN.2.2.1, hN.2.2.2.1, hN.2.2.2.2.1, hN.2.2.2.2.2.1, hx2⟩, ?_, ?_⟩
      · obtain ⟨⟨a1, a2, a3, a4, a5⟩, b, c, d⟩ := hC2
        refine ⟨⟨?_, ?_, ?_, ?_, gI_sIs _ _ _ _⟩, bh_FO_F b FA (fun a q h1 h2 => by omega), fun i hi => ?_, fun i hi => ⟨?_, bh_SC_F (d i hi).2 FA (fun q => by have := hN.2.1; omega)⟩⟩
        · rw [FA.1 _ _ (by omega)]; exact a1
        · rw [FA.1 _ _ (by omega)]; exact a2
        · rw [FA.1 _ _ (by omega)]; exact a3
        · rw [FA.1 _ _ (by omega)]; exact a4
        · rw [FA.1 _ _ (by omega)]; exact c i hi
        · rw [FA.1 _ _ (by omega)]; exact (d i hi).1
      · obtain ⟨⟨a1, a2, a3, a4, a5⟩, b, c, d⟩ := hM2
        refine ⟨⟨?_, ?_, ?_, ?_, gI_sIs _ _ _ _⟩, bh_MO_F b KA (fun q h1 h2 => by omega) (fun q h1 h2 => by omega) hN.1.2.2.2.1.2, fun i hi => ?_, fun i hi => ?_⟩
        · rw [KA.1 _ _ (by omega)]; exact a1
        · rw [KA.1 _ _ (by omega)]; exact a2
        · rw [KA.1 _ _ (by omega)]; exact a3
        · rw [KA.1 _ _ (by omega)]; exact a4
        · rw [KA.1 _ _ (by omega)]; exact c i hi
        · rw [KA.1 _ _ (by omega)]; exact d i hi
    · exact Or.inl hX
