/-! READING: the hall's form -/
theorem rd_of3 (H : GM) : f_X10_of (4 : Int32) (3 : Int32) H = some (gI H 193 35, H) := bh_of (w := 4) (j := 3) (by omega) (by omega) H
theorem rd_of2 (H : GM) : f_X10_of (4 : Int32) (2 : Int32) H = some (gI H 193 34, H) := bh_of (w := 4) (j := 2) (by omega) (by omega) H
theorem rd_good {H : GM} (h : gI H 186 12 = 0) : f_X10_isGood H = some (1, H) := by
  unfold f_X10_isGood
  rw [if_pos h]
theorem rd_nogood {n : Nat} {G H : GM} (h : rd_X n G H) : f_X10_isGood H = some (0, H) := by
  obtain ⟨f, s, hB, h1, -⟩ := h
  unfold f_X10_isGood
  rw [h1, if_neg hB.1.2]
theorem rdX_164 {n : Nat} {G H : GM} (h : rd_X n G H) : k_X10_first_164 H = some H := by
  unfold k_X10_first_164
  rw [rd_nogood h, ob_s, if_pos rfl]
theorem rd_np_lt {C R E K : Nat} {z : Nat → Nat} (hC : C ≤ 3) (hR : R ≤ 3) (hE : E ≤ 5) (hK : K ≤ 5) : bh_np C R E K z < 2 ^ 31 := by
  have hlen := (bh_mx_PL (K := K) (R := R) (E := E) hK hR hE).1
  have h2 := bh_sq_len hlen C (bh_PS K z)
  have h3 : 64 ^ C ≤ 64 ^ 3 := Nat.pow_le_pow_right (by omega) hC
  unfold bh_np bh_pl
  omega
/-- is the form as it must be: both -/
theorem rd_said {f C R E K : Nat} {z : Nat → Nat} {G H : GM} (hC : 1 ≤ C ∧ C ≤ 3) (hR : 1 ≤ R ∧ R ≤ 3) (hE : 1 ≤ E ∧ E ≤ 5) (hK : 1 ≤ K ∧ K ≤ 5) (hz : ∀ k, k < K → 1 ≤ z k ∧ z k ≤ 15) (hF : bh_FO G f C R E K z) (hM : bh_MO H 4 C R E K z) : ∃ (b : Int32) (H' : GM), f_X4_isAsSaid f G = some (b, G) ∧ f_X10_isAsSaid H = some (b, H') ∧ (b = 0 ∨ (b = 1 ∧ bh_VH C R E K z)) ∧ bh_F (fun a q => (a = 186 ∧ 26 ≤ q ∧ q ≤ 27) ∨ (199 ≤ a ∧ a ≤ 201)) H H' := by
  obtain ⟨⟨f0, f1, f2, f3⟩, ⟨f6, f7, f8⟩, -⟩ := id hF
  obtain ⟨m0, m1, m2, m3, m4⟩ := id hM
  have h45 : C * R * E ≤ 45 := Nat.mul_le_mul (Nat.mul_le_mul hC.2 hR.2) hE.2
  have hsm : bh_sm z K ≤ K * 15 := bh_sm_bd (fun i hi => (hz i hi).2)
  have hnp := rd_np_lt (z := z) hC.2 hR.2 hE.2 hK.2
  have e8 : gI G f 8 = nI (bh_np C R E K z) := f8.trans (congrArg nI (bh_np_sum hC.1))
  obtain ⟨H1, p1, p2, -, PF⟩ := bh_planOf (wi := (-1 : Int32)) hM (by omega) hC hR.2 hE.2 hK.2 (fun k hk => (hz k hk).2)
  have hs : ∃ (b : Int32) (H' : GM), f_X4_isAsSaid f G = some (b, G) ∧ (if nI K < (2 : Int32) then some ((0 : Int32), H) else if nI K < nI E then some (0, H) else if nI (bh_sm z K) = nI (C * R * E) then (if nI (bh_np C R E K z) ≤ 0 then some (0, H1) else some (1, H1)) else some (0, H)) = some (b, H') ∧ (b = 0 ∨ (b = 1 ∧ bh_VH C R E K z)) ∧ bh_F (fun a q => (a = 186 ∧ 26 ≤ q ∧ q ≤ 27) ∨ (199 ≤ a ∧ a ≤ 201)) H H' := by
    unfold f_X4_isAsSaid
    rw [f3, f2, f6, f0, f1, e8, pk_mul, pk_mul]
    by_cases c1 : K < 2
    · rw [if_pos (show nI K < (2 : Int32) from nI_lt (b := 2) c1 (by omega)), if_pos (show nI K < (2 : Int32) from nI_lt (b := 2) c1 (by omega))]
      exact ⟨0, H, rfl, rfl, Or.inl rfl, bh_Fr _ _⟩
    · rw [if_neg (show ¬ nI K < (2 : Int32) from nI_nlt (b := 2) (by omega) (by omega)), if_neg (show ¬ nI K < (2 : Int32) from nI_nlt (b := 2) (by omega) (by omega))]
      by_cases c2 : K < E
      · rw [if_pos (nI_lt c2 (by omega)), if_pos (nI_lt c2 (by omega))]
        exact ⟨0, H, rfl, rfl, Or.inl rfl, bh_Fr _ _⟩
      · rw [if_neg (nI_nlt (by omega) (by omega)), if_neg (nI_nlt (by omega) (by omega))]
        by_cases c3 : bh_sm z K = C * R * E
        · have c3' : nI (bh_sm z K) = nI (C * R * E) := congrArg nI c3
          rw [if_pos c3', if_pos c3']
          by_cases c4 : bh_np C R E K z = 0
          · have c4' : nI (bh_np C R E K z) ≤ (0 : Int32) := by rw [c4]; decide
            rw [if_pos c4', if_pos c4']
            exact ⟨0, H1, rfl, rfl, Or.inl rfl, PF⟩
          · have c4' : ¬ nI (bh_np C R E K z) ≤ (0 : Int32) := nI_ge (a := 0) (by omega) hnp
            rw [if_neg c4', if_neg c4']
            exact ⟨1, H1, rfl, rfl, Or.inr ⟨rfl, hC, hR, hE, ⟨by omega, hK.2⟩, by omega, hz, c3, by omega⟩, PF⟩
        · have c3' : ¬ nI (bh_sm z K) = nI (C * R * E) := by rw [nI_eq (by omega) (by omega)]; exact c3
          rw [if_neg c3', if_neg c3']
          exact ⟨0, H, rfl, rfl, Or.inl rfl, bh_Fr _ _⟩
  obtain ⟨b, H', r1, r2, r3, r4⟩ := hs
  refine ⟨b, H', r1, ?_, r3, r4⟩
  unfold f_X10_isAsSaid
  refine wl2_up (P := fun o => o = some (b, H')) (I := fun i y H2 => H2 = H ∧ y = nI (bh_sm z i)) (N := K) (by omega) ?_ (n := FU) (i := 0) (Nat.zero_le _) ⟨rfl, rfl⟩ (by unfold FU; omega)
  rintro kc i y H2 hi ⟨rfl, rfl⟩ hkc
  unfold lp_X10_isAsSaid_4
  rw [rd_of3, ob_s, show gI H2 193 35 = nI K from m3]
  by_cases hiK : i < K
  · rw [if_neg (nI_ge hiK (by omega)), show (20 : Int32) = nI 20 from rfl, nI_add, inb_n (by omega) (by omega), gd_t, nI_clamp (by omega), show gI H2 194 (20 + i) = nI (z i) from m4 i hiK, lt_r, nI_add, nI_1]
    exact hkc hiK _ _ ⟨rfl, rfl⟩
  · have hi2 : i = K := by omega
    subst hi2
    rw [if_pos (nI_le (by omega) (by omega)), rd_of3, ob_s, rd_of3, show gI H2 193 35 = nI i from m3, ob_s, rd_of2, show gI H2 193 34 = nI E from m2, ob_s]
    have hn2 : f_X10_numbersOf (4 : Int32) H2 = some (nI (C * R * E), H2) := bh_numOf (w := 4) hM (by omega)
    have hp2 : f_X10_planOf (4 : Int32) (-1 : Int32) H2 = some H1 := p1
    rw [hn2, ob_s, hp2, ov_s, p2]
    exact r2
def rd_QC (f a q : Nat) : Prop := rd_FB a q ∨ (a = f ∧ q = 3) ∨ a = f + 1
def rd_QM (a q : Nat) : Prop := rd_FN a q ∨ (a = 193 ∧ q = 35) ∨ (a = 194 ∧ 20 ≤ q ∧ q < 25)
/-- the class's columns, after a fault -/
theorem rdB_60 {f0 s : Int32} {n f : Nat} {G : GM} (h : rd_B f0 s n G) : k_X7_readColumns_60 f G = some G := by
  unfold k_X7_readColumns_60
  rw [h.1.1, if_neg h.1.2]
theorem rdB_24 {f0 s : Int32} {n f : Nat} {G : GM} (h : rd_B f0 s n G) (i : Int32) (kc : Int32 → GM → Option GM) : k_X7_readColumns_24 f i kc G = some G := by
  unfold k_X7_readColumns_24
  rw [h.1.1, if_neg h.1.2, rdB_60 h]
theorem rdB_7 {f0 s : Int32} {n f : Nat} {G : GM} (h : rd_B f0 s n G) (i : Int32) (kc : Int32 → GM → Option GM) : lp_X7_readColumns_7 f i G kc = some G := by
  unfold lp_X7_readColumns_7
  rw [rdB_60 h, rdB_24 h]
  by_cases c1 : (5 : Int32) ≤ i
  · rw [if_pos c1]
  · rw [if_neg c1]
    by_cases c2 : i = 0
    · rw [if_pos c2]
    · rw [if_neg c2]
      by_cases c3 : gI G 53 5 = 2
      · rw [if_pos c3]
      · rw [if_neg c3]
theorem rd_cols {n a f : Nat} (hf : f < 52) : ∀ (j : Nat) {i a0 p t : Nat} {z : Nat → Nat} {G H : GM} {fc fm : Nat}, i + j = 5 → a ≤ a0 → rd_G n a0 p t G H → (i = 0 ∨ t = 2) → gI G f 3 = nI i → gI H 193 35 = nI i → (∀ k, k < i → gI G (f + 1) k = nI (z k) ∧ gI H 194 (20 + k) = nI (z k) ∧ 1 ≤ z k ∧ z k ≤ 15) → j + 1 < fc → j + 1 < fm → ∃ G' H', wl1 fc (lp_X7_readColumns_7 f) (nI i) G = some G' ∧ wl1 fm lp_X10_first_64 (1 : Int32) H = k_X10_first_164 H' ∧ bh_F (rd_QC f) G G' ∧ bh_F rd_QM H H' ∧ (rd_X n G' H' ∨ ∃ (a' p' t' K : Nat) (z' : Nat → Nat), a ≤ a' ∧ rd_G n a' p' t' G' H' ∧ t' ≠ 2 ∧ (1 ≤ K ∧ K ≤ 5) ∧ gI G' f 3 = nI K ∧ gI H' 193 35 = nI K ∧ ∀ k, k < K → gI G' (f + 1) k = nI (z' k) ∧ gI H' 194 (20 + k) = nI (z' k) ∧ 1 ≤ z' k ∧ z' k ≤ 15)
  | 0, i, a0, p, t, z, G, H, fc, fm, hij, haa, hG, hit, c3, m3, hz, hfc, hfm => by
    obtain ⟨fc', rfl⟩ : ∃ f, fc = f + 1 := ⟨fc - 1, by omega⟩
    obtain ⟨fm', rfl⟩ : ∃ f, fm = f + 1 := ⟨fm - 1, by omega⟩
    have hi5 : i = 5 := by omega
    subst hi5
    have ht : t = 2 := by omega
    subst ht
    obtain ⟨hT, hC, c9, m12, c10, m13⟩ := id hG
    have c5 : gI G 53 5 = 2 := hC.1.2.2.2.2.1
    have m8 : gI H 186 8 = 2 := hC.1.2.2.2.2.2
    have um : ∀ kc, lp_X10_first_64 (1 : Int32) H kc = ob (f_X10_in ((gI H 186 10).toInt64) (1 : Int64) (15 : Int64) H) fun r94 G94 => if r94 = 0 then k_X10_first_105 kc G94 else ov (f_X10_fails (3 : Int32) G94) fun G102 => k_X10_first_105 kc G102 := fun kc => by
      unfold lp_X10_first_64
      rw [rd_good m12, ob_s, if_neg (by decide), if_neg (by decide), rd_of3, ob_s, m3, if_pos (show nI 5 = (5 : Int32) from rfl)]
    have uc : ∀ kc, lp_X7_readColumns_7 f (nI 5) G kc = ob (f_X7_isNumberOf (1 : Int32) (15 : Int32) G) fun r80 G80 => if r80 = 0 then k_X7_readColumns_91 f (2 : Int32) G80 else k_X7_readColumns_91 f (3 : Int32) G80 := fun kc => by
      unfold lp_X7_readColumns_7
      rw [if_pos (show (5 : Int32) ≤ nI 5 from by decide)]
      unfold k_X7_readColumns_60
      rw [c9, if_pos rfl, c5, if_pos rfl]
    have after : ∀ {G1 H1 : GM}, rd_X n G1 H1 → ∀ kc, k_X10_first_105 kc H1 = k_X10_first_164 H1 := fun {G1 H1} hX kc => by
      unfold k_X10_first_105
      rw [rdX_164 hX, rdX_num hX, ob_s]
      obtain ⟨f1, s1, hB, h1, -⟩ := hX
      rw [h1, if_neg hB.1.2]
    rcases rd_isN (lo := 1) (hi := 15) hG (by omega) (by omega) with ⟨-, v, h1, h2, h3, h3', h4, h5⟩ | ⟨-, h3, h4, h5⟩ | ⟨ht, -⟩
    · obtain ⟨G1, H1, e1, e2, hX, F1, F2⟩ := rd_fail hG (k := 3) (by decide)
      refine ⟨G1, H1, ?_, ?_, bh_Fm F1 (fun x q h => Or.inl h), bh_Fm F2 (fun x q h => Or.inl h), Or.inl hX⟩
      · show lp_X7_readColumns_7 f (nI 5) G _ = _
        unfold k_X7_readColumns_91 at uc
        rw [uc]
        rw [show f_X7_isNumberOf (1 : Int32) (15 : Int32) G = some (1, G) from h4, ob_s, if_neg (by decide), e1, ov_s]
      · show lp_X10_first_64 (1 : Int32) H _ = _
        rw [um]
        rw [show f_X10_in ((gI H 186 10).toInt64) (1 : Int64) (15 : Int64) H = some (1, H) from h5, ob_s, if_neg (by decide), e2, ov_s, after hX]
    · obtain ⟨G1, H1, e1, e2, hX, F1, F2⟩ := rd_fail hG (k := 2) (by decide)
      refine ⟨G1, H1, ?_, ?_, bh_Fm F1 (fun x q h => Or.inl h), bh_Fm F2 (fun x q h => Or.inl h), Or.inl hX⟩
      · show lp_X7_readColumns_7 f (nI 5) G _ = _
        unfold k_X7_readColumns_91 at uc
        rw [uc]
        rw [show f_X7_isNumberOf (1 : Int32) (15 : Int32) G = some (0, G) from h4, ob_s, if_pos rfl, e1, ov_s]
      · show lp_X10_first_64 (1 : Int32) H _ = _
        have h5' : f_X10_in ((gI H 186 10).toInt64) (1 : Int64) (15 : Int64) H = some (0, H) := h5
        have h6' : f_X10_in ((gI H 186 10).toInt64) ((1 : Int32).toInt64) ((15 : Int32).toInt64) H = some (0, H) := h5
        rw [um, h5', ob_s, if_pos rfl, rdX_164 hX]
        unfold k_X10_first_105 f_X10_number
        rw [m12, if_pos rfl, m8, if_pos rfl, h6', ob_s, if_pos rfl, e2, ov_s, ob_s]
        obtain ⟨f1, s1, hB, h1, -⟩ := hX
        rw [h1, if_neg hB.1.2]
    · exact absurd rfl ht
  | j + 1, i, a0, p, t, z, G, H, fc, fm, hij, haa, hG, hit, c3, m3, hz, hfc, hfm => by
    obtain ⟨fc', rfl⟩ : ∃ f, fc = f + 1 + 1 := ⟨fc - 2, by omega⟩
    obtain ⟨fm', rfl⟩ : ∃ f, fm = f + 1 + 1 := ⟨fm - 2, by omega⟩
    have hi5 : i < 5 := by omega
    obtain ⟨hT, hC, c9, m12, c10, m13⟩ := id hG
    have c5 := hC.1.2.2.2.2.1
    obtain ⟨x, G1, H1, hx1, hx2, e1, e2, hS, F1, F2⟩ := rd_takeN (lo := 1) (hi := 15) (a := a) (Or.inl ⟨a0, p, t, haa, hG⟩) (by omega) (by omega)
    have c3' : gI G1 f 3 = nI i := by rw [F1.1 _ _ (by unfold rd_FB; omega)]; exact c3
    have m3' : gI H1 193 35 = nI i := by rw [F2.1 _ _ (by unfold rd_FN; omega)]; exact m3
    have uc : ∀ kc, lp_X7_readColumns_7 f (nI i) G kc = kc (nI (i + 1)) (sI (sI G1 (f + 1) i (nI x)) f 3 (nI (i + 1))) := fun kc => by
      have h24 : k_X7_readColumns_24 f (nI i) kc G = kc (nI (i + 1)) (sI (sI G1 (f + 1) i (nI x)) f 3 (nI (i + 1))) := by
        unfold k_X7_readColumns_24
        rw [c9, if_pos rfl]
        rw [show f_X7_takeNumber (1 : Int32) (15 : Int32) G = some (nI x, G1) from e1, ob_s, inb_n hi5 (by omega), gd_t, nI_clamp (by omega), lt_r, gI_sIa (by omega), c3', nI_1, lt_r]
      unfold lp_X7_readColumns_7
      rw [if_neg (show ¬ (5 : Int32) ≤ nI i from nI_ge (b := 5) hi5 (by omega)), h24]
      by_cases h0 : nI i = 0
      · rw [if_pos h0]
      · rw [if_neg h0, c5]
        have ht : t = 2 := by
          rcases hit with rfl | h
          · exact absurd rfl h0
          · exact h
        subst ht
        rw [if_pos (show nI 2 = (2 : Int32) from rfl)]
    have um : ∀ kc, lp_X10_first_64 (1 : Int32) H kc = if gI H1 186 12 = 0 then (if gI (sI (sI H1 194 (20 + i) (nI x)) 193 35 (nI (i + 1))) 186 8 = (2 : Int32) then kc (1 : Int32) (sI (sI H1 194 (20 + i) (nI x)) 193 35 (nI (i + 1))) else kc (0 : Int32) (sI (sI H1 194 (20 + i) (nI x)) 193 35 (nI (i + 1)))) else some H1 := fun kc => by
      unfold lp_X10_first_64
      rw [rd_good m12, ob_s, if_neg (by decide), if_neg (by decide), rd_of3, ob_s, m3, if_neg (show ¬ nI i = (5 : Int32) from fun h => by have := (nI_eq (b := 5) (by omega) (by omega)).mp h; omega)]
      unfold k_X10_first_105 k_X10_first_160
      rw [show f_X10_number (1 : Int32) (15 : Int32) H = some (nI x, H1) from e2, ob_s]
      by_cases hg : gI H1 186 12 = 0
      · rw [if_pos hg, if_pos hg, rd_of3, ob_s, m3', show (20 : Int32) = nI 20 from rfl, nI_add, inb_n (by omega) (by omega), gd_t, nI_clamp (by omega), lt_r, show inb (35 : Int32) 48 = true from by decide, gd_t, gd_t, show (35 : Int32).toNatClampNeg = 35 from by decide, gI_sIa (by decide), m3', nI_1, lt_r]
      · rw [if_neg hg, if_neg hg]
    have FG : bh_F (rd_QC f) G (sI (sI G1 (f + 1) i (nI x)) f 3 (nI (i + 1))) := bh_FI (bh_FI (bh_Fm F1 (fun x q h => Or.inl h)) (Or.inr (Or.inr rfl))) (Or.inr (Or.inl ⟨rfl, rfl⟩))
    have FG1 : bh_F (fun a q => (a = f ∧ q = 3) ∨ a = f + 1) G1 (sI (sI G1 (f + 1) i (nI x)) f 3 (nI (i + 1))) := bh_FI (bh_FI (bh_Fr _ _) (Or.inr rfl)) (Or.inl ⟨rfl, rfl⟩)
    rcases hS with ⟨a1, p1, t1, ha1, hG1⟩ | hX
    · have FH1 : bh_F (fun a q => (a = 193 ∧ q = 35) ∨ (a = 194 ∧ 20 ≤ q ∧ q < 25)) H1 (sI (sI H1 194 (20 + i) (nI x)) 193 35 (nI (i + 1))) := bh_FI (bh_FI (bh_Fr _ _) (by omega)) (by omega)
      have FH : bh_F rd_QM H (sI (sI H1 194 (20 + i) (nI x)) 193 35 (nI (i + 1))) := bh_Ft (bh_Fm F2 (fun x q h => Or.inl h)) (bh_Fm FH1 (fun x q h => Or.inr h))
      have hG2 : rd_G n a1 p1 t1 (sI (sI G1 (f + 1) i (nI x)) f 3 (nI (i + 1))) (sI (sI H1 194 (20 + i) (nI x)) 193 35 (nI (i + 1))) := rd_G_F hG1 FG1 (fun x q h => by unfold rd_KC at h; omega) FH1 (fun x q h => by unfold rd_KM at h; omega)
      have hz' : ∀ k, k < i + 1 → gI (sI (sI G1 (f + 1) i (nI x)) f 3 (nI (i + 1))) (f + 1) k = nI (if k = i then x else z k) ∧ gI (sI (sI H1 194 (20 + i) (nI x)) 193 35 (nI (i + 1))) 194 (20 + k) = nI (if k = i then x else z k) ∧ 1 ≤ (if k = i then x else z k) ∧ (if k = i then x else z k) ≤ 15 := fun k hk => by
        rw [gI_sIa (show f + 1 ≠ f from by omega), gI_sIa (show (194 : Nat) ≠ 193 from by decide)]
        by_cases hki : k = i
        · subst hki
          rw [if_pos rfl, gI_sIs, gI_sIs]
          exact ⟨rfl, rfl, hx1, hx2⟩
        · rw [if_neg hki, gI_sIk hki, gI_sIk (show 20 + k ≠ 20 + i from by omega), F1.1 _ _ (by unfold rd_FB; omega), F2.1 _ _ (by unfold rd_FN; omega)]
          exact hz k (by omega)
      have g12 : gI H1 186 12 = 0 := hG1.2.2.2.1
      have g8 : gI (sI (sI H1 194 (20 + i) (nI x)) 193 35 (nI (i + 1))) 186 8 = nI t1 := hG2.2.1.1.2.2.2.2.2
      have b3 := hG2.2.1.2.1.2.2.1
      by_cases ht : t1 = 2
      · subst ht
        obtain ⟨G', H', r1, r2, r3, r4, r5⟩ := rd_cols (n := n) (a := a) hf j (i := i + 1) (z := fun k => if k = i then x else z k) (fc := fc' + 1) (fm := fm' + 1) (by omega) ha1 hG2 (Or.inr rfl) (gI_sIs _ _ _ _) (gI_sIs _ _ _ _) hz' (by omega) (by omega)
        refine ⟨G', H', ?_, ?_, bh_Ft FG r3, bh_Ft FH r4, r5⟩
        · show lp_X7_readColumns_7 f (nI i) G _ = _
          rw [uc]
          exact r1
        · show lp_X10_first_64 (1 : Int32) H _ = _
          rw [um, if_pos g12, g8, if_pos (show nI 2 = (2 : Int32) from rfl)]
          exact r2
      · have ht2 : ¬ nI t1 = (2 : Int32) := fun h => ht ((nI_eq (b := 2) (by omega) (by omega)).mp h)
        refine ⟨_, _, ?_, ?_, FG, FH, Or.inr ⟨a1, p1, t1, i + 1, fun k => if k = i then x else z k, ha1, hG2, ht, by omega, gI_sIs _ _ _ _, gI_sIs _ _ _ _, hz'⟩⟩
        · show lp_X7_readColumns_7 f (nI i) G _ = _
          rw [uc]
          show lp_X7_readColumns_7 f (nI (i + 1)) _ _ = _
          have g5 := hG2.2.1.1.2.2.2.2.1
          have h60 : k_X7_readColumns_60 f (sI (sI G1 (f + 1) i (nI x)) f 3 (nI (i + 1))) = some (sI (sI G1 (f + 1) i (nI x)) f 3 (nI (i + 1))) := by
            unfold k_X7_readColumns_60
            rw [hG2.2.2.1, if_pos rfl, g5, if_neg ht2]
          unfold lp_X7_readColumns_7
          rw [h60]
          by_cases h5 : (5 : Int32) ≤ nI (i + 1)
          · rw [if_pos h5]
          · rw [if_neg h5, if_neg (show ¬ nI (i + 1) = (0 : Int32) from fun h => by have := (nI_eq (b := 0) (by omega) (by omega)).mp h; omega), g5, if_neg ht2]
        · show lp_X10_first_64 (1 : Int32) H _ = _
          rw [um, if_pos g12, g8, if_neg ht2]
          show lp_X10_first_64 (0 : Int32) _ _ = _
          unfold lp_X10_first_64
          rw [rd_good hG2.2.2.2.1, ob_s, if_neg (by decide), if_pos rfl]
    · obtain ⟨f1, s1, hB, x1, x2⟩ := id hX
      have hB2 := rd_B_F hB FG1 (fun x q h => by omega)
      refine ⟨_, H1, ?_, ?_, FG, bh_Fm F2 (fun x q h => Or.inl h), Or.inl ⟨f1, s1, hB2, x1, x2⟩⟩
      · show lp_X7_readColumns_7 f (nI i) G _ = _
        rw [uc]
        show lp_X7_readColumns_7 f (nI (i + 1)) _ _ = _
        rw [rdB_7 hB2]
      · show lp_X10_first_64 (1 : Int32) H _ = _
        rw [um, if_neg (by rw [x1]; exact hB.1.2), rdX_164 hX]
