/-! READING: taking words and numbers -/
theorem rdB_n {f s : Int32} {n : Nat} {G : GM} (h : rd_B f s n G) : gI G 53 1 = nI n ∧ n ≤ 800 := ⟨h.2.2.1, h.2.2.2.1⟩
theorem rdB_word {f s : Int32} {n v : Nat} {G : GM} (h : rd_B f s n G) (hv : SLEN v ≤ 12) : ∃ G', f_X7_takeWord v G = some G' ∧ rd_B f s n G' ∧ bh_F rd_FB G G' := by
  obtain ⟨G', e, hB, F⟩ := rdB_tok h
  obtain ⟨b, eb, -⟩ := rd_isWT (v := v) h.2.2.1 h.2.2.2.1 hv
  refine ⟨G', ?_, hB, F⟩
  unfold f_X7_takeWord k_X7_takeWord_13
  rw [eb, ob_s]
  by_cases hb : b = 0
  · rw [if_pos hb, rdB_fail h, ov_s, e, ov_s]
  · rw [if_neg hb, e, ov_s]
theorem rdX_asks {n : Nat} {G H : GM} (h : rd_X n G H) (c : Int64) : f_X10_asks c H = some H := by
  have h2 := rdX_fails h 1
  obtain ⟨f, s, hB, h1, -⟩ := h
  unfold f_X10_asks f_X10_takes f_X10_is
  rw [h1, if_neg hB.1.2, ob_s, if_pos rfl, ob_s, if_pos rfl, h2, ov_s]
theorem rd_takeW {n a v : Nat} {c : Int64} {G H : GM} (h : rd_S n a G H) (hw : rd_wd v c) : ∃ G' H', f_X7_takeWord v G = some G' ∧ f_X10_asks c H = some H' ∧ rd_S n a G' H' ∧ bh_F rd_FB G G' ∧ bh_F rd_FN H H' := by
  rcases h with ⟨a', p, t, haa, hG⟩ | hX
  · obtain ⟨b, eb, em, hb⟩ := rd_isW hG hw
    rcases hb with rfl | ⟨rfl, -, -⟩
    · obtain ⟨G1, H1, e1, e2, hX, F1, F2⟩ := rd_fail hG (k := 1) (by decide)
      obtain ⟨f, s, hB, x1, x2⟩ := hX
      obtain ⟨G2, e3, hB2, F3⟩ := rdB_tok hB
      refine ⟨G2, H1, ?_, ?_, Or.inr ⟨f, s, hB2, x1, x2⟩, bh_Ft F1 F3, F2⟩
      · unfold f_X7_takeWord k_X7_takeWord_13
        rw [eb, ob_s, if_pos rfl, e1, ov_s, e3, ov_s]
      · unfold f_X10_asks f_X10_takes
        rw [em, ob_s, if_pos rfl, ob_s, if_pos rfl, e2, ov_s]
    · obtain ⟨G1, H1, a1, p1, t1, e1, e2, hG1, hap, F1, F2⟩ := rdG_tok hG
      refine ⟨G1, H1, ?_, ?_, Or.inl ⟨a1, p1, t1, by have := hG1.2.1.2.1.1; omega, hG1⟩, F1, F2⟩
      · unfold f_X7_takeWord k_X7_takeWord_13
        rw [eb, ob_s, if_neg (by decide), e1, ov_s]
      · unfold f_X10_asks f_X10_takes
        rw [em, ob_s, if_neg (by decide), e2, ov_s, ob_s, if_neg (by decide)]
  · obtain ⟨f, s, hB, x1, x2⟩ := id hX
    obtain ⟨G', e, hB', F⟩ := rdB_word (v := v) hB hw.1
    exact ⟨G', H, e, rdX_asks hX c, Or.inr ⟨f, s, hB', x1, x2⟩, F, bh_Fr _ _⟩
theorem rdB_num {f s : Int32} {n : Nat} {G : GM} (h : rd_B f s n G) (v1 v2 : Int32) : ∃ G', f_X7_takeNumber v1 v2 G = some (v1, G') ∧ rd_B f s n G' ∧ bh_F rd_FB G G' := by
  obtain ⟨G', e, hB, F⟩ := rdB_tok h
  refine ⟨G', ?_, hB, F⟩
  have h30 : k_X7_takeNumber_30 v1 v2 G = some (v1, G') := by
    unfold k_X7_takeNumber_30 k_X7_takeNumber_45
    rw [h.1.1, if_neg h.1.2, e, ov_s]
  have hI : ∃ b, f_X7_isNumberOf v1 v2 G = some (b, G) := by
    unfold f_X7_isNumberOf
    by_cases c1 : gI G 53 5 = 2
    · rw [if_pos c1]
      by_cases c2 : gI G 53 7 < v1
      · exact ⟨_, by rw [if_pos c2]⟩
      · rw [if_neg c2]
        by_cases c3 : v2 < gI G 53 7
        · exact ⟨_, by rw [if_pos c3]⟩
        · exact ⟨_, by rw [if_neg c3]⟩
    · exact ⟨_, by rw [if_neg c1]⟩
  unfold f_X7_takeNumber
  by_cases c1 : gI G 53 5 = 2
  · obtain ⟨b, eb⟩ := hI
    rw [if_pos c1, eb, ob_s]
    by_cases c2 : b = 0
    · rw [if_pos c2, rdB_fail h, ov_s, h30]
    · rw [if_neg c2, h30]
  · rw [if_neg c1, rdB_fail h, ov_s, h30]
theorem rdX_num {n : Nat} {G H : GM} (h : rd_X n G H) (v1 v2 : Int32) : f_X10_number v1 v2 H = some (v1, H) := by
  obtain ⟨f, s, hB, h1, -⟩ := h
  unfold f_X10_number
  rw [h1, if_neg hB.1.2]
/-- the number's token, before a fault -/
theorem rd_isN {n a p t lo hi : Nat} {G H : GM} (h : rd_G n a p t G H) (hh : hi < 1000000) (hl : lo ≤ hi) : (t = 2 ∧ ∃ v, lo ≤ v ∧ v ≤ hi ∧ gI G 53 7 = nI v ∧ gI H 186 10 = nI v ∧ f_X7_isNumberOf (nI lo) (nI hi) G = some (1, G) ∧ f_X10_in ((gI H 186 10).toInt64) ((nI lo).toInt64) ((nI hi).toInt64) H = some (1, H)) ∨ (t = 2 ∧ (∀ v, gI H 186 10 = nI v → v < 2 ^ 31 → ¬ (lo ≤ v ∧ v ≤ hi)) ∧ f_X7_isNumberOf (nI lo) (nI hi) G = some (0, G) ∧ f_X10_in ((gI H 186 10).toInt64) ((nI lo).toInt64) ((nI hi).toInt64) H = some (0, H)) ∨ (t ≠ 2 ∧ f_X7_isNumberOf (nI lo) (nI hi) G = some (0, G)) := by
  obtain ⟨hT, hC, c9, m12, c10, m13⟩ := h
  obtain ⟨⟨c4, m7, c6, m9, c5, m8⟩, ⟨b1, b2, b3, b4⟩, hV, hW⟩ := hC
  unfold f_X7_isNumberOf
  rw [c5]
  by_cases ht : t = 2
  · obtain ⟨v, v1, v2, v3⟩ := hV ht
    subst ht
    rw [if_pos (show nI 2 = (2 : Int32) from rfl), v3, v2]
    by_cases h1 : lo ≤ v ∧ v ≤ hi
    · refine Or.inl ⟨rfl, v, h1.1, h1.2, by rw [show min v 1000000 = v from by omega], rfl, ?_, ?_⟩
      · rw [show min v 1000000 = v from by omega, if_neg (nI_nlt h1.1 (by omega)), if_neg (nI_nlt h1.2 (by omega))]
      · exact in_n (l := lo) (h := hi) (by omega) (nI_64 (by omega)) (nI_64 (by omega)) h1.1 h1.2 H
    · refine Or.inr (Or.inl ⟨rfl, fun v' he hv' hc => h1 ?_, ?_, ?_⟩)
      · rw [nI_eq (by omega) hv'] at he
        omega
      · by_cases h2 : min v 1000000 < lo
        · rw [if_pos (nI_lt h2 (by omega))]
        · rw [if_neg (nI_nlt (by omega) (by omega)), if_pos (nI_lt (by omega) (by omega))]
      · exact in_nf (l := lo) (h := hi) (by omega) (nI_64 (by omega)) (nI_64 (by omega)) h1 H
  · rw [if_neg (show ¬ nI t = (2 : Int32) from fun h => ht ((nI_eq (b := 2) (by omega) (by omega)).mp h))]
    exact Or.inr (Or.inr ⟨ht, rfl⟩)
theorem rd_takeN {n a lo hi : Nat} {G H : GM} (h : rd_S n a G H) (hh : hi < 1000000) (hl : lo ≤ hi) : ∃ x G' H', lo ≤ x ∧ x ≤ hi ∧ f_X7_takeNumber (nI lo) (nI hi) G = some (nI x, G') ∧ f_X10_number (nI lo) (nI hi) H = some (nI x, H') ∧ rd_S n a G' H' ∧ bh_F rd_FB G G' ∧ bh_F rd_FN H H' := by
  rcases h with ⟨a', p, t, haa, hG⟩ | hX
  · obtain ⟨hT, hC, c9, m12, c10, m13⟩ := id hG
    have c5 := hC.1.2.2.2.2.1
    have m8 := hC.1.2.2.2.2.2
    have b3 := hC.2.1.2.2.1
    have bad : ∀ {k : Int32}, k ≠ 0 → ∃ G' H' G'', f_X7_fail k G = some G'' ∧ k_X7_takeNumber_30 (nI lo) (nI hi) G'' = some (nI lo, G') ∧ f_X10_fails k H = some H' ∧ rd_S n a G' H' ∧ bh_F rd_FB G G' ∧ bh_F rd_FN H H' := fun {k} hk => by
      obtain ⟨G1, H1, e1, e2, hX, F1, F2⟩ := rd_fail hG hk
      obtain ⟨f, s, hB, x1, x2⟩ := hX
      obtain ⟨G2, e3, hB2, F3⟩ := rdB_tok hB
      refine ⟨G2, H1, G1, e1, ?_, e2, Or.inr ⟨f, s, hB2, x1, x2⟩, bh_Ft F1 F3, F2⟩
      unfold k_X7_takeNumber_30 k_X7_takeNumber_45
      rw [hB.1.1, if_neg hB.1.2, e3, ov_s]
    unfold f_X7_takeNumber f_X10_number
    rw [m12, if_pos rfl, c5, m8]
    rcases rd_isN (lo := lo) (hi := hi) hG hh hl with ⟨rfl, v, h1, h2, h3, h3', h4, h5⟩ | ⟨rfl, -, h4, h5⟩ | ⟨ht, h4⟩
    · obtain ⟨G1, H1, a1, p1, t1, e1, e2, hG1, hap, F1, F2⟩ := rdG_tok hG
      refine ⟨v, G1, H1, h1, h2, ?_, ?_, Or.inl ⟨a1, p1, t1, by have := hG1.2.1.2.1.1; omega, hG1⟩, F1, F2⟩
      · rw [if_pos (show nI 2 = (2 : Int32) from rfl), h4, ob_s, if_neg (by decide)]
        unfold k_X7_takeNumber_30 k_X7_takeNumber_45
        rw [c9, if_pos rfl, e1, ov_s, h3]
      · rw [if_pos (show nI 2 = (2 : Int32) from rfl), h5, ob_s, if_neg (by decide), lt_r, e2, ov_s, h3']
    · obtain ⟨G', H', G'', e1, e2, e3, hS, F1, F2⟩ := bad (k := 2) (by decide)
      refine ⟨lo, G', H', by omega, hl, ?_, ?_, hS, F1, F2⟩
      · rw [if_pos (show nI 2 = (2 : Int32) from rfl), h4, ob_s, if_pos rfl, e1, ov_s, e2]
      · rw [if_pos (show nI 2 = (2 : Int32) from rfl), h5, ob_s, if_pos rfl, e3, ov_s]
    · obtain ⟨G', H', G'', e1, e2, e3, hS, F1, F2⟩ := bad (k := 1) (by decide)
      have ht' : ¬ nI t = (2 : Int32) := fun h => ht ((nI_eq (b := 2) (by omega) (by omega)).mp h)
      refine ⟨lo, G', H', by omega, hl, ?_, ?_, hS, F1, F2⟩
      · rw [if_neg ht', e1, ov_s, e2]
      · rw [if_neg ht', e3, ov_s]
  · obtain ⟨f, s, hB, x1, x2⟩ := id hX
    obtain ⟨G', e, hB', F⟩ := rdB_num hB (nI lo) (nI hi)
    exact ⟨lo, G', H, by omega, hl, e, rdX_num hX _ _, Or.inr ⟨f, s, hB', x1, x2⟩, F, bh_Fr _ _⟩
/-- frames of both carry the state of reading -/
theorem rd_C_F {W W' : Nat → Nat → Prop} {n a p t : Nat} {G H G' H' : GM} (h : rd_C n G H a p t) (hF : bh_F W G G') (hw : ∀ x q, (x = 53 ∧ 4 ≤ q ∧ q ≤ 7) → ¬ W x q) (hF' : bh_F W' H H') (hw' : ∀ x q, (x = 186 ∧ 7 ≤ q ∧ q ≤ 11) ∨ x = 191 → ¬ W' x q) : rd_C n G' H' a p t := by
  obtain ⟨⟨c4, m7, c6, m9, c5, m8⟩, hb, hV, hW⟩ := h
  have k : ∀ q, 4 ≤ q → q ≤ 7 → gI G' 53 q = gI G 53 q := fun q h1 h2 => hF.1 _ _ (hw _ _ ⟨rfl, h1, h2⟩)
  have k' : ∀ q, 7 ≤ q → q ≤ 11 → gI H' 186 q = gI H 186 q := fun q h1 h2 => hF'.1 _ _ (hw' _ _ (Or.inl ⟨rfl, h1, h2⟩))
  have hY : ∀ i, rd_Y H' i = rd_Y H i := fun i => rd_Y_F hF' (fun q => hw' _ _ (Or.inr rfl)) i
  refine ⟨⟨?_, ?_, ?_, ?_, ?_, ?_⟩, hb, fun ht => ?_, fun ht => ⟨fun j hj => by rw [hY]; exact (hW ht).1 j hj, ?_⟩⟩
  · rw [k _ (by omega) (by omega)]; exact c4
  · rw [k' _ (by omega) (by omega)]; exact m7
  · rw [k _ (by omega) (by omega)]; exact c6
  · rw [k' _ (by omega) (by omega)]; exact m9
  · rw [k _ (by omega) (by omega)]; exact c5
  · rw [k' _ (by omega) (by omega)]; exact m8
  · obtain ⟨v, v1, v2, v3⟩ := hV ht
    exact ⟨v, v1, by rw [k' _ (by omega) (by omega)]; exact v2, by rw [k _ (by omega) (by omega)]; exact v3⟩
  · rw [hF'.2.1 _ _ (hw' _ _ (Or.inl ⟨rfl, by omega, by omega⟩)), (hW ht).2]
    unfold rd_W
    simp only [hY]
def rd_KC (x q : Nat) : Prop := (x = 53 ∧ (q = 1 ∨ (4 ≤ q ∧ q ≤ 7) ∨ q = 9 ∨ q = 10)) ∨ x = 54
def rd_KM (x q : Nat) : Prop := (x = 186 ∧ 6 ≤ q ∧ q ≤ 13) ∨ x = 191
theorem rd_G_F {W W' : Nat → Nat → Prop} {n a p t : Nat} {G H G' H' : GM} (h : rd_G n a p t G H) (hF : bh_F W G G') (hw : ∀ x q, rd_KC x q → ¬ W x q) (hF' : bh_F W' H H') (hw' : ∀ x q, rd_KM x q → ¬ W' x q) : rd_G n a p t G' H' := by
  obtain ⟨hT, hC, c9, m12, c10, m13⟩ := h
  refine ⟨rd_T_F hT hF (fun x q h => hw _ _ (by unfold rd_KC; omega)) hF' (fun x q h => hw' _ _ (by unfold rd_KM; omega)), rd_C_F hC hF (fun x q h => hw _ _ (by unfold rd_KC; omega)) hF' (fun x q h => hw' _ _ (by unfold rd_KM; omega)), ?_, ?_, ?_, ?_⟩
  · rw [hF.1 _ _ (hw _ _ (by unfold rd_KC; omega))]; exact c9
  · rw [hF'.1 _ _ (hw' _ _ (by unfold rd_KM; omega))]; exact m12
  · rw [hF.1 _ _ (hw _ _ (by unfold rd_KC; omega))]; exact c10
  · rw [hF'.1 _ _ (hw' _ _ (by unfold rd_KM; omega))]; exact m13
theorem rd_X_F {W W' : Nat → Nat → Prop} {n : Nat} {G H G' H' : GM} (h : rd_X n G H) (hF : bh_F W G G') (hw : ∀ x q, rd_KC x q → ¬ W x q) (hF' : bh_F W' H H') (hw' : ∀ x q, rd_KM x q → ¬ W' x q) : rd_X n G' H' := by
  obtain ⟨f, s, hB, x1, x2⟩ := h
  refine ⟨f, s, rd_B_F hB hF (fun a q h => hw _ _ (by unfold rd_KC; omega)), ?_, ?_⟩
  · rw [hF'.1 _ _ (hw' _ _ (by unfold rd_KM; omega))]; exact x1
  · rw [hF'.1 _ _ (hw' _ _ (by unfold rd_KM; omega))]; exact x2
theorem rd_S_F {W W' : Nat → Nat → Prop} {n a : Nat} {G H G' H' : GM} (h : rd_S n a G H) (hF : bh_F W G G') (hw : ∀ x q, rd_KC x q → ¬ W x q) (hF' : bh_F W' H H') (hw' : ∀ x q, rd_KM x q → ¬ W' x q) : rd_S n a G' H' := by
  rcases h with ⟨a', p, t, haa, hG⟩ | hX
  · exact Or.inl ⟨a', p, t, haa, rd_G_F hG hF hw hF' hw'⟩
  · exact Or.inr (rd_X_F hX hF hw hF' hw')
