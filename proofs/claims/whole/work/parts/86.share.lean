/-! SHARED -/
section SR
variable {ln C R E K m pu bb : Nat} {z sv cl pr cl' : Nat → Nat}
/-- what all win -/
def bh_wA (C R E K m pu bb : Nat) (z sv cl pr : Nat → Nat) (k : Nat) : Nat := bh_sm (fun kind => bh_pN C R E K m pu bb z sv cl pr kind * bh_WC C R E K m z sv cl kind (bh_FT C R E K m z sv cl kind)) k
theorem bh_pN_le {kind : Nat} (hN : bh_HN ln C R E K m pu bb z sv cl pr) (hk : kind < 3) : bh_pN C R E K m pu bb z sv cl pr kind ≤ 19998 := by
  have h1 := hN.2.2.2.2.2.1 kind hk
  have h2 := hN.2.2.2.1
  have h3 := bh_ea_le (pr kind) (bh_WC C R E K m z sv cl kind (bh_FT C R E K m z sv cl kind))
  have h4 := bh_JP_le (C := C) (R := R) (E := E) (K := K) (m := m) (pu := pu) (bb := bb) (z := z) (sv := sv) (cl := cl) (turn := bh_FT C R E K m z sv cl 2)
  unfold bh_pN
  split <;> omega
theorem bh_wA_le (hN : bh_HN ln C R E K m pu bb z sv cl pr) : bh_wA C R E K m pu bb z sv cl pr 3 ≤ 1439856 := by
  have hb : ∀ kind, kind < 3 → bh_pN C R E K m pu bb z sv cl pr kind * bh_WC C R E K m z sv cl kind (bh_FT C R E K m z sv cl kind) ≤ 19998 * 24 := fun kind hk => Nat.mul_le_mul (bh_pN_le hN hk) (bh_WC_le hN.2.2.1 hN.2.1.1.2)
  have := bh_sm_bd (f := fun kind => bh_pN C R E K m pu bb z sv cl pr kind * bh_WC C R E K m z sv cl kind (bh_FT C R E K m z sv cl kind)) (m := 19998 * 24) (n := 3) (fun i hi => hb i hi)
  unfold bh_wA
  omega
theorem c_won {G : GM} {h : Nat} (hn : nw G = h) (hh : h = 1 ∨ h = 23) (hN : bh_HN ln C R E K m pu bb z sv cl pr) (hC : bh_HC G h ln C R E K m pu bb z sv cl pr) : ∃ G', f_X9_wonInAll G = some (lN (bh_wA C R E K m pu bb z sv cl pr 3), G') ∧ bh_F bh_W7 G G' := by
  unfold f_X9_wonInAll
  refine wl2_up (P := fun o => ∃ G', o = some (lN (bh_wA C R E K m pu bb z sv cl pr 3), G') ∧ bh_F bh_W7 G G') (I := fun k y G1 => y = lN (bh_wA C R E K m pu bb z sv cl pr k) ∧ bh_F bh_W7 G G1) (N := 3) (by omega) ?_ (n := FU) (i := 0) (Nat.zero_le _) ⟨rfl, bh_Fr _ _⟩ (by unfold FU; omega)
  rintro kc k _ G1 hk' ⟨rfl, F1⟩ hkc
  have hC1 := bh_scC hh hN hC (scrW7 F1)
  have n1 : nw G1 = h := F1.2.2.1.trans hn
  unfold lp_X9_wonInAll_4
  rw [show (3 : Int32) = nI 3 from rfl]
  by_cases hk : k < 3
  · obtain ⟨G2, e2, F2⟩ := c_fT0 n1 hh hN hC1 hk
    have F12 := bh_Ft F1 F2
    have n2 : nw G2 = h := F12.2.2.1.trans hn
    obtain ⟨G3, e3, F3⟩ := c_wP n2 hh hN (bh_scC hh hN hC (scrW7 F12)) hk
    have F13 := bh_Ft F12 F3
    have n3 : nw G3 = h := F13.2.2.1.trans hn
    obtain ⟨G4, e4, F4⟩ := c_wA0 (kind := k) (turn := bh_FT C R E K m z sv cl k) n3 hh hN (bh_scC hh hN hC (scrW7 F13)) hk
    have hp1 := bh_pN_le hN hk
    have hw24 := bh_WC_le (C := C) (R := R) (E := E) (K := K) (m := m) (z := z) (sv := sv) (cl := cl) (kind := k) (turn := bh_FT C R E K m z sv cl k) hN.2.2.1 hN.2.1.1.2
    rw [if_neg (nI_ge hk (by omega)), n1, e2, ob_s, e3, ob_s, n3, e4, ob_s, nI_l (by omega), nI_l (by omega), lN_mul, lN_add, lt_r, nI_1]
    exact hkc hk _ _ ⟨rfl, bh_Ft F13 F4⟩
  · have hk2 : k = 3 := by omega
    subst hk2
    rw [if_pos (nI_le (by omega) (by omega))]
    exact ⟨G1, rfl, F1⟩
theorem m_won {G : GM} (hN : bh_HN ln C R E K m pu bb z sv cl pr) (hM : bh_HM G 0 ln C R E K m pu bb z sv cl pr) : ∃ G', f_X10_winsInAll G = some (nI (bh_wA C R E K m pu bb z sv cl pr 3), G') ∧ bh_F bh_Wr G G' := by
  unfold f_X10_winsInAll
  refine wl2_up (P := fun o => ∃ G', o = some (nI (bh_wA C R E K m pu bb z sv cl pr 3), G') ∧ bh_F bh_Wr G G') (I := fun k y G1 => y = nI (bh_wA C R E K m pu bb z sv cl pr k) ∧ bh_F bh_Wr G G1) (N := 3) (by omega) ?_ (n := FU) (i := 0) (Nat.zero_le _) ⟨rfl, bh_Fr _ _⟩ (by unfold FU; omega)
  rintro kc k _ G1 hk' ⟨rfl, F1⟩ hkc
  have hM1 := bh_scM hN hM (scrWr F1)
  unfold lp_X10_winsInAll_4
  rw [show (3 : Int32) = nI 3 from rfl]
  by_cases hk : k < 3
  · obtain ⟨G4, e4, a1, a2, a3, hM4, a4, F4⟩ := m_rcW hN hM1 hk
    have hw24 := bh_WC_le (C := C) (R := R) (E := E) (K := K) (m := m) (z := z) (sv := sv) (cl := cl) (kind := k) (turn := bh_FT C R E K m z sv cl k) hN.2.2.1 hN.2.1.1.2
    have hpr := hN.2.2.2.2.2.1 k hk
    have es : bh_wA C R E K m pu bb z sv cl pr (k + 1) = bh_wA C R E K m pu bb z sv cl pr k + bh_pN C R E K m pu bb z sv cl pr k * bh_WC C R E K m z sv cl k (bh_FT C R E K m z sv cl k) := rfl
    rw [if_neg (nI_ge hk (by omega)), e4, ov_s, inb_n (by omega) (by omega), gd_t, nI_clamp (by omega), a4, m_eachOf a2 (by omega) (by omega), ob_s, a2]
    by_cases h2 : k = 2
    · subst h2
      rw [if_pos (show nI 2 = (2 : Int32) from rfl), m_jE hN hM4 rfl a1 a2, ob_s]
      unfold k_X10_winsInAll_43
      rw [nI_add, pk_mul, nI_add, lt_r, nI_1]
      refine hkc hk _ _ ⟨?_, bh_Ft F1 F4⟩
      rw [es]
      unfold bh_pN
      rw [if_pos rfl, Nat.mul_comm]
    · rw [if_neg (by rw [show (2 : Int32) = nI 2 from rfl, nI_eq (by omega) (by omega)]; exact h2)]
      unfold k_X10_winsInAll_43
      rw [Int32.add_zero, pk_mul, nI_add, lt_r, nI_1]
      refine hkc hk _ _ ⟨?_, bh_Ft F1 F4⟩
      rw [es]
      unfold bh_pN
      rw [if_neg h2, Nat.add_zero, Nat.mul_comm]
  · have hk2 : k = 3 := by omega
    subst hk2
    rw [if_pos (nI_le (by omega) (by omega))]
    exact ⟨G1, rfl, F1⟩
end SR
/-- one has paid what he may -/
def bh_pd (G : GM) (s i : Nat) : Prop := ¬ gJ G (64 + s) i < 0 ∧ 1 ≤ bh_sh G s i ∧ bh_sh G s i ≤ 9999
theorem bh_pd_iff {G : GM} {s i : Nat} : (1 : Int64) ≤ gJ G (64 + s) i ∧ gJ G (64 + s) i ≤ (9999 : Int64) ↔ bh_pd G s i := by
  unfold bh_pd
  constructor
  · rintro ⟨h1, h2⟩
    have h0 : ¬ gJ G (64 + s) i < 0 := by
      intro h
      rw [Int64.lt_iff_toInt_lt, show (0 : Int64).toInt = 0 from by decide] at h
      rw [Int64.le_iff_toInt_le, show (1 : Int64).toInt = 1 from by decide] at h1
      omega
    obtain ⟨e1, e2⟩ := bh_sh_lN h0
    rw [e1] at h1 h2
    exact ⟨h0, (pk_lLE (a := 1) (by omega) e2).mp h1, (pk_lLE (b := 9999) e2 (by omega)).mp h2⟩
  · rintro ⟨h0, h1, h2⟩
    obtain ⟨e1, e2⟩ := bh_sh_lN h0
    rw [e1]
    exact ⟨(pk_lLE (a := 1) (by omega) e2).mpr h1, (pk_lLE (b := 9999) e2 (by omega)).mpr h2⟩
theorem c_paid {G : GM} {s n : Nat} (hs : s < 4) (u1 : gI G 70 s = 1) (e68 : gI G 68 s = nI n) (hn6 : n ≤ 60) : ∃ v, f_X9_paidInAll (nI s) G = some (v, G) ∧ ((n ≤ 8 ∧ ∀ i, i < n → bh_pd G s i) → v = lN (bh_sm (bh_sh G s) n)) ∧ (¬ (n ≤ 8 ∧ ∀ i, i < n → bh_pd G s i) → v = 0) := by
  unfold f_X9_paidInAll
  rw [lengthOf_1 hs u1 e68, ob_s]
  by_cases h8 : n ≤ 8
  · rw [if_pos (show nI n ≤ (8 : Int32) from nI_le (b := 8) h8 (by omega))]
    refine wl2_up (P := fun o => ∃ v, o = some (v, G) ∧ ((n ≤ 8 ∧ ∀ i, i < n → bh_pd G s i) → v = lN (bh_sm (bh_sh G s) n)) ∧ (¬ (n ≤ 8 ∧ ∀ i, i < n → bh_pd G s i) → v = 0)) (I := fun i y G' => G' = G ∧ y = lN (bh_sm (bh_sh G s) i) ∧ ∀ j, j < i → bh_pd G s j) (N := n) (by omega) ?_ (n := FU) (i := 0) (Nat.zero_le _) ⟨rfl, rfl, fun j hj => absurd hj (Nat.not_lt_zero _)⟩ (by unfold FU; omega)
    rintro kc i _ G' hi' ⟨rfl, rfl, q⟩ hk
    unfold lp_X9_paidInAll_22
    by_cases hi : i < n
    · rw [if_neg (nI_ge hi (by omega)), valueAt_1 hs u1 e68 hn6 hi, ob_s]
      by_cases h1 : gJ G' (64 + s) i < 1
      · rw [if_pos ((lg_lt0 _ _).mpr h1)]
        exact ⟨0, rfl, fun h => absurd h1 (Int64.not_lt.mpr (bh_pd_iff.mpr (h.2 i hi)).1), fun _ => rfl⟩
      · rw [if_neg (fun h => h1 ((lg_lt0 _ _).mp h))]
        by_cases h2 : gJ G' (64 + s) i ≤ 9999
        · have hpd := bh_pd_iff.mp ⟨Int64.not_lt.mp h1, h2⟩
          rw [if_pos ((lg_le0 _ _).mpr h2), (bh_sh_lN hpd.1).1, lN_add, lt_r, nI_1]
          refine hk hi _ _ ⟨rfl, rfl, fun j hj => ?_⟩
          by_cases hji : j = i
          · subst hji; exact hpd
          · exact q j (by omega)
        · rw [if_neg (fun h => h2 ((lg_le0 _ _).mp h))]
          exact ⟨0, rfl, fun h => absurd (bh_pd_iff.mpr (h.2 i hi)).2 h2, fun _ => rfl⟩
    · have hi2 : i = n := by omega
      subst hi2
      rw [if_pos (nI_le (by omega) (by omega))]
      exact ⟨_, rfl, fun _ => rfl, fun h => absurd ⟨h8, q⟩ h⟩
  · rw [if_neg (by rw [show (8 : Int32) = nI 8 from rfl, nI_leI (by omega) (by omega)]; exact h8)]
    exact ⟨0, rfl, fun h => absurd h.1 h8, fun _ => rfl⟩
theorem bh_sm_lb {f : Nat → Nat} : ∀ {n : Nat}, (∀ i, i < n → 1 ≤ f i) → n ≤ bh_sm f n
  | 0, _ => Nat.zero_le _
  | n + 1, h => Nat.add_le_add (bh_sm_lb (n := n) fun i hi => h i (by omega)) (h n (by omega))
/-- a buyer's part, and those of all but the first -/
def bh_q (W P : Nat) (sh : Nat → Nat) (k : Nat) : Nat := W * sh k / P
def bh_qs (W P : Nat) (sh : Nat → Nat) (k : Nat) : Nat := bh_sm (fun j => if j = 0 then 0 else bh_q W P sh j) k
def bh_sA (W P : Nat) (sh : Nat → Nat) (n i : Nat) : Int32 := if i = 0 then nI W - nI (bh_qs W P sh n) else nI (bh_q W P sh i)
theorem bh_qs_0 {W P : Nat} {sh : Nat → Nat} : ∀ n, bh_sm (bh_q W P sh) (n + 1) = bh_q W P sh 0 + bh_qs W P sh (n + 1)
  | 0 => by
    unfold bh_qs
    simp [bh_sm]
  | n + 1 => by
    have ih := bh_qs_0 (W := W) (P := P) (sh := sh) n
    have e1 : bh_sm (bh_q W P sh) (n + 2) = bh_sm (bh_q W P sh) (n + 1) + bh_q W P sh (n + 1) := rfl
    have e2 : bh_qs W P sh (n + 2) = bh_qs W P sh (n + 1) + if n + 1 = 0 then 0 else bh_q W P sh (n + 1) := rfl
    rw [e1, e2, ih, if_neg (by omega)]; omega
theorem lN_i32 (W S q : Nat) : (lN q + (lN W - lN (q + S))).toInt32 = nI W - nI S := by
  rw [Int64.toInt32_add, Int64.toInt32_sub, lN_i, lN_i, lN_i, ← nI_add, Int32.sub_eq_add_neg (nI W), Int32.neg_add, Int32.sub_eq_add_neg, Int32.sub_eq_add_neg, ← Int32.add_assoc, ← Int32.add_assoc, Int32.add_comm (nI q), Int32.add_assoc (nI W), Int32.add_right_neg, Int32.add_zero]
theorem c_shareL {G : GM} {s n i W P : Nat} {sh : Nat → Nat} (hs : s < 4) (u1 : gI G 70 s = 1) (e68 : gI G 68 s = nI n) (hn6 : n ≤ 8) (hi : i < n) (hv : ∀ i, i < n → gJ G (64 + s) i = lN (sh i) ∧ 1 ≤ sh i ∧ sh i ≤ 9999) (hW : W ≤ 1439856) (hP : 1 ≤ P ∧ P ≤ 79992) : wl2 FU (lp_X9_share_81 (nI s) (nI i) (lN P) (lN W)) (lN W) (0 : Int32) G = some (bh_sA W P sh n i, G) := by
  have hmul : ∀ k, k < n → W * sh k ≤ 1439856 * 9999 := fun k hk => Nat.mul_le_mul hW (hv k hk).2.2
  have hne : ¬ lN P = 0 := fun h => absurd ((pk_lEQ (b := 0) (by omega) (by omega)).mp h) (by omega)
  have hdiv : ∀ k, k < n → lN W * lN (sh k) / lN P = lN (bh_q W P sh k) := fun k hk => by
    have := hmul k hk
    rw [lN_mul, pk_lDiv (by omega) (by omega) (by omega)]; rfl
  refine wl2_up (P := fun o => o = some (bh_sA W P sh n i, G)) (I := fun k y G' => G' = G ∧ y = lN W - lN (bh_sm (bh_q W P sh) k)) (N := n) (by omega) ?_ (n := FU) (i := 0) (Nat.zero_le _) ⟨rfl, (Int64.sub_zero _).symm⟩ (by unfold FU; omega)
  rintro kc k _ G' hk' ⟨rfl, rfl⟩ hkc
  unfold lp_X9_share_81
  rw [lengthOf_1 hs u1 e68, ob_s]
  by_cases hk : k < n
  · rw [if_neg (nI_ge hk (by omega)), valueAt_1 hs u1 e68 (by omega) hk, ob_s, gd_d hne, (hv k hk).1, hdiv k hk, lt_r, nI_1]
    refine hkc hk _ _ ⟨rfl, ?_⟩
    show lN W - lN (bh_sm (bh_q W P sh) k) - lN (bh_q W P sh k) = lN W - lN (bh_sm (bh_q W P sh) k + bh_q W P sh k)
    rw [← lN_add, Int64.sub_eq_add_neg, Int64.sub_eq_add_neg, Int64.sub_eq_add_neg, Int64.neg_add, Int64.sub_eq_add_neg, Int64.add_assoc]
  · have hk2 : k = n := by omega
    subst hk2
    rw [if_pos (nI_le (by omega) (by omega)), valueAt_1 hs u1 e68 (by omega) hi, ob_s, gd_d hne, (hv i hi).1, hdiv i hi, lt_r]
    unfold bh_sA
    by_cases h0 : i = 0
    · subst h0
      obtain ⟨k', rfl⟩ : ∃ k', k = k' + 1 := ⟨k - 1, by omega⟩
      rw [if_pos (show nI 0 = (0 : Int32) from rfl), if_pos rfl, bh_qs_0]
      unfold k_X9_share_150
      rw [lN_i32]
    · rw [if_neg (nI_ne0 (by omega) (by omega)), if_neg h0]
      unfold k_X9_share_150
      rw [lN_i]
theorem m_shareL {G : GM} {s n i W P : Nat} {sh : Nat → Nat} (hs : s < 4) (e188 : gI G 188 s = nI n) (hn6 : n ≤ 8) (hi : i < n) (hv : ∀ i, i < n → gJ G 189 (60 * s + i) = lN (sh i) ∧ 1 ≤ sh i ∧ sh i ≤ 9999) (hW : W ≤ 1439856) (hP : 1 ≤ P ∧ P ≤ 79992) : wl2 FU (lp_X10_share_134 (nI s) (nI i) (lN P) (nI W)) (0 : Int32) (0 : Int32) G = some (bh_sA W P sh n i, G) := by
  have hmul : ∀ k, k < n → W * sh k ≤ 1439856 * 9999 := fun k hk => Nat.mul_le_mul hW (hv k hk).2.2
  have hne : ¬ lN P = 0 := fun h => absurd ((pk_lEQ (b := 0) (by omega) (by omega)).mp h) (by omega)
  have hdiv : ∀ k, k < n → (nI W).toInt64 * lN (sh k) / lN P = lN (bh_q W P sh k) := fun k hk => by
    have := hmul k hk
    rw [nI_l (by omega), lN_mul, pk_lDiv (by omega) (by omega) (by omega)]; rfl
  refine wl2_up (P := fun o => o = some (bh_sA W P sh n i, G)) (I := fun k y G' => G' = G ∧ y = nI (bh_qs W P sh k) ∧ (i ≠ 0 → k ≤ i)) (N := n) (by omega) ?_ (n := FU) (i := 0) (Nat.zero_le _) ⟨rfl, rfl, fun _ => Nat.zero_le _⟩ (by unfold FU; omega)
  rintro kc k _ G' hk' ⟨rfl, rfl, hki⟩ hkc
  unfold lp_X10_share_134
  rw [inb_n hs (by omega), gd_t, nI_clamp (by omega), e188]
  by_cases hk : k < n
  · have es : bh_qs W P sh (k + 1) = bh_qs W P sh k + if k = 0 then 0 else bh_q W P sh k := rfl
    rw [if_neg (nI_ge hk (by omega)), show (60 : Int32) = nI 60 from rfl, pk_mul, nI_add, inb_n (by omega) (by omega), gd_t, gd_d hne, nI_clamp (by omega), (hv k hk).1, hdiv k hk, lN_i, lt_r]
    have next : (i ≠ 0 → k + 1 ≤ i) → k_X10_share_180 (nI s) (nI i) (lN P) (nI W) (nI (bh_qs W P sh k)) (nI k) (nI (bh_q W P sh k)) kc G' = some (bh_sA W P sh n i, G') := by
      intro hn
      unfold k_X10_share_180
      by_cases h0 : k = 0
      · subst h0
        rw [if_pos rfl] at es
        rw [if_pos (show nI 0 ≤ (0 : Int32) from by decide)]
        unfold k_X10_share_193
        rw [Int32.add_zero, lt_r, nI_1]
        exact hkc hk _ _ ⟨rfl, by rw [es]; rfl, hn⟩
      · rw [if_neg h0] at es
        rw [if_neg (nI_nle (by omega) (by omega))]
        unfold k_X10_share_193
        rw [nI_add, lt_r, nI_1]
        exact hkc hk _ _ ⟨rfl, by rw [es], hn⟩
    by_cases hik : k = i
    · rw [if_pos (by rw [hik])]
      by_cases h0 : i = 0
      · rw [if_pos (by rw [h0]; decide)]
        exact next (fun h => absurd h0 h)
      · rw [if_neg (nI_nle (by omega) (by omega)), hik]
        unfold bh_sA
        rw [if_neg h0]
    · rw [if_neg (by rw [nI_eq (by omega) (by omega)]; exact hik)]
      exact next (fun h => by have := hki h; omega)
  · have hk2 : k = n := by omega
    subst hk2
    rw [if_pos (nI_le (by omega) (by omega))]
    unfold bh_sA
    by_cases h0 : i = 0
    · rw [if_pos h0]
    · exact absurd (hki h0) (by omega)
theorem q_share (x1 x2 : Int32) : bh_Qy (f_X9_share x1 x2) (f_X10_share x1 x2) := by
  intro G hR
  have hh := bh_nwc hR
  have fT := bh_thr G
  rcases hR.2.2.2.2.1 with h0 | ⟨ln, C, R, E, K, m, pu, bb, z, sv, cl, pr, hN, hC, hM⟩
  · have h02 := bh_sc0 hh h0 fT
    exact bh_qy hR (v := (-2 : Int32)) (by unfold f_X9_share; rw [c_noHall rfl h0, ob_s, bh_i0]) (by unfold f_X10_share; rw [lt_r, m_whyN' _ h02, ob_s, if_neg (by decide)]) (bh_Fr _ _) (bh_thr G)
  have hM2 := bh_scM hN hM fT
  have hV := hN.2.1
  have h45 := bh_N45 hV
  have hbC := hV.1
  have hbR := hV.2.1
  have hbE := hV.2.2.1
  have hbK := hV.2.2.2.1
  have hbm := hN.2.2.1
  have hp := hN.2.2.2.2.2.2.2
  rcases bh_cls (x := x1) (p := fun j => j < 4) with ⟨s, hs, rfl⟩ | ns
  rotate_left
  · exact bh_qy hR (v := (-2 : Int32)) (by unfold f_X9_share; rw [c_isHall rfl hN hC, ob_s, bh_i1, isSlot_x (by exact ns), ob_s, bh_i0]) (by unfold f_X10_share; rw [lt_r, m_why0 ns, ob_s, if_neg (by decide)]) (bh_Fr _ _) (bh_thr G)
  rcases hR.1 s hs with ⟨u0, u1⟩ | ⟨u1, w, n, hw, hn, e187, e69, e68, e188, ev⟩
  · exact bh_qy hR (v := (-6 : Int32)) (by unfold f_X9_share; rw [c_isHall rfl hN hC, ob_s, bh_i1, isSlot_n hs, ob_s, bh_i1, hasRow_0 hs u0, ob_s, bh_i0]) (by unfold f_X10_share; rw [lt_r, m_why6 hN hM2 hs u1, ob_s, if_neg (by decide)]) (bh_Fr _ _) (bh_thr G)
  have st188 : ∀ G', bh_F bh_SCR G G' → gI G' 188 s = nI n := fun G' F => by rw [F.1 _ _ (by unfold bh_SCR; omega)]; exact e188
  have st189 : ∀ G', bh_F bh_SCR G G' → ∀ i, i < n → gJ G' 189 (60 * s + i) = gJ G (64 + s) i := fun G' F i hi => by rw [F.2.1 _ _ (by unfold bh_SCR; omega)]; exact (ev i hi).symm
  obtain ⟨v9, e9, a1, a0⟩ := c_paid hs u1 e68 hn
  have mw : ∀ (G1 : GM) (v : Int32) (G2 : GM), bh_F bh_SCR G G1 → (if n < 1 ∨ 8 < n then some ((-2 : Int32), sI G1 186 0 0) else wl2 FU (lp_X10_share_43 (nI s) x2) (0 : Int64) (0 : Int32) (sI G1 186 0 0)) = some (v, G2) → f_X10_share (nI s) x2 G1 = some (v, G2) := fun G1 v G2 F hv => by
    have FT := bh_Ft F (bh_thr G1)
    have hM1 := bh_scM hN hM FT
    unfold f_X10_share
    rw [lt_r, m_why1 hN hM1 hs hw (by rw [FT.1 _ _ (by unfold bh_SCR; omega)]; exact e187), ob_s, if_pos rfl, inb_n hs (by omega), gd_t, nI_clamp (by omega), st188 _ FT]
    by_cases hb : n < 1 ∨ 8 < n
    · rw [if_pos hb] at hv
      rw [m_in0 (l := 1) (b := 8) (by decide) (by decide) (fun j h1 h2 h3 he => by have := nI_inj (by omega) (by omega) he; omega), ob_s, if_pos rfl]
      exact hv
    · rw [if_neg hb] at hv
      rw [m_in1 (l := 1) (b := 8) (by omega) (by decide) (by decide) (by omega) (by omega), ob_s, if_neg (by decide)]
      exact hv
  by_cases hgood : n ≤ 8 ∧ ∀ i, i < n → bh_pd G s i
  rotate_left
  · have fT' := bh_Ft (bh_Fr bh_SCR G) (bh_thr G)
    refine bh_qy hR (v := (-2 : Int32)) (G1 := G) (G2 := sI G 186 0 0) (by unfold f_X9_share; rw [c_isHall rfl hN hC, ob_s, bh_i1, isSlot_n hs, ob_s, bh_i1, hasRow_1 hs u1, ob_s, bh_i1, e9, ob_s, a0 hgood, if_neg (by decide)]) (mw _ _ _ (bh_Fr _ _) ?_) (bh_Fr _ _) fT
    clear a1 a0
    by_cases hb : n < 1 ∨ 8 < n
    · rw [if_pos hb]
    · rw [if_neg hb]
      refine wl2_up (P := fun o => o = some ((-2 : Int32), sI G 186 0 0)) (I := fun i y G' => G' = sI G 186 0 0 ∧ ∀ j, j < i → bh_pd G s j) (N := n) (by omega) ?_ (n := FU) (i := 0) (Nat.zero_le _) ⟨rfl, fun j hj => absurd hj (Nat.not_lt_zero _)⟩ (by unfold FU; omega)
      rintro kc i _ G' hi' ⟨rfl, qq⟩ hk
      unfold lp_X10_share_43
      rw [inb_n hs (by omega), gd_t, nI_clamp (by omega), st188 _ fT']
      by_cases hi : i < n
      · rw [if_neg (nI_ge hi (by omega)), show (60 : Int32) = nI 60 from rfl, pk_mul, nI_add, inb_n (by omega) (by omega), gd_t, nI_clamp (by omega), st189 _ fT' i hi]
        by_cases hpd : bh_pd G s i
        · rw [in_t (bh_pd_iff.mpr hpd), ob_s, if_neg (by decide), gd_t, lt_r, nI_1]
          refine hk hi _ _ ⟨rfl, fun j hj => ?_⟩
          by_cases hji : j = i
          · subst hji; exact hpd
          · exact qq j (by omega)
        · rw [in_f (fun h => hpd (bh_pd_iff.mp h)), ob_s, if_pos rfl]
      · exact absurd ⟨by omega, fun j hj => qq j (by omega)⟩ hgood
  obtain ⟨h8, hall⟩ := hgood
  have a1 := a1 ⟨h8, hall⟩
  obtain ⟨sh, esh⟩ : ∃ sh, sh = bh_sh G s := ⟨_, rfl⟩
  have hv : ∀ i, i < n → gJ G (64 + s) i = lN (sh i) ∧ 1 ≤ sh i ∧ sh i ≤ 9999 := fun i hi => by
    rw [esh]; exact ⟨(bh_sh_lN (hall i hi).1).1, (hall i hi).2⟩
  rw [← esh] at a1
  have hP1 := bh_sm_lb (f := sh) (n := n) (fun i hi => (hv i hi).2.1)
  have hP2 := bh_sm_bd (f := sh) (m := 9999) (n := n) (fun i hi => (hv i hi).2.2)
  have hP3 : n * 9999 ≤ 8 * 9999 := Nat.mul_le_mul_right _ h8
  have hP3' : 9999 * n ≤ 9999 * 8 := Nat.mul_le_mul_left _ h8
  obtain ⟨P, eP⟩ : ∃ P, P = bh_sm sh n := ⟨_, rfl⟩
  rw [← eP] at a1 hP1 hP2
  have hP79 : P ≤ 79992 := by omega
  by_cases hn0 : n = 0
  · have hP0 : P = 0 := by rw [eP, hn0]; rfl
    have fT' := bh_Ft (bh_Fr bh_SCR G) (bh_thr G)
    exact bh_qy hR (v := (-2 : Int32)) (G1 := G) (G2 := sI G 186 0 0) (by unfold f_X9_share; rw [c_isHall rfl hN hC, ob_s, bh_i1, isSlot_n hs, ob_s, bh_i1, hasRow_1 hs u1, ob_s, bh_i1, e9, ob_s, a1, hP0, if_neg (by decide)]) (mw _ _ _ (bh_Fr _ _) (if_pos (by omega))) (bh_Fr _ _) fT
  have cw0 : ∀ (v : Int32) (G1 : GM), (if x2 < 0 then some ((-1 : Int32), G) else if x2 < nI n then (ob (f_X9_wonInAll G) fun r69 G69 => (wl2 FU (lp_X9_share_81 (nI s) x2 (lN P) r69) r69 (0 : Int32) G69)) else some ((-1 : Int32), G)) = some (v, G1) → f_X9_share (nI s) x2 G = some (v, G1) := fun v G1 hv => by
    unfold f_X9_share
    rw [c_isHall rfl hN hC, ob_s, bh_i1, isSlot_n hs, ob_s, bh_i1, hasRow_1 hs u1, ob_s, bh_i1, e9, ob_s, a1, if_pos ((lg_ge0 _ _).mpr (show (1 : Int64) ≤ lN P from (pk_lLE (a := 1) (by omega) (by omega)).mpr (by omega))), lengthOf_1 hs u1 e68, ob_s]
    exact hv
  have mw2 : ∀ (G1 : GM) (v : Int32) (G2 : GM), bh_F bh_SCR G G1 → (ob (f_X10_in x2.toInt64 0 (nI n - 1).toInt64 (sI G1 186 0 0)) fun r114 G114 => if r114 = 0 then some ((-1 : Int32), G114) else ob (f_X10_winsInAll G114) fun r123 G123 => wl2 FU (lp_X10_share_134 (nI s) x2 (lN P) r123) (0 : Int32) (0 : Int32) G123) = some (v, G2) → f_X10_share (nI s) x2 G1 = some (v, G2) := fun G1 v G2 F hv2 => by
    have FT := bh_Ft F (bh_thr G1)
    refine mw G1 v G2 F ?_
    rw [if_neg (by omega)]
    refine wl2_up (P := fun o => o = some (v, G2)) (I := fun i y G' => G' = sI G1 186 0 0 ∧ y = lN (bh_sm sh i)) (N := n) (by omega) ?_ (n := FU) (i := 0) (Nat.zero_le _) ⟨rfl, rfl⟩ (by unfold FU; omega)
    rintro kc i _ G' hi' ⟨rfl, rfl⟩ hk
    unfold lp_X10_share_43
    rw [inb_n hs (by omega), gd_t, nI_clamp (by omega), st188 _ FT]
    by_cases hi : i < n
    · rw [if_neg (nI_ge hi (by omega)), show (60 : Int32) = nI 60 from rfl, pk_mul, nI_add, inb_n (by omega) (by omega), gd_t, nI_clamp (by omega), st189 _ FT i hi, in_t (bh_pd_iff.mpr (hall i hi)), ob_s, if_neg (by decide), gd_t, st189 _ FT i hi, (hv i hi).1, lN_add, lt_r, nI_1]
      exact hk hi _ _ ⟨rfl, rfl⟩
    · have hi2 : i = n := by omega
      rw [if_pos (nI_le (by omega) (by omega)), gd_t, hi2, ← eP]
      exact hv2
  rcases bh_cls (x := x2) (p := fun j => j < n) with ⟨i, hi, rfl⟩ | ni
  rotate_left
  · exact bh_qy hR (v := (-1 : Int32)) (G1 := G) (G2 := sI G 186 0 0) (cw0 _ _ (pE0 (M := nI n) rfl (by omega) ni)) (mw2 _ _ _ (bh_Fr _ _) (by rw [m_in0 (l := 0) (b := (n : Int) - 1) (by decide) (m1_toInt (by omega)) (fun j _ _ h he => ni ⟨j, by omega, he⟩), ob_s, if_pos rfl])) (bh_Fr _ _) fT
  obtain ⟨G1, e1, F1⟩ := c_won rfl hh hN hC
  have F1' := scrW7 F1
  have hW := bh_wA_le hN
  have FT := bh_Ft F1' (bh_thr G1)
  have hM1 := bh_scM hN hM FT
  obtain ⟨G2, e2, F2⟩ := m_won hN hM1
  have FA := bh_Ft FT (scrWr F2)
  have u1' : gI G1 70 s = 1 := by rw [F1'.1 _ _ (by unfold bh_SCR; omega)]; exact u1
  have e68' : gI G1 68 s = nI n := by rw [F1'.1 _ _ (by unfold bh_SCR; omega)]; exact e68
  exact bh_qy hR (v := bh_sA (bh_wA C R E K m pu bb z sv cl pr 3) P sh n i) (G1 := G1) (G2 := G2) (cw0 _ _ (by rw [if_neg (nI_pos (by omega)), if_pos (nI_lt hi (by omega)), e1, ob_s]; exact c_shareL hs u1' e68' h8 hi (fun j hj => ⟨by rw [F1'.2.1 _ _ (by unfold bh_SCR; omega)]; exact (hv j hj).1, (hv j hj).2⟩) hW ⟨by omega, hP79⟩)) (mw2 _ _ _ F1' (by rw [m_in1 (l := 0) (b := (n : Int) - 1) (by omega) (by decide) (m1_toInt (by omega)) (by omega) (by omega), ob_s, if_neg (by decide), e2, ob_s]; exact m_shareL hs (st188 _ FA) h8 hi (fun j hj => ⟨by rw [st189 _ FA j hj]; exact (hv j hj).1, (hv j hj).2⟩) hW ⟨by omega, hP79⟩)) F1' (bh_Ft (bh_thr _) (scrWr F2))
