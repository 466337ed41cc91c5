/-! EVENINGS, SHARED -/
theorem bh_wl4_P {t0 t1 t2 t3 V : Type} {b : t0 → t1 → t2 → t3 → GM → (t0 → t1 → t2 → t3 → GM → Option V) → Option V} {P : Option V → Prop} {I : t0 → t1 → t2 → t3 → GM → Prop} {m : t3 → Nat} (hb : ∀ (kc : t0 → t1 → t2 → t3 → GM → Option V) (x : t0) (y : t1) (z : t2) (w : t3) (G : GM), I x y z w G → (∀ x' y' z' w' G', I x' y' z' w' G' → m w' < m w → P (kc x' y' z' w' G')) → P (b x y z w G kc)) : ∀ (n : Nat) (x : t0) (y : t1) (z : t2) (w : t3) (G : GM), I x y z w G → m w < n → P (wl4 n b x y z w G)
  | 0, _, _, _, _, _, _, h => absurd h (Nat.not_lt_zero _)
  | n + 1, x, y, z, w, G, hI, hm => hb _ x y z w G hI fun x' y' z' w' G' hI' hm' => bh_wl4_P hb n x' y' z' w' G' hI' (by omega)
theorem bh_wl4_up {V t u v : Type} {b : t → u → v → Int32 → GM → (t → u → v → Int32 → GM → Option V) → Option V} {P : Option V → Prop} (I : Nat → t → u → v → GM → Prop) (N : Nat) (hN : N < 2 ^ 31) (hb : ∀ (kc : t → u → v → Int32 → GM → Option V) (i : Nat) (x : t) (y : u) (z : v) (G : GM), i ≤ N → I i x y z G → (i < N → ∀ x' y' z' G', I (i + 1) x' y' z' G' → P (kc x' y' z' (nI (i + 1)) G')) → P (b x y z (nI i) G kc)) {n i : Nat} {x : t} {y : u} {z : v} {G : GM} (hi : i ≤ N) (hI : I i x y z G) (hn : N - i < n) : P (wl4 n b x y z (nI i) G) := by
  refine bh_wl4_P (P := P) (I := fun x y z w G => ∃ i, i ≤ N ∧ w = nI i ∧ I i x y z G) (m := fun w => N - w.toNatClampNeg) ?_ n x y z (nI i) G ⟨i, hi, rfl, hI⟩ (by show N - (nI i).toNatClampNeg < n; rw [nI_clamp (by omega)]; exact hn)
  rintro kc x y z _ G ⟨i, hi, rfl, hI⟩ hk
  refine hb kc i x y z G hi hI fun h x' y' z' G' hI' => hk x' y' z' _ G' ⟨i + 1, h, rfl, hI'⟩ ?_
  show N - (nI (i + 1)).toNatClampNeg < N - (nI i).toNatClampNeg
  rw [nI_clamp (by omega), nI_clamp (by omega)]
  omega
section EV
variable {ln C R E K m pu bb : Nat} {z sv cl pr cl' : Nat → Nat}
/-- an evening: how many calls it takes -/
def bh_tk (C R E K m : Nat) (z sv : Nat → Nat) (seed kind k : Nat) : Nat := if bh_FT C R E K m z sv (bh_mx0 (C * R * E) 1 (seed + k)) kind = -1 then C * R * E + 1 else (bh_FT C R E K m z sv (bh_mx0 (C * R * E) 1 (seed + k)) kind).toNatClampNeg
def bh_ew (C R E K m : Nat) (z sv : Nat → Nat) (seed kind k : Nat) : Nat := bh_WC C R E K m z sv (bh_mx0 (C * R * E) 1 (seed + k)) kind (bh_FT C R E K m z sv (bh_mx0 (C * R * E) 1 (seed + k)) kind)
def bh_fw (C R E K m : Nat) (z sv : Nat → Nat) (seed kind : Nat) : Nat → Nat
  | 0 => C * R * E + 1
  | k + 1 => min (bh_fw C R E K m z sv seed kind k) (bh_tk C R E K m z sv seed kind k)
def bh_e2w (C R E K m : Nat) (z sv : Nat → Nat) (seed kind k : Nat) : Nat := bh_sm (fun k => if bh_ew C R E K m z sv seed kind k ≤ 1 then 0 else 1) k
theorem bh_tk_is {seed kind k : Nat} (hV : bh_VH C R E K z) (hk : kind < 3) : (bh_FT C R E K m z sv (bh_mx0 (C * R * E) 1 (seed + k)) kind = -1 ∧ bh_tk C R E K m z sv seed kind k = C * R * E + 1) ∨ (bh_FT C R E K m z sv (bh_mx0 (C * R * E) 1 (seed + k)) kind = nI (bh_tk C R E K m z sv seed kind k) ∧ bh_tk C R E K m z sv seed kind k ≤ C * R * E) := by
  have h45 := bh_N45 hV
  rcases bh_FT_is (m := m) (sv := sv) hV (bh_mx0_prm (C * R * E) 1 (seed + k)) hk with ⟨h1, -⟩ | ⟨t, h1, h2, h3, -⟩
  · exact Or.inl ⟨h1, if_pos h1⟩
  · refine Or.inr ?_
    have e : bh_tk C R E K m z sv seed kind k = t := by
      unfold bh_tk
      rw [h3, if_neg (nIm1 (by omega)), nI_clamp (by omega)]
    rw [e]; exact ⟨h3, h2⟩
theorem bh_fw_le {seed kind : Nat} : ∀ k, bh_fw C R E K m z sv seed kind k ≤ C * R * E + 1
  | 0 => Nat.le_refl _
  | k + 1 => Nat.le_trans (Nat.min_le_left _ _) (bh_fw_le k)
def bh_eA (C R E K m : Nat) (z sv : Nat → Nat) (seed kind n w : Nat) : Int32 := if w = 0 then nI (bh_sm (bh_tk C R E K m z sv seed kind) n) else if w = 1 then nI (bh_fw C R E K m z sv seed kind n) else nI (bh_e2w C R E K m z sv seed kind n)
theorem c_evL {G : GM} {h seed n kind w : Nat} (hn : nw G = h) (hh : h = 1 ∨ h = 23) (hN : bh_HN ln C R E K m pu bb z sv cl pr) (hC : bh_HC G h ln C R E K m pu bb z sv cl pr) (hs : seed < 2000000001) (hn20 : n ≤ 20) (hk : kind < 3) (hw : w < 3) : ∃ G', wl4 FU (lp_X9_evenings_66 (nI seed) (nI n) (nI kind) (nI w)) (0 : Int32) (nI (C * R * E + 1)) (0 : Int32) (0 : Int32) G = some (bh_eA C R E K m z sv seed kind n w, G') ∧ bh_F bh_SCR G G' := by
  have hV := hN.2.1
  have h45 := bh_N45 hV
  have hbm := hN.2.2.1
  have l118 : LN 118 = 45 := by decide +kernel
  have l119 : LN 119 = 46 := by decide +kernel
  refine bh_wl4_up (P := fun o => ∃ G', o = some (bh_eA C R E K m z sv seed kind n w, G') ∧ bh_F bh_SCR G G') (I := fun i x y t G1 => x = nI (bh_sm (bh_tk C R E K m z sv seed kind) i) ∧ y = nI (bh_fw C R E K m z sv seed kind i) ∧ t = nI (bh_e2w C R E K m z sv seed kind i) ∧ bh_F bh_SCR G G1) (N := n) (by omega) ?_ (n := FU) (i := 0) (Nat.zero_le _) ⟨rfl, rfl, rfl, bh_Fr _ _⟩ (by unfold FU; omega)
  rintro kc i _ _ _ G1 hi' ⟨rfl, rfl, rfl, F1⟩ hkc
  have hC1 := bh_scC hh hN hC F1
  have n1 : nw G1 = h := F1.2.2.1.trans hn
  have e6 : gI G1 (h + 1) 6 = nI (C * R * E) := by rw [hC1.2.1.2.1.1, hV.2.2.2.2.2.2.1]
  unfold lp_X9_evenings_66
  by_cases hi : i < n
  · have hp' := bh_mx0_prm (C * R * E) 1 (seed + i)
    obtain ⟨G2, e2, a2, F2⟩ := c_mixCalls (G := G1) (d := 47) (f := h + 1) (v := 118) (X := seed + i) e6 h45 l118 (by omega) (by omega)
    have F2' : bh_F bh_SCR G1 G2 := bh_Fm F2 (fun a q hh => hh.elim (fun hh => scr_c (by omega)) (fun hh => scr_a (by omega)))
    have F12 := bh_Ft F1 F2'
    have n2 : nw G2 = h := F12.2.2.1.trans hn
    have hC2 := bh_scC hh hN hC F12
    have e6' : gI G2 (h + 1) 6 = nI (C * R * E) := by rw [hC2.2.1.2.1.1, hV.2.2.2.2.2.2.1]
    obtain ⟨G3, e3, a3, F3⟩ := c_note (G := G2) (v := 118) (t := 119) h45 l118 l119 (by omega) hp' a2
    have F13 := bh_Ft F12 (bh_Fm F3 (W' := bh_SCR) (fun a q hh => scr_c (by omega)))
    have hC3 := bh_scC hh hN hC F13
    have n3 : nw G3 = h := F13.2.2.1.trans hn
    have hCT : bh_CT G3 h 119 ln C R E K m pu bb z sv cl pr (bh_mx0 (C * R * E) 1 (seed + i)) := ⟨n3, hC3, bh_TA_of hp' a3⟩
    obtain ⟨G4, e4, F4⟩ := c_fT hh hN hCT hp' l119 (by omega) hk
    have hCT4 := bh_CT_F hh hbm (by omega) hCT F4
    have e6'' : gI G4 (h + 1) 6 = nI (C * R * E) := by rw [hCT4.2.1.2.1.2.1.1, hV.2.2.2.2.2.2.1]
    obtain ⟨G5, e5, F5⟩ := c_wA (turn := bh_FT C R E K m z sv (bh_mx0 (C * R * E) 1 (seed + i)) kind) hh hN hCT4 hp' l119 (by omega) hk
    have F15 := bh_Ft F13 (bh_Ft (scrW7 F4) (scrW7 F5))
    have hfl := bh_fw_le (C := C) (R := R) (E := E) (K := K) (m := m) (z := z) (sv := sv) (seed := seed) (kind := kind) i
    rw [if_neg (nI_ge hi (by omega)), n1, nI_add, e2, ov_s, n2, e6', e3, ov_s, e4, ob_s]
    have fin : bh_tk C R E K m z sv seed kind i ≤ 46 → ∃ G', k_X9_evenings_149 (nI seed) (nI n) (nI kind) (nI w) (nI (bh_sm (bh_tk C R E K m z sv seed kind) i)) (nI (bh_fw C R E K m z sv seed kind i)) (nI (bh_e2w C R E K m z sv seed kind i)) (nI i) (bh_FT C R E K m z sv (bh_mx0 (C * R * E) 1 (seed + i)) kind) (nI (bh_tk C R E K m z sv seed kind i)) kc G4 = some (bh_eA C R E K m z sv seed kind n w, G') ∧ bh_F bh_SCR G G' := by
      intro htk
      have hwle := bh_WC_le (C := C) (R := R) (E := E) (K := K) (m := m) (z := z) (sv := sv) (cl := bh_mx0 (C * R * E) 1 (seed + i)) (kind := kind) (turn := bh_FT C R E K m z sv (bh_mx0 (C * R * E) 1 (seed + i)) kind) hbm hV.1.2
      have ewd : bh_WC C R E K m z sv (bh_mx0 (C * R * E) 1 (seed + i)) kind (bh_FT C R E K m z sv (bh_mx0 (C * R * E) 1 (seed + i)) kind) = bh_ew C R E K m z sv seed kind i := rfl
      rw [ewd] at hwle
      have es : bh_e2w C R E K m z sv seed kind (i + 1) = bh_e2w C R E K m z sv seed kind i + if bh_ew C R E K m z sv seed kind i ≤ 1 then 0 else 1 := rfl
      unfold k_X9_evenings_149
      rw [nI_add, lt_r, jmin_n (by omega) (by omega), lt_r, e5, ob_s, ewd]
      by_cases hw1 : bh_ew C R E K m z sv seed kind i ≤ 1
      · rw [if_pos hw1] at es
        rw [if_pos (show _ ≤ (1 : Int32) from nI_le (b := 1) hw1 (by omega)), nI_1]
        exact hkc hi _ _ _ _ ⟨rfl, rfl, by rw [es]; rfl, F15⟩
      · rw [if_neg hw1] at es
        rw [if_neg (by rw [show (1 : Int32) = nI 1 from rfl, nI_leI (by omega) (by omega)]; exact hw1), nI_1, nI_1]
        exact hkc hi _ _ _ _ ⟨rfl, rfl, by rw [es], F15⟩
    rcases bh_tk_is (m := m) (sv := sv) (seed := seed) (k := i) hV hk with ⟨h1, h2⟩ | ⟨h1, h2⟩
    · rw [if_pos h1, hCT4.1, e6'', nI_1, ← h2]
      exact fin (by omega)
    · have hne : ¬ bh_FT C R E K m z sv (bh_mx0 (C * R * E) 1 (seed + i)) kind = -1 := by rw [h1]; exact nIm1 (by omega)
      rw [if_neg hne]
      have := fin (by omega)
      rw [← h1] at this
      exact this
  · have hi2 : i = n := by omega
    subst hi2
    rw [if_pos (nI_le (by omega) (by omega))]
    refine ⟨G1, ?_, F1⟩
    unfold bh_eA
    by_cases h0 : w = 0
    · rw [if_pos (by rw [h0]; rfl), if_pos h0]
    · rw [if_neg (nI_ne0 (by omega) (by omega)), if_neg h0]
      by_cases h1 : w = 1
      · rw [if_pos (by rw [h1]; rfl), if_pos h1]
      · rw [if_neg (by rw [show (1 : Int32) = nI 1 from rfl, nI_eq (by omega) (by omega)]; exact h1), if_neg h1]
theorem m_evL {G : GM} {seed n kind w : Nat} (hN : bh_HN ln C R E K m pu bb z sv cl pr) (hM : bh_HM G 0 ln C R E K m pu bb z sv cl pr) (hM5 : bh_HM G 5 ln C R E K m pu bb z sv cl pr) (hs : seed < 2000000001) (hn1 : 1 ≤ n) (hn20 : n ≤ 20) (hk : kind < 3) (hw : w < 3) : ∃ G', wl4 FU (lp_X10_evenings_77 (nI seed) (nI n) (nI kind) (nI w)) (0 : Int32) (-1 : Int32) (0 : Int32) (0 : Int32) G = some (bh_eA C R E K m z sv seed kind n w, G') ∧ bh_F bh_SCR G G' := by
  have hV := hN.2.1
  have h45 := bh_N45 hV
  have hbK := hV.2.2.2.1
  have hbm := hN.2.2.1
  refine bh_wl4_up (P := fun o => ∃ G', o = some (bh_eA C R E K m z sv seed kind n w, G') ∧ bh_F bh_SCR G G') (I := fun i x y t G1 => x = nI (bh_sm (bh_tk C R E K m z sv seed kind) i) ∧ y = (if i = 0 then -1 else nI (bh_fw C R E K m z sv seed kind i)) ∧ t = nI (bh_e2w C R E K m z sv seed kind i) ∧ bh_MO G1 5 C R E K z ∧ bh_F bh_SCR G G1) (N := n) (by omega) ?_ (n := FU) (i := 0) (Nat.zero_le _) ⟨rfl, by rw [if_pos rfl], rfl, hM5.2.1, bh_Fr _ _⟩ (by unfold FU; omega)
  rintro kc i _ _ _ G1 hi' ⟨rfl, rfl, rfl, hMO, F1⟩ hkc
  have hM1 := bh_scM hN hM F1
  unfold lp_X10_evenings_77
  by_cases hi : i < n
  · have hp' := bh_mx0_prm (C * R * E) 1 (seed + i)
    obtain ⟨G2, e2, a2, F2⟩ := m_callsBy (G := G1) (w := 5) (N := C * R * E) (X := seed + i) (by omega) h45 (by omega) (fun G' F => bh_numOf (bh_MO_F hMO F (fun q _ _ h => by omega) (fun q _ _ h => by omega) hbK.2) (by omega))
    have F2' : bh_F bh_SCR G1 G2 := bh_Fm F2 (fun a q h => by
      rcases h with h | h | h
      · exact scr_d (by omega)
      · exact scr_e (by omega)
      · unfold bh_SCR; omega)
    have F12 := bh_Ft F1 F2'
    have hM2 := bh_scM hN hM F12
    have hMO2 := bh_MO_F hMO F2 (fun q _ _ h => by omega) (fun q _ _ h => by omega) hbK.2
    obtain ⟨G3, e3, r1, r2, -, F3⟩ := m_rc (w := 5) (cl' := bh_mx0 (C * R * E) 1 (seed + i)) hN ⟨hM2, hM2.2.1, a2⟩ hp' (by omega) hk
    have F13 := bh_Ft F12 (scrWr F3)
    have hM3 := bh_scM hN hM F13
    have hMO3 := bh_MO_F hMO2 F3 (fun q _ _ h => by unfold bh_Wr at h; omega) (fun q _ _ h => by unfold bh_Wr at h; omega) hbK.2
    rw [if_neg (nI_ge hi (by omega)), nI_l (by omega), nI_l (by omega), lN_add, show f_X10_callsBy (5 : Int32) (lN (seed + i)) G1 = _ from e2, ov_s, show f_X10_races (5 : Int32) (nI kind) G2 = _ from e3, ov_s, r1]
    have fin : bh_tk C R E K m z sv seed kind i ≤ C * R * E + 1 → ∃ G', k_X10_evenings_121 (nI seed) (nI n) (nI kind) (nI w) (nI (bh_sm (bh_tk C R E K m z sv seed kind) i)) (if i = 0 then -1 else nI (bh_fw C R E K m z sv seed kind i)) (nI (bh_e2w C R E K m z sv seed kind i)) (nI i) (nI (bh_tk C R E K m z sv seed kind i)) kc G3 = some (bh_eA C R E K m z sv seed kind n w, G') ∧ bh_F bh_SCR G G' := by
      intro htk
      have hwle := bh_WC_le (C := C) (R := R) (E := E) (K := K) (m := m) (z := z) (sv := sv) (cl := bh_mx0 (C * R * E) 1 (seed + i)) (kind := kind) (turn := bh_FT C R E K m z sv (bh_mx0 (C * R * E) 1 (seed + i)) kind) hbm hV.1.2
      have ewd : bh_WC C R E K m z sv (bh_mx0 (C * R * E) 1 (seed + i)) kind (bh_FT C R E K m z sv (bh_mx0 (C * R * E) 1 (seed + i)) kind) = bh_ew C R E K m z sv seed kind i := rfl
      rw [ewd] at hwle
      have es : bh_e2w C R E K m z sv seed kind (i + 1) = bh_e2w C R E K m z sv seed kind i + if bh_ew C R E K m z sv seed kind i ≤ 1 then 0 else 1 := rfl
      have last : ∀ f, f = bh_fw C R E K m z sv seed kind (i + 1) → ∃ G', k_X10_evenings_150 (nI seed) (nI n) (nI kind) (nI w) (nI (bh_sm (bh_tk C R E K m z sv seed kind) i + bh_tk C R E K m z sv seed kind i)) (nI (bh_e2w C R E K m z sv seed kind i)) (nI i) (nI f) kc G3 = some (bh_eA C R E K m z sv seed kind n w, G') ∧ bh_F bh_SCR G G' := by
        intro f hf
        unfold k_X10_evenings_150
        rw [r2, ewd]
        by_cases hw1 : bh_ew C R E K m z sv seed kind i ≤ 1
        · rw [if_pos hw1] at es
          rw [if_pos (show _ ≤ (1 : Int32) from nI_le (b := 1) hw1 (by omega))]
          unfold k_X10_evenings_167
          rw [Int32.add_zero, lt_r, nI_1]
          exact hkc hi _ _ _ _ ⟨rfl, by rw [if_neg (by omega), hf], by rw [es]; rfl, hMO3, F13⟩
        · rw [if_neg hw1] at es
          rw [if_neg (by rw [show (1 : Int32) = nI 1 from rfl, nI_leI (by omega) (by omega)]; exact hw1)]
          unfold k_X10_evenings_167
          rw [nI_1, lt_r, nI_1]
          exact hkc hi _ _ _ _ ⟨rfl, by rw [if_neg (by omega), hf], by rw [es], hMO3, F13⟩
      have hfl := bh_fw_le (C := C) (R := R) (E := E) (K := K) (m := m) (z := z) (sv := sv) (seed := seed) (kind := kind) i
      have ef : bh_fw C R E K m z sv seed kind (i + 1) = min (bh_fw C R E K m z sv seed kind i) (bh_tk C R E K m z sv seed kind i) := rfl
      unfold k_X10_evenings_121
      rw [nI_add, lt_r]
      by_cases h0 : i = 0
      · have ef0 : bh_fw C R E K m z sv seed kind i = C * R * E + 1 := by rw [h0]; rfl
        rw [if_pos h0, if_pos rfl]
        unfold k_X10_evenings_143
        exact last _ (by omega)
      · rw [if_neg h0, if_neg (nIm1 (by omega))]
        by_cases hle : bh_fw C R E K m z sv seed kind i ≤ bh_tk C R E K m z sv seed kind i
        · rw [if_pos (nI_le hle (by omega))]
          exact last _ (by omega)
        · rw [if_neg (by rw [nI_leI (by omega) (by omega)]; exact hle)]
          unfold k_X10_evenings_143
          exact last _ (by omega)
    rcases bh_tk_is (m := m) (sv := sv) (seed := seed) (k := i) hV hk with ⟨h1, h2⟩ | ⟨h1, h2⟩
    · rw [if_pos h1, m_all hN hM3, ob_s, nI_1, ← h2]
      exact fin (by omega)
    · have hne : ¬ bh_FT C R E K m z sv (bh_mx0 (C * R * E) 1 (seed + i)) kind = -1 := by rw [h1]; exact nIm1 (by omega)
      rw [if_neg hne, h1]
      exact fin (by omega)
  · have hi2 : i = n := by omega
    subst hi2
    rw [if_pos (nI_le (by omega) (by omega))]
    refine ⟨G1, ?_, F1⟩
    unfold bh_eA
    by_cases h0 : w = 0
    · rw [if_pos (by rw [h0]; rfl), if_pos h0]
    · rw [if_neg (nI_ne0 (by omega) (by omega)), if_neg h0]
      by_cases h1 : w = 1
      · rw [if_pos (by rw [h1]; rfl), if_pos h1, if_neg (by omega)]
      · rw [if_neg (by rw [show (1 : Int32) = nI 1 from rfl, nI_eq (by omega) (by omega)]; exact h1), if_neg h1]
end EV
theorem q_evenings (x1 x2 x3 x4 : Int32) : bh_Qy (f_X9_evenings x1 x2 x3 x4) (f_X10_evenings x1 x2 x3 x4) := by
  intro G hR
  have hh := bh_nwc hR
  have fT := bh_thr G
  rcases hR.2.2.2.2.1 with h0 | ⟨ln, C, R, E, K, m, pu, bb, z, sv, cl, pr, hN, hC, hM⟩
  · have h02 := bh_sc0 hh h0 fT
    exact bh_qy hR (v := (-2 : Int32)) (by unfold f_X9_evenings; rw [c_isKindN rfl h0 _, ob_s, bh_i0]) (by unfold f_X10_evenings; rw [lt_r, m_noHall h02, ob_s, bh_i0]) (bh_Fr _ _) (bh_thr G)
  have hM2 := bh_scM hN hM fT
  have hV := hN.2.1
  have h45 := bh_N45 hV
  have hbC := hV.1
  have hbR := hV.2.1
  have hbE := hV.2.2.1
  have hbK := hV.2.2.2.1
  have hbm := hN.2.2.1
  have hp := hN.2.2.2.2.2.2.2
  by_cases hgood : (∃ j, j < 3 ∧ x3 = nI j) ∧ (∃ j, j < 2000000001 ∧ x1 = nI j) ∧ (∃ j, (1 ≤ j ∧ j < 21) ∧ x2 = nI j) ∧ (∃ j, j < 3 ∧ x4 = nI j)
  rotate_left
  · have cb : f_X9_evenings x1 x2 x3 x4 G = some (-2, G) := by
      unfold f_X9_evenings
      rcases bh_cls (x := x3) (p := fun j => j < 3) with ⟨kd, hkd, rfl⟩ | nkd
      rotate_left
      · rw [c_isKind0 rfl hN hC nkd, ob_s, bh_i0]
      rw [c_isKind1 rfl hN hC hkd, ob_s, bh_i1]
      rcases bh_cls (x := x1) (p := fun j => j < 2000000001) with ⟨s, hs, rfl⟩ | ns
      rotate_left
      · rw [show (2000000000 : Int32) = nI 2000000000 from rfl, pB0 (n := 2000000000) (by omega) ns]
      rw [show (2000000000 : Int32) = nI 2000000000 from rfl, pB1 (n := 2000000000) hs (by omega)]
      rcases bh_cls (x := x2) (p := fun j => 1 ≤ j ∧ j < 21) with ⟨n, hn, rfl⟩ | nn
      rotate_left
      · rw [show (20 : Int32) = nI 20 from rfl, pC0 (n := 20) (by omega) (fun ⟨j, a, b, c⟩ => nn ⟨j, ⟨a, b⟩, c⟩)]
      rw [show (20 : Int32) = nI 20 from rfl, pC1 (n := 20) hn.1 hn.2 (by omega)]
      rcases bh_cls (x := x4) (p := fun j => j < 3) with ⟨w, hw, rfl⟩ | nw2
      rotate_left
      · rw [pD0 (M := 2) (n := 2) rfl (by omega) nw2]
      exact absurd ⟨⟨kd, hkd, rfl⟩, ⟨s, hs, rfl⟩, ⟨n, hn, rfl⟩, ⟨w, hw, rfl⟩⟩ hgood
    have mb : f_X10_evenings x1 x2 x3 x4 G = some (-2, sI G 186 0 0) := by
      unfold f_X10_evenings
      rw [lt_r, m_isHall hN hM2, ob_s, bh_i1]
      rcases bh_cls (x := x1) (p := fun j => j < 2000000001) with ⟨s, hs, rfl⟩ | ns
      rotate_left
      · rw [m_in0 (l := 0) (b := 2000000000) (by decide) (by decide) (fun j _ h1 h he => ns ⟨j, by clear ns hgood; omega, he⟩), ob_s, bh_i0]
      rw [m_in1 (l := 0) (b := 2000000000) (by omega) (by decide) (by decide) (by omega) (by clear hgood; omega), ob_s, bh_i1]
      rcases bh_cls (x := x2) (p := fun j => 1 ≤ j ∧ j < 21) with ⟨n, hn, rfl⟩ | nn
      rotate_left
      · rw [m_in0 (l := 1) (b := 20) (by decide) (by decide) (fun j _ h1 h he => nn ⟨j, by clear nn hgood; omega, he⟩), ob_s, bh_i0]
      rw [m_in1 (l := 1) (b := 20) (by omega) (by decide) (by decide) (by omega) (by clear hgood; omega), ob_s, bh_i1]
      rcases bh_cls (x := x3) (p := fun j => j < 3) with ⟨kd, hkd, rfl⟩ | nkd
      rotate_left
      · rw [m_isKind0 nkd, ob_s, bh_i0]
      rw [m_isKind1 hkd, ob_s, bh_i1]
      rcases bh_cls (x := x4) (p := fun j => j < 3) with ⟨w, hw, rfl⟩ | nw2
      rotate_left
      · rw [m_in0 (l := 0) (b := 2) (by decide) (by decide) (fun j _ h1 h he => nw2 ⟨j, by clear nw2 hgood; omega, he⟩), ob_s, bh_i0]
      exact absurd ⟨⟨kd, hkd, rfl⟩, ⟨s, hs, rfl⟩, ⟨n, hn, rfl⟩, ⟨w, hw, rfl⟩⟩ hgood
    exact bh_qy hR cb mb (bh_Fr _ _) fT
  obtain ⟨⟨kd, hkd, rfl⟩, ⟨s, hs, rfl⟩, ⟨n, hn, rfl⟩, ⟨w, hw, rfl⟩⟩ := hgood
  obtain ⟨G1, e1, F1⟩ := c_evL (seed := s) (n := n) rfl hh hN hC hs (by omega) hkd hw
  have e6 : gI G (nw G + 1) 6 = nI (C * R * E) := by rw [hC.2.1.2.1.1, hV.2.2.2.2.2.2.1]
  have hM2 := bh_scM hN hM (bh_Ft F1 (bh_thr _))
  obtain ⟨G2, e2, c2, F2⟩ := m_copyHall (G := sI G1 186 0 0) (a := 0) (b := 5) (by omega) (by omega) (by omega)
  have F2' : bh_F bh_SCR (sI G1 186 0 0) G2 := bh_Fm F2 (fun a q h => by unfold bh_PM at h; unfold bh_SCR; omega)
  obtain ⟨G3, e3, F3⟩ := m_evL (seed := s) (n := n) hN (bh_scM hN hM2 F2') (bh_HM_cp hbm h45 hbK.2 hM2 c2) hs (by omega) (by omega) hkd hw
  exact bh_qy hR (v := bh_eA C R E K m z sv s kd n w) (G1 := G1) (G2 := G3) (by unfold f_X9_evenings; rw [c_isKind1 rfl hN hC hkd, ob_s, bh_i1, show (2000000000 : Int32) = nI 2000000000 from rfl, pB1 (n := 2000000000) hs (by omega), show (20 : Int32) = nI 20 from rfl, pC1 (n := 20) hn.1 hn.2 (by omega), pD1 (M := 2) (n := 2) rfl hw (by omega), e6, nI_1, lt_r, e1]) (by unfold f_X10_evenings; rw [lt_r, m_isHall hN hM2, ob_s, bh_i1, m_in1 (l := 0) (b := 2000000000) (by omega) (by decide) (by decide) (by omega) (by omega), ob_s, bh_i1, m_in1 (l := 1) (b := 20) (by omega) (by decide) (by decide) (by omega) (by omega), ob_s, bh_i1, m_isKind1 hkd, ob_s, bh_i1, m_in1 (l := 0) (b := 2) (by omega) (by decide) (by decide) (by omega) (by omega), ob_s, bh_i1, show f_X10_copyHall (0 : Int32) (5 : Int32) (sI G1 186 0 0) = _ from e2, ov_s, e3]) F1 (bh_Ft (bh_thr _) (bh_Ft F2' F3))
