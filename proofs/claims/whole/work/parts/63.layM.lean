/-! the reference: planOf, layouts by depth, layoutOf -/
theorem bh_planOf {G : GM} {w C R E K : Nat} {z : Nat → Nat} {wi : Int32} (hMO : bh_MO G w C R E K z) (hw : w < 6) (hC : 1 ≤ C ∧ C ≤ 3) (hR : R ≤ 3) (hE : E ≤ 5) (hK : K ≤ 5) (hz : ∀ k, k < K → z k ≤ 15) : ∃ G', f_X10_planOf (nI w) wi G = some G' ∧ gI G' 186 26 = nI (bh_np C R E K z) ∧ (∀ i, i < bh_np C R E K z → wi = nI i → ∀ c k, c < C → k < K → gI G' 200 (5 * c + k) = nI (bh_dg (bh_pln C R E K z i c) k)) ∧ bh_F (fun a q => (a = 186 ∧ 26 ≤ q ∧ q ≤ 27) ∨ (199 ≤ a ∧ a ≤ 201)) G G' := by
  have hPS := bh_PSok hK hz
  have hPSd := (bh_sm_pk (z := z) hK (fun k hk => by have := hz k hk; omega)).2
  have hlen := (bh_mx_PL (K := K) (R := R) (E := E) hK hR hE).1
  have hQ : bh_QL (bh_mx K R (R * E)) C R (R * E) K 0 0 0 (bh_PS K z) = bh_pl C R E K z := by
    unfold bh_QL bh_pl
    rw [if_neg (by omega)]
    obtain ⟨C', rfl⟩ : ∃ C', C = C' + 1 := ⟨C - 1, by omega⟩
    exact (bh_Q_card (bh_pm_mx K (by omega) R (by omega) E (by omega))).symm
  have hb : (bh_pl C R E K z).length ≤ 262144 := by
    have h2 := bh_sq_len hlen C (bh_PS K z)
    have h3 : 64 ^ C ≤ 64 ^ 3 := Nat.pow_le_pow_right (by omega) hC.2
    unfold bh_pl; omega
  unfold f_X10_planOf
  rw [lt_r, lt_r]
  refine wl1_up (P := fun o => ∃ G', o = some G' ∧ gI G' 186 26 = nI (bh_np C R E K z) ∧ (∀ i, i < bh_np C R E K z → wi = nI i → ∀ c k, c < C → k < K → gI G' 200 (5 * c + k) = nI (bh_dg (bh_pln C R E K z i c) k)) ∧ bh_F (fun a q => (a = 186 ∧ 26 ≤ q ∧ q ≤ 27) ∨ (199 ≤ a ∧ a ≤ 201)) G G') (I := fun i G1 => gI G1 186 26 = 0 ∧ gI G1 186 27 = wi ∧ (∀ j, j < i → gI G1 201 j = gI G 194 (5 * w + j)) ∧ bh_F (fun a q => (a = 186 ∧ 26 ≤ q ∧ q ≤ 27) ∨ a = 201) G G1) (N := 5) (by omega) ?_ (n := FU) (i := 0) (Nat.zero_le _) ⟨by rw [gI_sIk (by decide), gI_sIs], gI_sIs _ _ _ _, fun j hj => absurd hj (Nat.not_lt_zero _), bh_FI (bh_FI (bh_Fr _ _) (Or.inl ⟨rfl, by omega, by omega⟩)) (Or.inl ⟨rfl, by omega, by omega⟩)⟩ (by unfold FU; omega)
  rintro kc i G1 hi ⟨q1, q2, q3, hF⟩ hkc
  unfold lp_X10_planOf_12
  rw [show (5 : Int32) = nI 5 from rfl]
  by_cases hi5 : i < 5
  · rw [if_neg (nI_ge hi5 (by omega)), pk_mul, nI_add, inb_n (by omega) (by omega), gd_t, inb_n hi5 (by omega), gd_t, lt_r, nI_clamp (by omega), nI_clamp (by omega), nI_1]
    refine hkc hi5 _ ⟨by rw [gI_sIa (by decide)]; exact q1, by rw [gI_sIa (by decide)]; exact q2, fun j hj => ?_, bh_FI hF (Or.inr rfl)⟩
    rw [gI_sI]
    by_cases hji : j = i
    · rw [if_pos ⟨rfl, hji⟩, hF.1 _ _ (by omega), hji]
    · rw [if_neg (fun h => hji h.2)]; exact q3 j (by omega)
  · have hi2 : i = 5 := by omega
    subst hi2
    rw [if_pos (nI_le (by omega) (by omega))]
    obtain ⟨G2, e2, r1, r2, r3, r4, r5⟩ := bh_plansM (z := z) hw hC.2 hR hE hK (wi := wi) 25 0 0 0 (bh_PS K z) 0 G1 (bh_MO_F hMO hF (fun k _ _ => by omega) (fun k _ _ => by omega) hK) (Nat.zero_le _) (Nat.zero_le _) (fun h => by omega) (by
      have : (C - 0) * (K + 1) ≤ 3 * 6 := Nat.mul_le_mul (by omega) (by omega)
      omega) (Nat.zero_le _) hPS (fun j hj => by
      rw [q3 j (by omega), hMO.2.2.2.2 j hj]
      have := hPSd j (by omega)
      rw [if_pos hj] at this
      exact congrArg nI this.symm) q1 q2 (by rw [hQ]; omega)
    rw [hQ] at r1 r4
    rw [show (0 : Int32) = nI 0 from rfl, e2, ov_s]
    refine ⟨G2, rfl, by rw [r1, Nat.zero_add]; rfl, fun i hi hwi c k hc hk => ?_, bh_Ft (bh_Fm hF (fun a q h => by omega)) (bh_Fm r5 (fun a q h => by unfold bh_WPl at h; omega))⟩
    have h := r4.1 i _ (bh_getL hi) (by rw [Nat.zero_add]; exact hwi) c k hc hk
    rw [h, if_neg (by omega), Nat.sub_zero]
    rfl
theorem bh_clr : ∀ v, v < 31 → bh_pc (v + 1) = bh_pc ((v + 1) &&& v) + 1 ∧ (v + 1) &&& v < v + 1 := by decide
theorem bh_sizeOf {s : Nat} (hs : s < 32) (G : GM) : f_X10_sizeOf (nI s) G = some (nI (bh_pc s), G) := by
  unfold f_X10_sizeOf
  refine wl2_P (P := fun o => o = some (nI (bh_pc s), G)) (I := fun x y G1 => G1 = G ∧ ∃ n v, x = nI n ∧ y = nI v ∧ v < 32 ∧ n + bh_pc v = bh_pc s) (m := fun _ y _ => y.toNatClampNeg) ?_ FU 0 (nI s) G ⟨rfl, 0, s, rfl, rfl, hs, Nat.zero_add _⟩ (by rw [nI_clamp (by omega)]; unfold FU; omega)
  rintro kc _ _ G1 ⟨rfl, n, v, rfl, rfl, hv, hn⟩ hk
  unfold lp_X10_sizeOf_4
  match v, hv, hn with
  | 0, _, hn =>
    rw [if_pos (show nI 0 = (0 : Int32) from rfl)]
    have : n = bh_pc s := hn
    rw [this]
  | v + 1, hv, hn =>
    obtain ⟨h1, h2⟩ := bh_clr v (by omega)
    rw [if_neg (nI_ne0 (by omega) (by omega)), bh_m1, bh_nIand, lt_r, nI_1]
    exact hk _ _ _ ⟨rfl, n + 1, _, rfl, rfl, by omega, by omega⟩ (by rw [nI_clamp (by omega), nI_clamp (by omega)]; exact h2)
/-- small numbers that may fall below nothing -/
def nZ (x : Int) : Int32 := Int32.ofInt x
theorem nZ_n (n : Nat) : nI n = nZ (n : Int) := (Int32.ofInt_eq_ofNat).symm
theorem nZ_sub (x : Int) (b : Nat) : nZ x - nI b = nZ (x - b) := by
  rw [nZ_n]; exact (Int32.ofInt_sub x b).symm
theorem nZ_add (x : Int) (b : Nat) : nZ x + nI b = nZ (x + b) := by
  rw [nZ_n]; exact (Int32.ofInt_add x b).symm
theorem nZ_0 {x : Int} (h1 : -2000 ≤ x) (h2 : x ≤ 2000) : nZ x = 0 ↔ x = 0 := by
  constructor
  · intro h
    have := congrArg Int32.toInt h
    unfold nZ at this
    rw [Int32.toInt_ofInt_of_le (by omega) (by omega)] at this
    simpa using this
  · intro h; subst h; rfl
def bh_DL (R r0 : Nat) (pf : Nat → Int32) (l : List Nat) (a : Nat → Int32) : Prop := ∀ r, r < R → a r = if r < r0 then pf r else nI (l.getD (r - r0) 0)
theorem bh_flt {α β : Type} (p : α → Bool) (f : α → List β) : ∀ l : List α, (l.filter p).flatMap f = l.flatMap fun a => if p a = true then f a else []
  | [] => rfl
  | a :: t => by
    rw [bh_fm_cons, List.filter_cons]
    by_cases h : p a = true
    · rw [if_pos h, if_pos h, bh_fm_cons, bh_flt p f t]
    · rw [if_neg h, if_neg h, bh_flt p f t]; rfl
def bh_WLa (a q : Nat) : Prop := (a = 186 ∧ q = 31) ∨ (202 ≤ a ∧ a ≤ 204)
def bh_gs (K E n : Nat) (wt : Nat → Int) (s : Nat) : List (List Nat) := if decide (bh_pc s = E) = true then (bh_ly K E n (fun k => wt k - (s / 2 ^ k % 2 : Nat))).map (s :: ·) else []
theorem bh_ly_rg {K E n : Nat} {wt : Nat → Int} : bh_ly K E (n + 1) wt = (List.range (2 ^ K)).flatMap (bh_gs K E n wt) := by
  unfold bh_ly bh_ss
  rw [bh_flt]; rfl
theorem bh_layM {w C R E K : Nat} {z : Nat → Nat} (hw : w < 6) (hR : R ≤ 3) (hE : E ≤ 5) (hK : K ≤ 5) {wi : Int32} : ∀ (n fuel r met : Nat) (wt : Nat → Int) (G : GM), bh_MO G w C R E K z → R = r + n → n + 1 ≤ fuel → (∀ k, k < K → gI G 202 k = nZ (wt k) ∧ -1000 + (n : Int) ≤ wt k ∧ wt k ≤ 1000) → gI G 186 31 = nI met → gI G 186 32 = wi → met + (bh_ly K E n wt).length < 2 ^ 31 → ∃ G', f_X10_layouts fuel (nI w) (nI r) G = some G' ∧ gI G' 186 31 = nI (met + (bh_ly K E n wt).length) ∧ (∀ k, k < K → gI G' 202 k = nZ (wt k)) ∧ (∀ j, j < r → gI G' 203 j = gI G 203 j) ∧ bh_H (bh_DL R r (gI G 203)) wi met (bh_ly K E n wt) (gI G 204) (gI G' 204) ∧ bh_F bh_WLa G G'
  | _, 0, _, _, _, _, _, _, hf, _, _, _, _ => absurd hf (by omega)
  | 0, fuel + 1, r, met, wt, G, hMO, hRr, hf, h202, h31, h32, hbd => by
    have hRr : R = r := hRr
    subst hRr
    unfold f_X10_layouts fb_X10_layouts
    rw [bh_of1 hMO hw, ob_s, if_pos rfl]
    unfold bh_ly at hbd ⊢
    refine wl1_up (P := fun o => ∃ G', o = some G' ∧ gI G' 186 31 = nI (met + (if bh_al (fun k => decide (wt k = 0)) K = true then [[]] else [] : List (List Nat)).length) ∧ (∀ k, k < K → gI G' 202 k = nZ (wt k)) ∧ (∀ j, j < R → gI G' 203 j = gI G 203 j) ∧ bh_H (bh_DL R R (gI G 203)) wi met (if bh_al (fun k => decide (wt k = 0)) K = true then [[]] else []) (gI G 204) (gI G' 204) ∧ bh_F bh_WLa G G') (I := fun i G1 => G1 = G ∧ ∀ k, k < i → wt k = 0) (N := K) (by omega) ?_ (n := FU) (i := 0) (Nat.zero_le _) ⟨rfl, fun j hj => absurd hj (Nat.not_lt_zero _)⟩ (by unfold FU; omega)
    rintro kc i G1 hi ⟨rfl, hz⟩ hkc
    unfold lp_X10_layouts_12
    rw [bh_of3 hMO hw, ob_s]
    by_cases hiK : i < K
    · obtain ⟨g1, g2, g3⟩ := h202 i hiK
      rw [if_neg (nI_ge hiK (by omega)), inb_n (by omega) (by omega), gd_t, nI_clamp (by omega), g1]
      by_cases h0 : wt i = 0
      · rw [if_pos ((nZ_0 (by omega) (by omega)).mpr h0), nI_1]
        refine hkc hiK G1 ⟨rfl, fun k hk => ?_⟩
        by_cases hki : k = i
        · subst hki; exact h0
        · exact hz k (by omega)
      · have hall : ¬ bh_al (fun k => decide (wt k = 0)) K = true := fun h => h0 (of_decide_eq_true (bh_al_iff.mp h i hiK))
        rw [if_neg (fun h => h0 ((nZ_0 (by omega) (by omega)).mp h)), if_neg hall]
        exact ⟨G1, rfl, h31, fun k hk => (h202 k hk).1, fun _ _ => rfl, bh_H_nil _ _ _ _, bh_Fr _ _⟩
    · have hiK2 : i = K := by omega
      subst hiK2
      have hall : bh_al (fun k => decide (wt k = 0)) i = true := bh_al_iff.mpr fun k hk => decide_eq_true (hz k hk)
      rw [if_pos (nI_le (by omega) (by omega)), h31, h32]
      rw [if_pos hall] at hbd ⊢
      have fin : ∀ G2 : GM, bh_F (fun a _ => a = 204) G1 G2 → (wi = nI met → gI G2 204 = fun j => if j < 3 then gI G1 203 j else gI G1 204 j) → (wi ≠ nI met → gI G2 204 = gI G1 204) → ∃ G', k_X10_layouts_74 (f_X10_layouts fuel) (nI w) (nI R) G2 = some G' ∧ gI G' 186 31 = nI (met + ([[]] : List (List Nat)).length) ∧ (∀ k, k < i → gI G' 202 k = nZ (wt k)) ∧ (∀ j, j < R → gI G' 203 j = gI G1 203 j) ∧ bh_H (bh_DL R R (gI G1 203)) wi met [[]] (gI G1 204) (gI G' 204) ∧ bh_F bh_WLa G1 G' := by
        intro G2 hF h1 h2
        unfold k_X10_layouts_74
        rw [lt_r]
        have e204 : gI (sI G2 186 31 (gI G2 186 31 + 1)) 204 = gI G2 204 := by funext j; exact gI_sIa (by decide) _ _ _ _
        refine ⟨_, rfl, ?_, fun j hj => ?_, fun j hj => ?_, ⟨fun idx l hl hwi => ?_, fun hn => ?_⟩, bh_FI (bh_Fm hF (fun a q h => Or.inr (by omega))) (Or.inl ⟨rfl, rfl⟩)⟩
        · rw [gI_sIs, hF.1 _ _ (by omega), h31]; exact nI_1 _
        · rw [gI_sIa (by decide), hF.1 _ _ (by omega)]; exact (h202 j hj).1
        · rw [gI_sIa (by decide), hF.1 _ _ (by omega)]
        · have hidx : idx = 0 := by
            have := (List.getElem?_eq_some_iff.mp hl).1
            simp at this; exact this
          subst hidx
          rw [e204, h1 hwi]
          intro q hq
          show (if q < 3 then _ else _) = _
          rw [if_pos (by omega), if_pos hq]
        · rw [e204]
          exact h2 (hn 0 (by decide))
      by_cases hwi : wi = nI met
      · rw [if_pos hwi.symm]
        refine wl1_up (P := fun o => ∃ G', o = some G' ∧ gI G' 186 31 = nI (met + ([[]] : List (List Nat)).length) ∧ (∀ k, k < i → gI G' 202 k = nZ (wt k)) ∧ (∀ j, j < R → gI G' 203 j = gI G1 203 j) ∧ bh_H (bh_DL R R (gI G1 203)) wi met [[]] (gI G1 204) (gI G' 204) ∧ bh_F bh_WLa G1 G') (I := fun j G2 => bh_F (fun a _ => a = 204) G1 G2 ∧ gI G2 204 = fun q => if q < j then gI G1 203 q else gI G1 204 q) (N := 3) (by omega) ?_ (n := FU) (i := 0) (Nat.zero_le _) ⟨bh_Fr _ _, by funext q; simp⟩ (by unfold FU; omega)
        rintro kc2 j G2 hj ⟨hF, h204⟩ hk2
        unfold lp_X10_layouts_51
        rw [show (3 : Int32) = nI 3 from rfl]
        by_cases hj3 : j < 3
        · rw [if_neg (nI_ge hj3 (by omega)), inb_n hj3 (by omega), gd_t, gd_t, lt_r, nI_clamp (by omega), nI_1]
          refine hk2 hj3 _ ⟨bh_FI hF rfl, ?_⟩
          funext q
          rw [gI_sI, hF.1 203 j (by omega)]
          by_cases hqj : q = j
          · subst hqj
            rw [if_pos ⟨rfl, rfl⟩, if_pos (by omega)]
          · rw [if_neg (fun h => hqj h.2), h204]
            by_cases hq : q < j
            · simp only [if_pos hq, if_pos (show q < j + 1 from by omega)]
            · simp only [if_neg hq, if_neg (show ¬ q < j + 1 from by omega)]
        · have hj2 : j = 3 := by omega
          subst hj2
          rw [if_pos (nI_le (by omega) (by omega))]
          exact fin G2 hF (fun _ => h204) (fun h => absurd hwi h)
      · rw [if_neg (fun h => hwi h.symm)]
        exact fin G1 (bh_Fr _ _) (fun h => absurd h hwi) (fun _ => rfl)
  | n + 1, fuel + 1, r, met, wt, G, hMO, hRr, hf, h202, h31, h32, hbd => by
    have ih := bh_layM (C := C) (z := z) hw hR hE hK (wi := wi) n fuel
    have h2K := bh_pow_lt (R := 2) (K := K) (by omega) hK
    have h32K : 2 ^ K ≤ 32 := Nat.le_trans (Nat.pow_le_pow_right (by omega) hK) (by decide)
    unfold f_X10_layouts fb_X10_layouts
    generalize f_X10_layouts fuel = rec at ih
    rw [bh_of1 hMO hw, ob_s, if_neg (by rw [nI_eq (by omega) (by omega)]; omega)]
    rw [bh_ly_rg] at hbd ⊢
    generalize hg : bh_gs K E n wt = g at hbd ⊢
    refine wl1_up (P := fun o => ∃ G', o = some G' ∧ gI G' 186 31 = nI (met + ((List.range (2 ^ K)).flatMap g).length) ∧ (∀ k, k < K → gI G' 202 k = nZ (wt k)) ∧ (∀ j, j < r → gI G' 203 j = gI G 203 j) ∧ bh_H (bh_DL R r (gI G 203)) wi met ((List.range (2 ^ K)).flatMap g) (gI G 204) (gI G' 204) ∧ bh_F bh_WLa G G') (I := fun i G1 => gI G1 186 31 = nI (met + ((List.range i).flatMap g).length) ∧ (∀ k, k < K → gI G1 202 k = nZ (wt k)) ∧ (∀ j, j < r → gI G1 203 j = gI G 203 j) ∧ bh_H (bh_DL R r (gI G 203)) wi met ((List.range i).flatMap g) (gI G 204) (gI G1 204) ∧ bh_F bh_WLa G G1) (N := 2 ^ K) (by omega) ?_ (n := FU) (i := 0) (Nat.zero_le _) ⟨h31, fun k hk => (h202 k hk).1, fun _ _ => rfl, bh_H_nil _ _ _ _, bh_Fr _ _⟩ (by unfold FU; omega)
    rintro kc s G1 hs' ⟨q31, q202, q203, qH, qF⟩ hkc
    have hMOF : ∀ G2, bh_F bh_WLa G G2 → bh_MO G2 w C R E K z := fun G2 h => bh_MO_F hMO h (fun k _ _ => by unfold bh_WLa; omega) (fun k _ _ => by unfold bh_WLa; omega) hK
    have hMO1 := hMOF G1 qF
    unfold lp_X10_layouts_87
    rw [bh_of3 hMO1 hw, ob_s, bh_one_shl K (by omega)]
    by_cases hs : s < 2 ^ K
    · rw [if_neg (nI_ge hs (by omega)), bh_sizeOf (by omega), ob_s, bh_of2 hMO1 hw, ob_s]
      have hpc : bh_pc s < 100 := by unfold bh_pc; omega
      by_cases hE' : bh_pc s = E
      · have hgs : g s = (bh_ly K E n (fun k => wt k - (s / 2 ^ k % 2 : Nat))).map (s :: ·) := by
          rw [← hg]; unfold bh_gs; rw [if_pos (decide_eq_true hE')]
        have hmono := bh_fmr_mono (g := g) (i := s + 1) (n := 2 ^ K) (by omega)
        rw [bh_fmr, List.length_append, hgs, List.length_map] at hmono
        rw [if_pos (by rw [hE']), inb_n (by omega) (by omega), gd_t, lt_r, nI_clamp (by omega)]
        refine wl1_up (P := fun o => ∃ G', o = some G' ∧ gI G' 186 31 = nI (met + ((List.range (2 ^ K)).flatMap g).length) ∧ (∀ k, k < K → gI G' 202 k = nZ (wt k)) ∧ (∀ j, j < r → gI G' 203 j = gI G 203 j) ∧ bh_H (bh_DL R r (gI G 203)) wi met ((List.range (2 ^ K)).flatMap g) (gI G 204) (gI G' 204) ∧ bh_F bh_WLa G G') (I := fun i G2 => (∀ k, k < K → gI G2 202 k = nZ (if k < i then wt k - (s / 2 ^ k % 2 : Nat) else wt k)) ∧ gI G2 203 r = nI s ∧ bh_F (fun a q => a = 202 ∨ (a = 203 ∧ q = r)) G1 G2) (N := K) (by omega) ?_ (n := FU) (i := 0) (Nat.zero_le _) ⟨fun k hk => ?_, gI_sIs _ _ _ _, bh_FI (bh_Fr _ _) (Or.inr ⟨rfl, rfl⟩)⟩ (by unfold FU; omega)
        · rintro kc1 i G2 hi' ⟨p202, p203, pF⟩ hk1
          have FF2 : bh_F bh_WLa G G2 := bh_Ft qF (bh_Fm pF (fun a q h => by unfold bh_WLa; omega))
          have hMO2 := hMOF G2 FF2
          unfold lp_X10_layouts_125
          rw [bh_of3 hMO2 hw, ob_s]
          by_cases hi : i < K
          · rw [if_neg (nI_ge hi (by omega)), inb_n (by omega) (by omega), gd_t, gd_t, nI_clamp (by omega), p202 i hi, if_neg (Nat.lt_irrefl _), bh_bit (by omega) (by omega), nZ_sub, lt_r, nI_1]
            refine hk1 hi _ ⟨fun k hk => ?_, by rw [gI_sIa (by decide)]; exact p203, bh_FI pF (Or.inl rfl)⟩
            rw [gI_sI]
            by_cases hki : k = i
            · subst hki
              rw [if_pos ⟨rfl, rfl⟩, if_pos (by omega)]
            · rw [if_neg (fun h => hki h.2), p202 k hk]
              by_cases hk2 : k < i
              · rw [if_pos hk2, if_pos (by omega)]
              · rw [if_neg hk2, if_neg (by omega)]
          · have hi2 : i = K := by omega
            subst hi2
            rw [if_pos (nI_le (by omega) (by omega)), nI_1]
            obtain ⟨G3, e3, r31, r202, r203, rH, rF⟩ := ih (r + 1) (met + ((List.range s).flatMap g).length) (fun k => wt k - (s / 2 ^ k % 2 : Nat)) G2 hMO2 (by omega) (by omega) (fun k hk => by
              have h1 := p202 k hk
              rw [if_pos hk] at h1
              have h2 := h202 k hk
              have h3 : s / 2 ^ k % 2 < 2 := Nat.mod_lt _ (by omega)
              refine ⟨h1, ?_, ?_⟩
              · show -1000 + (n : Int) ≤ wt k - (s / 2 ^ k % 2 : Nat)
                omega
              · show wt k - (s / 2 ^ k % 2 : Nat) ≤ 1000
                omega) (by rw [pF.1 _ _ (by omega)]; exact q31) (by rw [FF2.1 _ _ (by unfold bh_WLa; omega)]; exact h32) (by omega)
            have e204 : gI G2 204 = gI G1 204 := by funext j; exact pF.1 _ _ (by omega)
            rw [e204] at rH
            rw [e3, ov_s]
            have FF3 : bh_F bh_WLa G G3 := bh_Ft FF2 rF
            refine wl1_up (P := fun o => ∃ G', o = some G' ∧ gI G' 186 31 = nI (met + ((List.range (2 ^ i)).flatMap g).length) ∧ (∀ k, k < i → gI G' 202 k = nZ (wt k)) ∧ (∀ j, j < r → gI G' 203 j = gI G 203 j) ∧ bh_H (bh_DL R r (gI G 203)) wi met ((List.range (2 ^ i)).flatMap g) (gI G 204) (gI G' 204) ∧ bh_F bh_WLa G G') (I := fun j G4 => (∀ k, k < i → gI G4 202 k = nZ (if k < j then wt k else wt k - (s / 2 ^ k % 2 : Nat))) ∧ bh_F (fun a _ => a = 202) G3 G4) (N := i) (by omega) ?_ (n := FU) (i := 0) (Nat.zero_le _) ⟨fun k hk => by rw [if_neg (Nat.not_lt_zero _)]; exact r202 k hk, bh_Fr _ _⟩ (by unfold FU; omega)
            rintro kc2 j G4 hj' ⟨t202, tF⟩ hk2
            have FF4 : bh_F bh_WLa G G4 := bh_Ft FF3 (bh_Fm tF (fun a q h => by unfold bh_WLa; omega))
            have hMO4 := hMOF G4 FF4
            unfold lp_X10_layouts_169
            rw [bh_of3 hMO4 hw, ob_s]
            by_cases hj : j < i
            · rw [if_neg (nI_ge hj (by omega)), inb_n (by omega) (by omega), gd_t, gd_t, nI_clamp (by omega), t202 j hj, if_neg (Nat.lt_irrefl _), bh_bit (by omega) (by omega), nZ_add, lt_r, nI_1]
              refine hk2 hj _ ⟨fun k hk => ?_, bh_FI tF rfl⟩
              rw [gI_sI]
              by_cases hkj : k = j
              · subst hkj
                rw [if_pos ⟨rfl, rfl⟩, if_pos (by omega), Int.sub_add_cancel]
              · rw [if_neg (fun h => hkj h.2), t202 k hk]
                by_cases hk2 : k < j
                · rw [if_pos hk2, if_pos (by omega)]
                · rw [if_neg hk2, if_neg (by omega)]
            · have hj2 : j = i := by omega
              subst hj2
              rw [if_pos (nI_le (by omega) (by omega)), nI_1]
              refine hkc hs G4 ⟨?_, fun k hk => ?_, fun q hq => ?_, ?_, FF4⟩
              · rw [tF.1 _ _ (by omega), r31, bh_fmr, List.length_append, hgs, List.length_map, Nat.add_assoc]
              · rw [t202 k hk, if_pos hk]
              · rw [tF.1 _ _ (by omega), r203 q (by omega), pF.1 _ _ (by omega)]; exact q203 q hq
              · have e4 : gI G4 204 = gI G3 204 := by funext q; exact tF.1 _ _ (by omega)
                rw [e4, bh_fmr]
                refine bh_H_app qH ?_ (by rw [List.length_append, hgs, List.length_map]; omega)
                rw [hgs]
                refine bh_H_map rH (fun l _ hD q hq => ?_)
                have h := hD q hq
                rw [h]
                by_cases hqr : q < r
                · rw [if_pos (by omega), if_pos hqr, pF.1 _ _ (by omega)]; exact q203 q hqr
                · rw [if_neg hqr]
                  by_cases hqr2 : q = r
                  · subst hqr2
                    rw [if_pos (by omega), p203, Nat.sub_self]; rfl
                  · rw [if_neg (by omega), show q - r = (q - (r + 1)) + 1 from by omega]; rfl
        · rw [gI_sIa (by decide), if_neg (Nat.not_lt_zero _)]; exact q202 k hk
      · rw [if_neg (by rw [nI_eq (by omega) (by omega)]; exact hE'), nI_1]
        have hgs : g s = [] := by
          rw [← hg]; unfold bh_gs
          rw [if_neg (fun h => hE' (of_decide_eq_true h))]
        refine hkc hs G1 ⟨?_, q202, q203, ?_, qF⟩
        · rw [bh_fmr, hgs, List.append_nil]; exact q31
        · rw [bh_fmr, hgs, List.append_nil]; exact qH
    · have hs2 : s = 2 ^ K := by omega
      subst hs2
      rw [if_pos (nI_le (by omega) (by omega))]
      exact ⟨G1, rfl, q31, q202, q203, qH, qF⟩
theorem bh_ly_len {K E : Nat} (hK : K ≤ 5) : ∀ (n : Nat) (wt : Nat → Int), (bh_ly K E n wt).length ≤ 32 ^ n
  | 0, wt => by unfold bh_ly; split <;> simp
  | n + 1, wt => by
    have h32K : 2 ^ K ≤ 32 := Nat.le_trans (Nat.pow_le_pow_right (by omega) hK) (by decide)
    unfold bh_ly
    refine Nat.le_trans (bh_fm_len (m := 32 ^ n) _ fun s _ => ?_) ?_
    · rw [List.length_map]; exact bh_ly_len hK n _
    · rw [Nat.pow_succ, Nat.mul_comm (32 ^ n)]
      refine Nat.mul_le_mul ?_ (Nat.le_refl _)
      unfold bh_ss
      exact Nat.le_trans (List.length_filter_le _ _) (by rw [List.length_range]; exact h32K)
theorem bh_layoutOf {G : GM} {w C R E K : Nat} {z : Nat → Nat} {wi : Int32} {wt : Nat → Int} (hMO : bh_MO G w C R E K z) (hw : w < 6) (hR : R ≤ 3) (hE : E ≤ 5) (hK : K ≤ 5) (h202 : ∀ k, k < K → gI G 202 k = nZ (wt k) ∧ 0 ≤ wt k ∧ wt k ≤ 1000) : ∃ G', f_X10_layoutOf (nI w) wi G = some G' ∧ gI G' 186 31 = nI (bh_ly K E R wt).length ∧ (∀ k, k < K → gI G' 202 k = nZ (wt k)) ∧ (∀ i l, (bh_ly K E R wt)[i]? = some l → wi = nI i → ∀ r, r < R → gI G' 204 r = nI (l.getD r 0)) ∧ bh_F (fun a q => (a = 186 ∧ 31 ≤ q ∧ q ≤ 32) ∨ (202 ≤ a ∧ a ≤ 204)) G G' := by
  have hlen := bh_ly_len (E := E) hK R wt
  have h3 : 32 ^ R ≤ 32 ^ 3 := Nat.pow_le_pow_right (by omega) hR
  unfold f_X10_layoutOf
  rw [lt_r, lt_r]
  have F1 : bh_F (fun a q => (a = 186 ∧ 31 ≤ q ∧ q ≤ 32) ∨ (202 ≤ a ∧ a ≤ 204)) G (sI (sI G 186 31 0) 186 32 wi) := bh_FI (bh_FI (bh_Fr _ _) (Or.inl ⟨rfl, by omega, by omega⟩)) (Or.inl ⟨rfl, by omega, by omega⟩)
  obtain ⟨G1, e1, r1, r2, r3, r4, r5⟩ := bh_layM (C := C) (z := z) hw hR hE hK (wi := wi) R 6 0 0 wt (sI (sI G 186 31 0) 186 32 wi) (bh_MO_F hMO F1 (fun k _ _ => by omega) (fun k _ _ => by omega) hK) (Nat.zero_add _).symm (by omega) (fun k hk => by
    obtain ⟨a, b, c⟩ := h202 k hk
    exact ⟨by rw [gI_sIa (by decide), gI_sIa (by decide)]; exact a, by omega, c⟩) (by rw [gI_sIk (by decide), gI_sIs]; rfl) (gI_sIs _ _ _ _) (by omega)
  rw [show (0 : Int32) = nI 0 from rfl] at *
  rw [e1, ov_s]
  refine ⟨G1, rfl, by rw [r1, Nat.zero_add], r2, fun i l hl hwi r hr => ?_, bh_Ft F1 (bh_Fm r5 (fun a q h => by unfold bh_WLa at h; omega))⟩
  have h := r4.1 i l hl (by rw [Nat.zero_add]; exact hwi) r hr
  rw [h, if_neg (Nat.not_lt_zero _), Nat.sub_zero]
