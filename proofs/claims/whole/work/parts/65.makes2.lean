/-! the reference makes a STRIP -/
def bh_YL (C R E K : Nat) (z : Nat → Nat) (s c : Nat) : List (List Nat) := bh_ly K E R (fun k => (bh_dg (bh_P C R E K z s c) k : Int))
def bh_YB (C R E K : Nat) (z : Nat → Nat) (s c r : Nat) : Nat := ((bh_YL C R E K z s c).getD (bh_LI C R E K z s c) []).getD r 0
theorem bh_ly_mem {K E : Nat} : ∀ (n : Nat) {w : Nat → Int} {l : List Nat}, l ∈ bh_ly K E n w → l.length = n ∧ ∀ s, s ∈ l → s < 2 ^ K
  | 0, w, l, h => by
    unfold bh_ly at h
    split at h
    · have : l = [] := by simpa using h
      subst this
      exact ⟨rfl, fun s hs => by cases hs⟩
    · cases h
  | n + 1, w, l, h => by
    unfold bh_ly at h
    obtain ⟨s, hs, h⟩ := List.mem_flatMap.mp h
    obtain ⟨t, ht, rfl⟩ := List.mem_map.mp h
    obtain ⟨h1, h2⟩ := bh_ly_mem n ht
    refine ⟨by simp [h1], fun q hq => ?_⟩
    rcases List.mem_cons.mp hq with rfl | hq
    · exact List.mem_range.mp (List.mem_filter.mp hs).1
    · exact h2 q hq
theorem bh_Y_len {C R E K : Nat} {z : Nat → Nat} (hV : bh_VH C R E K z) (s : Nat) {c : Nat} (hc : c < C) : bh_ls R E K (bh_P C R E K z s c) = (bh_YL C R E K z s c).map (List.map (bh_stG K)) := by
  have hok := bh_P_ok hV s hc
  obtain ⟨hC, hR, hE, hK, -⟩ := hV
  exact bh_ly_sq (by omega) (by omega) R ⟨hok.1, fun k hk => by have := hok.2.1 k hk; omega, hok.2.2⟩ (fun k _ => rfl)
theorem bh_getD_map {f : Nat → Nat} {l : List Nat} {i : Nat} (h : i < l.length) : (l.map f).getD i 0 = f (l.getD i 0) := by
  rw [List.getD_eq_getElem?_getD, List.getElem?_map, List.getD_eq_getElem?_getD, List.getElem?_eq_getElem h]; rfl
theorem bh_Y_at {C R E K : Nat} {z : Nat → Nat} (hV : bh_VH C R E K z) (s : Nat) {c r : Nat} (hc : c < C) (hr : r < R) : bh_LI C R E K z s c < (bh_YL C R E K z s c).length ∧ bh_YB C R E K z s c r < 2 ^ K ∧ bh_LY C R E K z s c r = bh_stG K (bh_YB C R E K z s c r) := by
  have hlen := bh_Y_len hV s hc
  have hP := (bh_P_in hV s).1 c hc
  have hV' := hV
  obtain ⟨hC, hR, hE, hK, hEK, -⟩ := hV'
  have hpos := bh_ls_pos K (by omega) R (by omega) E (by omega) hEK _ hP
  have hLI : bh_LI C R E K z s c < (bh_ls R E K (bh_P C R E K z s c)).length := bh_dV_lt hpos
  have hLI2 : bh_LI C R E K z s c < (bh_YL C R E K z s c).length := by rw [hlen, List.length_map] at hLI; exact hLI
  have hmem := bh_ly_mem R (bh_getDL_mem (l := bh_YL C R E K z s c) hLI2)
  refine ⟨hLI2, hmem.2 _ (bh_getD_mem (by omega)), ?_⟩
  unfold bh_LY bh_YB
  rw [hlen]
  have e1 : ((bh_YL C R E K z s c).map (List.map (bh_stG K))).getD (bh_LI C R E K z s c) [] = ((bh_YL C R E K z s c).getD (bh_LI C R E K z s c) []).map (bh_stG K) := by
    rw [List.getD_eq_getElem?_getD, List.getElem?_map, bh_getL hLI2]; rfl
  rw [e1]
  exact bh_getD_map (by omega)
theorem bh_Y_dg {C R E K : Nat} {z : Nat → Nat} (hV : bh_VH C R E K z) (s : Nat) {c r k : Nat} (hc : c < C) (hr : r < R) (hk : k < K) : bh_YB C R E K z s c r / 2 ^ k % 2 = bh_dg (bh_LY C R E K z s c r) k := by
  obtain ⟨-, h2, h3⟩ := bh_Y_at hV s hc hr
  have hK := hV.2.2.2.1
  rw [h3, (bh_stG_dg K (by omega) _ h2).2 k (by omega), if_pos hk]
/-- the memory of a strip of the reference -/
def bh_SM (G : GM) (b C R E K : Nat) (z : Nat → Nat) (s : Nat) : Prop := ∀ c r k, c < 3 → r < 3 → k < 5 → gI G 206 (45 * b + 15 * c + 5 * r + k) = nI (if c < C ∧ r < R ∧ k < K then bh_ST C R E K z s c r k else 0)
def bh_WMk (b a q : Nat) : Prop := (a = 186 ∧ 26 ≤ q ∧ q ≤ 36) ∨ (199 ≤ a ∧ a ≤ 205) ∨ a = 207 ∨ (a = 206 ∧ 45 * b ≤ q ∧ q < 45 * b + 45)
theorem bh_makes {G : GM} {w b C R E K s : Nat} {z : Nat → Nat} (hV : bh_VH C R E K z) (hMO : bh_MO G w C R E K z) (hw : w < 6) (hb : b < 2) (hs : s < 2147483648) : ∃ G', f_X10_makes (nI w) (nI s) (nI b) G = some G' ∧ bh_SM G' b C R E K z s ∧ gI G' 186 36 = nI (bh_dV s (bh_np C R E K z)) ∧ bh_F (bh_WMk b) G G' := by
  have hV' := hV
  obtain ⟨hC, hR, hE, hK, hEK, hz, hsum, hnp⟩ := hV'
  have hz15 : ∀ k, k < K → z k ≤ 15 := fun k hk => (hz k hk).2
  have hPin := bh_P_in hV s
  have hlen := (bh_mx_PL (K := K) (R := R) (E := E) hK.2 hR.2 hE.2).1
  have hnp2 : bh_np C R E K z ≤ 262144 := by
    have h2 := bh_sq_len hlen C (bh_PS K z)
    have h3 : 64 ^ C ≤ 64 ^ 3 := Nat.pow_le_pow_right (by omega) hC.2
    unfold bh_np bh_pl
    omega
  have mo : ∀ G2, bh_F (bh_WMk b) G G2 → bh_MO G2 w C R E K z := fun G2 h => bh_MO_F hMO h (fun k _ _ => by unfold bh_WMk; omega) (fun k _ _ => by unfold bh_WMk; omega) hK.2
  unfold f_X10_makes
  rw [lt_r, nI_l (by omega)]
  have F0 : bh_F (bh_WMk b) G (sJ G 186 33 (lN s)) := bh_FJ (bh_Fr _ _) (Or.inl ⟨rfl, by omega, by omega⟩)
  obtain ⟨G1, e1, p1, -, F1⟩ := bh_planOf (wi := (-1 : Int32)) (mo _ F0) hw hC hR.2 hE.2 hK.2 hz15
  have FF1 : bh_F (bh_WMk b) G G1 := bh_Ft F0 (bh_Fm F1 (fun a q h => by unfold bh_WMk; omega))
  rw [e1, ov_s, p1, bh_drawn hs (by rw [F1.2.1 _ _ (by omega), bh_Js]) hnp (by omega), ob_s, lt_r, gI_sIs]
  have F2 : bh_F (bh_WMk b) G (sI (sJ G1 186 33 (lN (bh_d2 s))) 186 36 (nI (bh_dV s (bh_np C R E K z)))) := bh_FI (bh_FJ FF1 (Or.inl ⟨rfl, by omega, by omega⟩)) (Or.inl ⟨rfl, by omega, by omega⟩)
  obtain ⟨G3, e3, -, p3, F3⟩ := bh_planOf (wi := nI (bh_dV s (bh_np C R E K z))) (mo _ F2) hw hC hR.2 hE.2 hK.2 hz15
  have FF3 : bh_F (bh_WMk b) G G3 := bh_Ft F2 (bh_Fm F3 (fun a q h => by unfold bh_WMk; omega))
  rw [e3, ov_s]
  have p3' : ∀ c k, c < C → k < K → gI G3 200 (5 * c + k) = nI (bh_dg (bh_P C R E K z s c) k) := p3 _ (bh_dV_lt hnp) rfl
  have x3 : gJ G3 186 33 = lN (bh_it 1 s) := by rw [F3.2.1 _ _ (by omega), gJ_sI, bh_Js]; rfl
  have m3 : gI G3 186 36 = nI (bh_dV s (bh_np C R E K z)) := by rw [F3.1 _ _ (by omega), gI_sIs]
  refine wl1_up (P := fun o => ∃ G', o = some G' ∧ bh_SM G' b C R E K z s ∧ gI G' 186 36 = nI (bh_dV s (bh_np C R E K z)) ∧ bh_F (bh_WMk b) G G') (I := fun c G4 => gJ G4 186 33 = lN (bh_it (1 + c) s) ∧ (∀ c' k, c' < C → k < K → gI G4 200 (5 * c' + k) = nI (bh_dg (bh_P C R E K z s c') k)) ∧ (∀ c' r, c' < c → r < R → gI G4 207 (3 * c' + r) = nI (bh_YB C R E K z s c' r)) ∧ gI G4 186 36 = nI (bh_dV s (bh_np C R E K z)) ∧ bh_F (bh_WMk b) G G4) (N := C) (by omega) ?_ (n := FU) (i := 0) (Nat.zero_le _) ⟨x3, p3', fun c r hc => absurd hc (Nat.not_lt_zero _), m3, FF3⟩ (by unfold FU; omega)
  rintro kc c G4 hc' ⟨x4, P4, Y4, m4, F4⟩ hkc
  unfold lp_X10_makes_36
  rw [bh_of0 (mo _ F4) hw, ob_s]
  by_cases hc : c < C
  · rw [if_neg (nI_ge hc (by omega))]
    refine wl1_up (P := fun o => ∃ G', o = some G' ∧ bh_SM G' b C R E K z s ∧ gI G' 186 36 = nI (bh_dV s (bh_np C R E K z)) ∧ bh_F (bh_WMk b) G G') (I := fun k G5 => (∀ j, j < k → gI G5 202 j = nI (if j < K then bh_dg (bh_P C R E K z s c) j else 0)) ∧ bh_F (fun a _ => a = 202) G4 G5) (N := 5) (by omega) ?_ (n := FU) (i := 0) (Nat.zero_le _) ⟨fun j hj => absurd hj (Nat.not_lt_zero _), bh_Fr _ _⟩ (by unfold FU; omega)
    rintro kc5 k G5 hk' ⟨w5, F5⟩ hk5
    have FF5 : bh_F (bh_WMk b) G G5 := bh_Ft F4 (bh_Fm F5 (fun a q h => by unfold bh_WMk; omega))
    unfold lp_X10_makes_50
    rw [show (5 : Int32) = nI 5 from rfl]
    by_cases hk : k < 5
    · have go : ∀ v, v = nI (if k < K then bh_dg (bh_P C R E K z s c) k else 0) → ∃ G', k_X10_makes_89 (nI w) (nI s) (nI b) (nI c) (nI k) v (nI k) kc kc5 G5 = some G' ∧ bh_SM G' b C R E K z s ∧ gI G' 186 36 = nI (bh_dV s (bh_np C R E K z)) ∧ bh_F (bh_WMk b) G G' := by
        intro v hv
        unfold k_X10_makes_89
        rw [inb_n hk (by omega), gd_t, lt_r, nI_clamp (by omega), nI_1]
        refine hk5 hk _ ⟨fun j hj => ?_, bh_FI F5 rfl⟩
        rw [gI_sI]
        by_cases hjk : j = k
        · subst hjk
          rw [if_pos ⟨rfl, rfl⟩, hv]
        · rw [if_neg (fun h => hjk h.2)]; exact w5 j (by omega)
      rw [if_neg (nI_ge hk (by omega)), bh_of3 (mo _ FF5) hw, ob_s]
      by_cases hkK : k < K
      · rw [if_neg (nI_ge hkK (by omega)), pk_mul, nI_add, inb_n (by omega) (by omega), gd_t, nI_clamp (by omega), F5.1 _ _ (by omega), P4 c k hc hkK]
        exact go _ (by rw [if_pos hkK])
      · rw [if_pos (nI_le (by omega) (by omega))]
        exact go _ (by rw [if_neg hkK]; rfl)
    · have hk2 : k = 5 := by omega
      subst hk2
      rw [if_pos (nI_le (by omega) (by omega))]
      have hLen := bh_Y_len hV s hc
      have hpos := bh_ls_pos K (by omega) R (by omega) E (by omega) hEK _ (hPin.1 c hc)
      have hw5 : ∀ k, k < K → gI G5 202 k = nZ (bh_dg (bh_P C R E K z s c) k : Int) ∧ (0 : Int) ≤ (bh_dg (bh_P C R E K z s c) k : Int) ∧ (bh_dg (bh_P C R E K z s c) k : Int) ≤ 1000 := fun k hk => by
        have := bh_dg_lt (bh_P C R E K z s c) k
        refine ⟨?_, by omega, by omega⟩
        rw [w5 k (by omega), if_pos hk, nZ_n]
      have hYl : (bh_YL C R E K z s c).length ≤ 32768 := by
        have h2 := bh_ly_len (E := E) hK.2 R (fun k => (bh_dg (bh_P C R E K z s c) k : Int))
        have h3 : 32 ^ R ≤ 32 ^ 3 := Nat.pow_le_pow_right (by omega) hR.2
        unfold bh_YL
        omega
      have hYpos : 0 < (bh_YL C R E K z s c).length := by rw [hLen, List.length_map] at hpos; exact hpos
      obtain ⟨G6, e6, r6, s6, -, F6⟩ := bh_layoutOf (wi := (-1 : Int32)) (mo _ FF5) hw hR.2 hE.2 hK.2 hw5
      have FF6 : bh_F (bh_WMk b) G G6 := bh_Ft FF5 (bh_Fm F6 (fun a q h => by unfold bh_WMk; omega))
      have hXl : bh_it (1 + c) s < 2147483648 := bh_it_lt _ hs
      have x6 : gJ G6 186 33 = lN (bh_it (1 + c) s) := by rw [F6.2.1 _ _ (by omega), F5.2.1 _ _ (by omega)]; exact x4
      have r6' : gI G6 186 31 = nI (bh_YL C R E K z s c).length := r6
      rw [e6, ov_s, r6', bh_drawn hXl x6 hYpos (by omega), ob_s]
      have hLI : bh_dV (bh_it (1 + c) s) (bh_YL C R E K z s c).length = bh_LI C R E K z s c := by
        unfold bh_LI
        rw [hLen, List.length_map]
      rw [hLI]
      have F7 : bh_F (bh_WMk b) G (sJ G6 186 33 (lN (bh_d2 (bh_it (1 + c) s)))) := bh_FJ FF6 (Or.inl ⟨rfl, by omega, by omega⟩)
      obtain ⟨G8, e8, -, -, t8, F8⟩ := bh_layoutOf (wi := nI (bh_LI C R E K z s c)) (wt := fun k => (bh_dg (bh_P C R E K z s c) k : Int)) (mo _ F7) hw hR.2 hE.2 hK.2 (fun k hk => ⟨by rw [gI_sJ]; exact s6 k hk, (hw5 k hk).2⟩)
      have FF8 : bh_F (bh_WMk b) G G8 := bh_Ft F7 (bh_Fm F8 (fun a q h => by unfold bh_WMk; omega))
      rw [e8, ov_s]
      have y8 : ∀ r, r < R → gI G8 204 r = nI (bh_YB C R E K z s c r) := fun r hr => t8 _ _ (bh_getL (bh_Y_at hV s hc hr).1) rfl r hr
      refine wl1_up (P := fun o => ∃ G', o = some G' ∧ bh_SM G' b C R E K z s ∧ gI G' 186 36 = nI (bh_dV s (bh_np C R E K z)) ∧ bh_F (bh_WMk b) G G') (I := fun r G9 => (∀ r', r' < r → gI G9 207 (3 * c + r') = gI G8 204 r') ∧ bh_F (fun a q => a = 207 ∧ 3 * c ≤ q) G8 G9) (N := 3) (by omega) ?_ (n := FU) (i := 0) (Nat.zero_le _) ⟨fun j hj => absurd hj (Nat.not_lt_zero _), bh_Fr _ _⟩ (by unfold FU; omega)
      rintro kc9 r G9 hr' ⟨q9, F9⟩ hk9
      unfold lp_X10_makes_118
      rw [show (3 : Int32) = nI 3 from rfl]
      by_cases hr : r < 3
      · rw [if_neg (nI_ge hr (by omega)), inb_n hr (by omega), gd_t, pk_mul, nI_add, inb_n (by omega) (by omega), gd_t, lt_r, nI_clamp (by omega), nI_clamp (by omega), nI_1]
        refine hk9 hr _ ⟨fun r' hr' => ?_, bh_FI F9 ⟨rfl, by omega⟩⟩
        rw [gI_sI]
        by_cases hrr : r' = r
        · subst hrr
          rw [if_pos ⟨rfl, rfl⟩, F9.1 _ _ (by omega)]
        · rw [if_neg (by omega)]; exact q9 r' (by omega)
      · have hr2 : r = 3 := by omega
        subst hr2
        rw [if_pos (nI_le (by omega) (by omega)), nI_1]
        have kk : ∀ a q, ¬ ((a = 186 ∧ 31 ≤ q ∧ q ≤ 33) ∨ (202 ≤ a ∧ a ≤ 204) ∨ (a = 207 ∧ 3 * c ≤ q)) → gI G9 a q = gI G4 a q := fun a q h => by
          rw [F9.1 _ _ (by omega), F8.1 _ _ (by omega), gI_sJ, F6.1 _ _ (by omega), F5.1 _ _ (by omega)]
        refine hkc hc G9 ⟨?_, fun c' k hc' hk => ?_, fun c' r' hc' hr' => ?_, ?_, bh_Ft FF8 (bh_Fm F9 (fun a q h => by unfold bh_WMk; omega))⟩
        · rw [F9.2.1 _ _ (by omega), F8.2.1 _ _ (by omega), bh_Js, show 1 + (c + 1) = 1 + c + 1 from rfl, bh_it_add (1 + c) 1 s]; rfl
        · rw [kk _ _ (by omega)]; exact P4 c' k hc' hk
        · by_cases hcc : c' = c
          · subst hcc
            rw [q9 r' (by omega), y8 r' hr']
          · rw [kk _ _ (by omega)]; exact Y4 c' r' (by omega) hr'
        · rw [kk _ _ (by omega)]; exact m4
  · have hc2 : c = C := by omega
    subst hc2
    rw [if_pos (nI_le (by omega) (by omega))]
    refine wl1_up (P := fun o => ∃ G', o = some G' ∧ bh_SM G' b c R E K z s ∧ gI G' 186 36 = nI (bh_dV s (bh_np c R E K z)) ∧ bh_F (bh_WMk b) G G') (I := fun i G5 => (∀ j, j < i → gI G5 206 (45 * b + j) = 0) ∧ bh_F (fun a q => a = 206 ∧ 45 * b ≤ q ∧ q < 45 * b + 45) G4 G5) (N := 45) (by omega) ?_ (n := FU) (i := 0) (Nat.zero_le _) ⟨fun j hj => absurd hj (Nat.not_lt_zero _), bh_Fr _ _⟩ (by unfold FU; omega)
    rintro kc5 i G5 hi' ⟨q5, F5⟩ hk5
    have FF5 : bh_F (bh_WMk b) G G5 := bh_Ft F4 (bh_Fm F5 (fun a q h => by unfold bh_WMk; omega))
    unfold lp_X10_makes_158
    rw [show (45 : Int32) = nI 45 from rfl]
    by_cases hi : i < 45
    · rw [if_neg (nI_ge hi (by omega)), pk_mul, nI_add, inb_n (by omega) (by omega), gd_t, lt_r, nI_clamp (by omega), nI_1]
      refine hk5 hi _ ⟨fun j hj => ?_, bh_FI F5 ⟨rfl, by omega, by omega⟩⟩
      rw [gI_sI]
      by_cases hji : j = i
      · rw [if_pos ⟨rfl, by omega⟩]
      · rw [if_neg (by omega)]; exact q5 j (by omega)
    · have hi2 : i = 45 := by omega
      subst hi2
      rw [if_pos (nI_le (by omega) (by omega))]
      have k5 : ∀ a q, a ≠ 206 → gI G5 a q = gI G4 a q := fun a q h => F5.1 _ _ (fun h2 => h h2.1)
      refine wl1_up (P := fun o => ∃ G', o = some G' ∧ bh_SM G' b c R E K z s ∧ gI G' 186 36 = nI (bh_dV s (bh_np c R E K z)) ∧ bh_F (bh_WMk b) G G') (I := fun k G6 => gJ G6 186 33 = lN (bh_XK c z s k) ∧ (∀ c' r k', c' < 3 → r < 3 → k' < 5 → gI G6 206 (45 * b + 15 * c' + 5 * r + k') = nI (if c' < c ∧ r < R ∧ k' < k then bh_ST c R E K z s c' r k' else 0)) ∧ bh_F (fun a q => a = 205 ∨ (a = 186 ∧ q = 33) ∨ (a = 206 ∧ 45 * b ≤ q ∧ q < 45 * b + 45)) G5 G6) (N := K) (by omega) ?_ (n := FU) (i := 0) (Nat.zero_le _) ⟨by rw [F5.2.1 _ _ (by omega)]; exact x4, fun c' r k' h1 h2 h3 => ?_, bh_Fr _ _⟩ (by unfold FU; omega)
      · rintro kc6 k G6 hk' ⟨x6, S6, F6⟩ hk6
        have FF6 : bh_F (bh_WMk b) G G6 := bh_Ft FF5 (bh_Fm F6 (fun a q h => by unfold bh_WMk; omega))
        have k6 : ∀ a q, a ≠ 205 → a ≠ 206 → ¬ (a = 186 ∧ q = 33) → gI G6 a q = gI G4 a q := fun a q h1 h2 h3 => by
          rw [F6.1 _ _ (by omega), k5 _ _ h2]
        unfold lp_X10_makes_187
        rw [bh_of3 (mo _ FF6) hw, ob_s]
        by_cases hk : k < K
        · have hzk := hz k hk
          have hOC := hPin.2 k hk
          have h45 : c * R * E ≤ 3 * 3 * 5 := Nat.mul_le_mul (Nat.mul_le_mul hC.2 hR.2) hE.2
          have hsmk : bh_sm z k + z k ≤ 45 := by
            have h1 : bh_sm z (k + 1) ≤ bh_sm z K := bh_sm_mono (by omega)
            have h2 : bh_sm z (k + 1) = bh_sm z k + z k := rfl
            omega
          rw [if_neg (nI_ge hk (by omega)), bh_firstOf (mo _ FF6) hw hK.2 (by omega), ob_s, show (5 : Int32) = nI 5 from rfl, pk_mul, nI_add, inb_n (by omega) (by omega), gd_t, nI_clamp (by omega), (mo _ FF6).2.2.2.2 k hk]
          obtain ⟨G7, e7, p7, x7, F7⟩ := bh_mixesM (G := G6) (n := z k) (lo := 1 + bh_sm z k) (X := bh_XK c z s k) (bh_it_lt _ hs) x6 (by omega) (by omega)
          rw [e7, ov_s]
          have hprm := bh_mx0_prm (z k) (1 + bh_sm z k) (bh_XK c z s k)
          refine wl2_up (P := fun o => ∃ G', o = some G' ∧ bh_SM G' b c R E K z s ∧ gI G' 186 36 = nI (bh_dV s (bh_np c R E K z)) ∧ bh_F (bh_WMk b) G G') (I := fun c1 v G8 => v = nI (bh_OF c R E K z s c1 k) ∧ (∀ c' r k', c' < 3 → r < 3 → k' < 5 → gI G8 206 (45 * b + 15 * c' + 5 * r + k') = nI (if c' < c ∧ r < R ∧ (k' < k ∨ (k' = k ∧ c' < c1)) then bh_ST c R E K z s c' r k' else 0)) ∧ bh_F (fun a q => a = 206 ∧ 45 * b ≤ q ∧ q < 45 * b + 45) G7 G8) (N := c) (by omega) ?_ (n := FU) (i := 0) (Nat.zero_le _) ⟨rfl, fun c' r k' h1 h2 h3 => ?_, bh_Fr _ _⟩ (by unfold FU; omega)
          · rintro kc8 c1 _ G8 hc1' ⟨rfl, S8, F8⟩ hk8
            have FF8 : bh_F (bh_WMk b) G G8 := bh_Ft FF6 (bh_Ft (bh_Fm F7 (fun a q h => by unfold bh_WMk; omega)) (bh_Fm F8 (fun a q h => by unfold bh_WMk; omega)))
            have k8 : ∀ a q, a ≠ 205 → a ≠ 206 → ¬ (a = 186 ∧ q = 33) → gI G8 a q = gI G4 a q := fun a q h1 h2 h3 => by
              rw [F8.1 _ _ (by omega), F7.1 _ _ (by omega), k6 _ _ h1 h2 h3]
            unfold lp_X10_makes_226
            rw [bh_of0 (mo _ FF8) hw, ob_s]
            by_cases hc1 : c1 < c
            · obtain ⟨-, -, hn3, hOF⟩ := bh_ST_at hV s hc1 (r := 0) (by omega) hk
              rw [if_neg (nI_ge hc1 (by omega)), show (5 : Int32) = nI 5 from rfl, pk_mul, nI_add, inb_n (by omega) (by omega), gd_t, nI_clamp (by omega), k8 _ _ (by omega) (by omega) (by omega), P4 c1 k hc1 hk, lt_r, bh_of1 (mo _ FF8) hw, ob_s]
              have hbits : ∀ r, r < R → bh_YB c R E K z s c1 r / 2 ^ k % 2 = bh_dg (bh_LY c R E K z s c1 r) k := fun r hr => bh_Y_dg hV s hc1 hr hk
              have hJ : ∀ r, r ≤ R → bh_sm (fun r => bh_YB c R E K z s c1 r / 2 ^ k % 2) r = bh_JR c R E K z s c1 r k := fun r hr => bh_sm_congr fun q hq => hbits q (by omega)
              obtain ⟨G9, e9, p9, F9⟩ := bh_laysM (G := G8) (b := b) (card := c1) (k := k) (o := bh_OF c R E K z s c1 k) (n := bh_dg (bh_P c R E K z s c1) k) (R := R) (a := bh_mx0 (z k) (1 + bh_sm z k) (bh_XK c z s k)) (y := fun r => bh_YB c R E K z s c1 r) hb (by omega) (by omega) hR.2 hn3 (by omega) (fun i hi => by
                have h1 := hprm.1 (bh_OF c R E K z s c1 k + i) (by omega)
                refine ⟨?_, by omega, by omega⟩
                rw [F8.1 _ _ (by omega)]
                exact p7 _ (by omega)) (fun i j hi hj he => by
                have := hprm.2.1 _ _ (by omega) (by omega) he
                omega) (fun r hr => by
                have h1 := (bh_Y_at hV s hc1 hr).2.1
                have h2 : 2 ^ K ≤ 32 := Nat.le_trans (Nat.pow_le_pow_right (by omega) hK.2) (by decide)
                refine ⟨?_, by omega⟩
                rw [k8 _ _ (by omega) (by omega) (by omega)]
                exact Y4 c1 r hc1 hr) (fun r hr hbit => by
                rw [hJ r (by omega)]
                rw [hbits r hr] at hbit
                exact (bh_ST_at hV s hc1 hr hk).2.1 hbit)
              rw [e9, ov_s, nI_add, lt_r, nI_1]
              refine hk8 hc1 _ _ ⟨rfl, fun c' r k' h1 h2 h3 => ?_, bh_Ft F8 (bh_Fm F9 (fun a q h => by
                obtain ⟨h1, r, h2, -, h3⟩ := h
                omega))⟩
              by_cases hh : c' = c1 ∧ k' = k ∧ r < R ∧ bh_dg (bh_LY c R E K z s c1 r) k = 1
              · obtain ⟨rfl, rfl, hr, hbit⟩ := hh
                rw [p9 r hr (by rw [hbits r hr]; exact hbit), if_pos ⟨hc1, hr, Or.inr ⟨rfl, by omega⟩⟩, hJ r (by omega)]
                unfold bh_ST
                rw [if_pos hbit]
                rfl
              · rw [F9.1 _ _ (fun h => by
                  obtain ⟨-, r2, g1, g2, g3⟩ := h
                  rw [hbits r2 g1] at g2
                  have : c' = c1 ∧ r = r2 ∧ k' = k := by omega
                  obtain ⟨rfl, rfl, rfl⟩ := this
                  exact hh ⟨rfl, rfl, g1, g2⟩), S8 c' r k' h1 h2 h3]
                by_cases h4 : c' < c ∧ r < R ∧ (k' < k ∨ (k' = k ∧ c' < c1))
                · rw [if_pos h4, if_pos ⟨h4.1, h4.2.1, by omega⟩]
                · rw [if_neg h4]
                  by_cases h5 : c' = c1 ∧ k' = k ∧ r < R
                  · obtain ⟨rfl, rfl, hr⟩ := h5
                    rw [if_pos ⟨hc1, hr, Or.inr ⟨rfl, by omega⟩⟩, bh_ST_0 (fun h => hh ⟨rfl, rfl, hr, h⟩)]
                  · rw [if_neg (by omega)]
            · have hc12 : c1 = c := by omega
              subst hc12
              rw [if_pos (nI_le (by omega) (by omega)), nI_1]
              refine hk6 hk G8 ⟨?_, fun c' r k' h1 h2 h3 => ?_, bh_Ft F6 (bh_Ft (bh_Fm F7 (fun a q h => by omega)) (bh_Fm F8 (fun a q h => by omega)))⟩
              · rw [F8.2.1 _ _ (by omega), x7, ← bh_XK_succ]
              · rw [S8 c' r k' h1 h2 h3]
                by_cases h4 : c' < c1 ∧ r < R ∧ k' < k + 1
                · rw [if_pos h4, if_pos ⟨h4.1, h4.2.1, by omega⟩]
                · rw [if_neg h4, if_neg (by omega)]
          · rw [F7.1 _ _ (by omega), S6 c' r k' h1 h2 h3]
            by_cases h4 : c' < c ∧ r < R ∧ k' < k
            · rw [if_pos h4, if_pos ⟨h4.1, h4.2.1, by omega⟩]
            · rw [if_neg h4, if_neg (by omega)]
        · have hk2 : k = K := by omega
          subst hk2
          rw [if_pos (nI_le (by omega) (by omega))]
          exact ⟨G6, rfl, S6, by rw [k6 _ _ (by omega) (by omega) (by omega)]; exact m4, FF6⟩
      · rw [if_neg (by omega), show 45 * b + 15 * c' + 5 * r + k' = 45 * b + (15 * c' + 5 * r + k') from by omega]
        exact q5 _ (by omega)
