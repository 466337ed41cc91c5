/-! the class deals a STRIP -/
theorem bh_dealCol {G : GM} {d f t C R E K s k : Nat} {z : Nat → Nat} (hV : bh_VH C R E K z) (hF : bh_FO G f C R E K z) (hk : k < K) (hP : ∀ c, c < C → gI G (d + 2) c = nI (bh_P C R E K z s c)) (hY : ∀ c, c < C → ∀ r, r < R → gI G (d + 3) (c * R + r) = nI (bh_LY C R E K z s c r)) (hM : ∀ i, i < z k → gI G (d + 4) i = nI (bh_MX C z s k i)) (hl5 : LN (d + 5) = 3) (ht : LN t = 45) (htd : t < d ∨ d + 5 < t) (hfd : d + 5 < f ∨ f + 7 < d) (htf : t < f ∨ f + 7 < t) : ∃ G', f_X2_dealColumn d f (nI k) t G = some G' ∧ (∀ c, c < C → ∀ r, r < R → bh_dg (bh_LY C R E K z s c r) k = 1 → gI G' t (bh_at R K c r k) = nI (bh_ST C R E K z s c r k)) ∧ bh_F (fun a q => (a = t ∧ ∃ c r, c < C ∧ r < R ∧ bh_dg (bh_LY C R E K z s c r) k = 1 ∧ q = bh_at R K c r k) ∨ a = d + 5) G G' := by
  have hPin := bh_P_in hV s
  have hV' := hV
  obtain ⟨hC, hR, hE, hK, hEK, hz, hsum, hnp⟩ := hV'
  have f0 := hF.1.1
  have f1 := hF.1.2.1
  have f3 := hF.1.2.2.2
  have hzk := hz k hk
  have hOC := hPin.2 k hk
  unfold f_X2_dealColumn
  refine wl2_up (P := fun o => ∃ G', o = some G' ∧ (∀ c, c < C → ∀ r, r < R → bh_dg (bh_LY C R E K z s c r) k = 1 → gI G' t (bh_at R K c r k) = nI (bh_ST C R E K z s c r k)) ∧ bh_F (fun a q => (a = t ∧ ∃ c r, c < C ∧ r < R ∧ bh_dg (bh_LY C R E K z s c r) k = 1 ∧ q = bh_at R K c r k) ∨ a = d + 5) G G') (I := fun c w G1 => w = nI (bh_OF C R E K z s c k) ∧ (∀ c', c' < c → ∀ r, r < R → bh_dg (bh_LY C R E K z s c' r) k = 1 → gI G1 t (bh_at R K c' r k) = nI (bh_ST C R E K z s c' r k)) ∧ bh_F (fun a q => (a = t ∧ ∃ c r, c < C ∧ r < R ∧ bh_dg (bh_LY C R E K z s c r) k = 1 ∧ q = bh_at R K c r k) ∨ a = d + 5) G G1) (N := C) (by omega) ?_ (n := FU) (i := 0) (Nat.zero_le _) ⟨rfl, fun c hc => absurd hc (Nat.not_lt_zero _), bh_Fr _ _⟩ (by unfold FU; omega)
  rintro kc c _ G1 hc' ⟨rfl, q1, hF1⟩ hkk
  have keep : ∀ a q, a ≠ t → a ≠ d + 5 → gI G1 a q = gI G a q := fun a q h1 h2 => hF1.1 _ _ (fun h => by rcases h with h | h; exact h1 h.1; exact h2 h)
  unfold lp_X2_dealColumn_6
  rw [keep f 0 (by omega) (by omega), f0]
  by_cases hc : c < C
  · obtain ⟨-, -, hn3, hOF⟩ := bh_ST_at hV s hc (r := 0) (by omega) hk
    have hPc := bh_mx_in K (by omega) R (by omega) E (by omega) _ (hPin.1 c hc)
    have hOF1 : bh_OF C R E K z s (c + 1) k = bh_OF C R E K z s c k + bh_dg (bh_P C R E K z s c) k := rfl
    have hOF2 : bh_OF C R E K z s (c + 1) k ≤ bh_OF C R E K z s C k := bh_sm_mono (by omega)
    rw [if_neg (nI_ge hc (by omega)), inb_n (by omega) (by omega), gd_t, nI_clamp (by omega), keep (d + 2) c (by omega) (by omega), hP c hc, bh_digit (by omega) (by omega), ob_s]
    refine wl2_up (P := fun o => ∃ G', o = some G' ∧ (∀ c, c < C → ∀ r, r < R → bh_dg (bh_LY C R E K z s c r) k = 1 → gI G' t (bh_at R K c r k) = nI (bh_ST C R E K z s c r k)) ∧ bh_F (fun a q => (a = t ∧ ∃ c r, c < C ∧ r < R ∧ bh_dg (bh_LY C R E K z s c r) k = 1 ∧ q = bh_at R K c r k) ∨ a = d + 5) G G') (I := fun i w G2 => w = nI (bh_OF C R E K z s c k + i) ∧ (∀ j, j < i → gI G2 (d + 5) j = nI (bh_MX C z s k (bh_OF C R E K z s c k + j))) ∧ bh_F (fun a _ => a = d + 5) G1 G2) (N := bh_dg (bh_P C R E K z s c) k) (by omega) ?_ (n := FU) (i := 0) (Nat.zero_le _) ⟨rfl, fun j hj => absurd hj (Nat.not_lt_zero _), bh_Fr _ _⟩ (by unfold FU; omega)
    rintro kc2 i _ G2 hi' ⟨rfl, q2, hF2⟩ hk2
    unfold lp_X2_dealColumn_31
    by_cases hi : i < bh_dg (bh_P C R E K z s c) k
    · rw [if_neg (nI_ge hi (by omega)), if_neg (by rw [show (3 : Int32) = nI 3 from rfl, nI_leI (by omega) (by omega)]; omega), if_neg (by rw [show (15 : Int32) = nI 15 from rfl, nI_leI (by omega) (by omega)]; omega), inb_n (by omega) (by omega), gd_t, inb_n (by omega) (by omega), gd_t, lt_r, nI_clamp (by omega), nI_clamp (by omega), nI_1, nI_1]
      refine hk2 hi _ _ ⟨rfl, fun j hj => ?_, bh_FI hF2 rfl⟩
      rw [gI_sI]
      by_cases hji : j = i
      · subst hji
        rw [if_pos ⟨rfl, rfl⟩, hF2.1 _ _ (by omega), keep (d + 4) _ (by omega) (by omega), hM _ (by omega)]
      · rw [if_neg (fun q => hji q.2)]
        exact q2 j (by omega)
    · have hi2 : i = bh_dg (bh_P C R E K z s c) k := by omega
      subst hi2
      rw [if_pos (nI_le (by omega) (by omega))]
      unfold k_X2_dealColumn_74
      have hMlt : ∀ i, i < bh_dg (bh_P C R E K z s c) k → bh_MX C z s k (bh_OF C R E K z s c k + i) < 2 ^ 31 := fun i hi => by
        have h1 := ((bh_mx0_prm (z k) (1 + bh_sm z k) (bh_XK C z s k)).1 (bh_OF C R E K z s c k + i) (by omega)).2
        have h2 : bh_sm z (k + 1) ≤ bh_sm z K := bh_sm_mono (by omega)
        have h3 : bh_sm z (k + 1) = bh_sm z k + z k := rfl
        have h4 : C * R * E ≤ 3 * 3 * 5 := Nat.mul_le_mul (Nat.mul_le_mul hC.2 hR.2) hE.2
        show bh_mx0 (z k) (1 + bh_sm z k) (bh_XK C z s k) _ < _
        omega
      obtain ⟨G3, e3, p3, hF3⟩ := bh_sort (v := d + 5) (n := bh_dg (bh_P C R E K z s c) k) (a := fun i => bh_MX C z s k (bh_OF C R E K z s c k + i)) hn3 (by omega) (fun i hi => ⟨q2 i hi, hMlt i hi⟩)
      have keep3 : ∀ a q, a ≠ t → a ≠ d + 5 → gI G3 a q = gI G a q := fun a q h1 h2 => by
        rw [hF3.1 _ _ (fun h => h2 h.1), hF2.1 _ _ h2, keep a q h1 h2]
      obtain ⟨G4, e4, p4, hF4⟩ := bh_layDown (G := G3) (d := d) (f := f) (t := t) (C := C) (R := R) (K := K) (c := c) (k := k) (n := bh_dg (bh_P C R E K z s c) k) (y := fun r => bh_LY C R E K z s c r) (h := bh_srt (bh_dg (bh_P C R E K z s c) k) (fun i => bh_MX C z s k (bh_OF C R E K z s c k + i))) (by rw [keep3 f 1 (by omega) (by omega)]; exact f1) (by rw [keep3 f 3 (by omega) (by omega)]; exact f3) hC.2 hR.2 hK.2 hc hk (fun r hr => ⟨by rw [keep3 (d + 3) _ (by omega) (by omega)]; exact hY c hc r hr, (bh_st_in K (by omega) E (by omega) _ ((bh_L_in hV s hc).1 r hr)).1, (bh_ST_at hV s hc hr hk).1⟩) p3 hn3 (fun r hr hd => (bh_ST_at hV s hc hr hk).2.1 hd) ht ⟨by omega, by omega, by omega⟩
      rw [e3, ov_s, e4, ov_s, nI_1]
      refine hkk hc _ _ ⟨rfl, fun c' hc' r hr hd => ?_, ?_⟩
      · by_cases hcc : c' = c
        · subst hcc
          rw [p4 r hr hd]
          unfold bh_ST bh_JR
          rw [if_pos hd]
        · rw [hF4.1 _ _ (fun h => by
            obtain ⟨-, r', hr', -, h⟩ := h
            exact hcc (bh_at_inj hr hr' hk hk h).1), hF3.1 _ _ (fun h => by omega), hF2.1 _ _ (by omega)]
          exact q1 c' (by omega) r hr hd
      · refine bh_Ft (bh_Ft (bh_Ft hF1 (bh_Fm hF2 (fun a q h => Or.inr h))) (bh_Fm hF3 (fun a q h => Or.inr h.1))) (bh_Fm hF4 (fun a q h => Or.inl ⟨h.1, ?_⟩))
        obtain ⟨-, r, h1, h2, h3⟩ := h
        exact ⟨c, r, hc, h1, h2, h3⟩
  · have hc2 : c = C := by omega
    subst hc2
    rw [if_pos (nI_le (by omega) (by omega))]
    exact ⟨G1, rfl, q1, hF1⟩
theorem bh_XK_succ (C : Nat) (z : Nat → Nat) (s k : Nat) : bh_XK C z s (k + 1) = bh_it (z k - 1) (bh_XK C z s k) := by
  unfold bh_XK
  rw [← bh_it_add]
  exact congrArg (fun n => bh_it n s) (Nat.add_assoc (1 + C) (bh_sm (fun j => z j - 1) k) (z k - 1)).symm
theorem bh_FO_F {W : Nat → Nat → Prop} {G G' : GM} {f C R E K : Nat} {z : Nat → Nat} (h : bh_FO G f C R E K z) (hF : bh_F W G G') (hw : ∀ a k, f ≤ a → a ≤ f + 7 → ¬ W a k) : bh_FO G' f C R E K z := by
  obtain ⟨⟨a0, a1, a2, a3⟩, ⟨a6, a7, a8⟩, az, aM, aS, aB⟩ := h
  have k0 : ∀ k, gI G' f k = gI G f k := fun k => hF.1 _ _ (hw f k (by omega) (by omega))
  refine ⟨⟨?_, ?_, ?_, ?_⟩, ⟨?_, ?_, ?_⟩, fun k hk => ⟨?_, ?_⟩, bh_PO_F aM hF (fun k _ _ => hw _ _ (by omega) (by omega)) (fun k => hw _ _ (by omega) (by omega)), bh_PO_F aS hF (fun k _ _ => hw _ _ (by omega) (by omega)) (fun k => hw _ _ (by omega) (by omega)), fun i hi => ?_⟩
  · rw [k0]; exact a0
  · rw [k0]; exact a1
  · rw [k0]; exact a2
  · rw [k0]; exact a3
  · rw [k0]; exact a6
  · rw [k0]; exact a7
  · rw [k0]; exact a8
  · rw [hF.1 _ _ (hw _ _ (by omega) (by omega))]; exact (az k hk).1
  · rw [hF.1 _ _ (hw _ _ (by omega) (by omega))]; exact (az k hk).2
  · rw [hF.1 _ _ (hw _ _ (by omega) (by omega))]; exact aB i hi
theorem bh_getL {l : List (List Nat)} {i : Nat} (h : i < l.length) : l[i]? = some (l.getD i []) := by
  rw [List.getD_eq_getElem?_getD, List.getElem?_eq_getElem h]; rfl
theorem bh_P_ok {C R E K : Nat} {z : Nat → Nat} (hV : bh_VH C R E K z) (s : Nat) {c : Nat} (hc : c < C) : bh_ok K 15 (bh_P C R E K z s c) := by
  have h := (bh_P_in hV s).1 c hc
  obtain ⟨hC, hR, hE, hK, -⟩ := hV
  have h2 := bh_mx_in K (by omega) R (by omega) E (by omega) _ h
  exact ⟨h2.1, fun k hk => by have := h2.2.1 k hk; omega, fun k h3 hk => h2.2.2 k hk h3⟩
/-- the memory of a strip of the class -/
def bh_SC (G : GM) (t C R E K : Nat) (z : Nat → Nat) (s : Nat) : Prop := (∀ c r k, c < C → r < R → k < K → gI G t (bh_at R K c r k) = nI (bh_ST C R E K z s c r k)) ∧ ∀ q, C * R * K ≤ q → q < 45 → gI G t q = 0
theorem bh_deal {G : GM} {d f t C R E K s : Nat} {z : Nat → Nat} (hV : bh_VH C R E K z) (hF : bh_FO G f C R E K z) (hs : s < 2147483648) (hl2 : LN (d + 2) = 3) (hl3 : LN (d + 3) = 9) (hl4 : LN (d + 4) = 15) (hl5 : LN (d + 5) = 3) (ht : LN t = 45) (htd : t < d ∨ d + 5 < t) (hfd : d + 5 < f ∨ f + 7 < d) (htf : t < f ∨ f + 7 < t) : ∃ G', f_X2_deal d f (nI s) t G = some G' ∧ bh_SC G' t C R E K z s ∧ bh_F (fun a _ => (d + 1 ≤ a ∧ a ≤ d + 5) ∨ a = t) G G' := by
  have hV' := hV
  obtain ⟨hC, hR, hE, hK, hEK, hz, hsum, hnp⟩ := hV'
  have hz15 : ∀ k, k < K → z k ≤ 15 := fun k hk => (hz k hk).2
  have hPin := bh_P_in hV s
  have hLs := bh_st_PL (K := K) (E := E) hK.2 hE.2
  have hlen := (bh_mx_PL (K := K) (R := R) (E := E) hK.2 hR.2 hE.2).1
  have hnpe : bh_sm (bh_pb (bh_mx K R (R * E)) C (bh_PS K z)) (bh_mx K R (R * E)).length = bh_np C R E K z := bh_np_sum hC.1
  have hnp2 : bh_np C R E K z ≤ 262144 := by
    have h2 := bh_sq_len hlen C (bh_PS K z)
    have h3 : 64 ^ C ≤ 64 ^ 3 := Nat.pow_le_pow_right (by omega) hC.2
    unfold bh_np bh_pl
    omega
  unfold f_X2_deal
  obtain ⟨G1, e1, F1, p1⟩ := bh_fill (b := t) G 0 (by omega)
  rw [e1, ov_s]
  have FO1 := bh_FO_F hF F1 (fun a k h1 h2 => by omega)
  unfold f_X2_drawnPlan f_X3_begin
  rw [lt_r, ov_s, nI_l (by omega), gI_sJ, FO1.2.1.2.2, hnpe, bh_below hs (bh_Js _ _ _ _) hnp (by omega), ob_s, ob_s, bh_JJ]
  have F2 : bh_F (fun a _ => (d + 1 ≤ a ∧ a ≤ d + 5) ∨ a = t) G (sJ G1 (d + 1) 0 (lN (bh_d2 s))) := bh_FJ (bh_Fm F1 (fun a k h => Or.inr h)) (Or.inl ⟨by omega, by omega⟩)
  have FO2 := bh_FO_F hF F2 (fun a k h1 h2 => by omega)
  obtain ⟨G3, e3, p3, F3⟩ := bh_putPlan (row := d + 2) FO2 hC hR.2 hE.2 hK.2 hz15 (bh_getL (i := bh_dV s (bh_np C R E K z)) (bh_dV_lt hnp)) (by omega) hl2
  rw [e3, ov_s]
  have hP3 : ∀ c, c < C → gI G3 (d + 2) c = nI (bh_P C R E K z s c) := p3
  have hx3 : gJ G3 (d + 1) 0 = lN (bh_it 1 s) := by
    rw [F3.2.1 _ _ (by omega), bh_Js]; rfl
  have hz3 : ∀ q, q < 45 → gI G3 t q = 0 := fun q hq => by
    rw [F3.1 _ _ (by omega), gI_sJ]; exact p1 q (by omega)
  have FF3 : bh_F (fun a _ => (d + 1 ≤ a ∧ a ≤ d + 5) ∨ a = t) G G3 := bh_Ft F2 (bh_Fm F3 (fun a k h => by omega))
  refine wl1_up (P := fun o => ∃ G', o = some G' ∧ bh_SC G' t C R E K z s ∧ bh_F (fun a _ => (d + 1 ≤ a ∧ a ≤ d + 5) ∨ a = t) G G') (I := fun c G4 => gJ G4 (d + 1) 0 = lN (bh_it (1 + c) s) ∧ (∀ c', c' < C → gI G4 (d + 2) c' = nI (bh_P C R E K z s c')) ∧ (∀ c', c' < c → ∀ r, r < R → gI G4 (d + 3) (c' * R + r) = nI (bh_LY C R E K z s c' r)) ∧ (∀ q, q < 45 → gI G4 t q = 0) ∧ bh_F (fun a _ => (d + 1 ≤ a ∧ a ≤ d + 5) ∨ a = t) G G4) (N := C) (by omega) ?_ (n := FU) (i := 0) (Nat.zero_le _) ⟨hx3, hP3, fun c hc => absurd hc (Nat.not_lt_zero _), hz3, FF3⟩ (by unfold FU; omega)
  rintro kc c G4 hc' ⟨x4, P4, Y4, Z4, F4⟩ hk
  have FO4 := bh_FO_F hF F4 (fun a k h1 h2 => by omega)
  unfold lp_X2_deal_22
  rw [FO4.1.1]
  by_cases hc : c < C
  · have hok := bh_P_ok hV s hc
    have hpos := bh_ls_pos K (by omega) R (by omega) E (by omega) hEK _ (hPin.1 c hc)
    have hbd : (bh_ls R E K (bh_P C R E K z s c)).length ≤ 262144 := by
      have h2 := bh_sq_len hLs.1 R (bh_P C R E K z s c)
      have h3 : 64 ^ R ≤ 64 ^ 3 := Nat.pow_le_pow_right (by omega) hR.2
      unfold bh_ls
      omega
    have hcR := bh_cR hC.2 hR.2 hc (r := R - 1) (by omega)
    have hXl : bh_it (1 + c) s < 2147483648 := bh_it_lt _ hs
    rw [if_neg (nI_ge hc (by omega)), inb_n (by omega) (by omega), gd_t, nI_clamp (by omega), P4 c hc, FO4.1.2.1, show nI R = nI R from rfl, bh_waysOf FO4.2.2.2.2.1 hLs hK.2 (by omega) (by omega) (by omega) 3 R _ hR.2 hR.2 hok, ob_s, gd_t]
    show ∃ G', (ob (f_X3_below (d + 1) (nI (bh_ls R E K (bh_P C R E K z s c)).length) G4) _) = some G' ∧ _
    rw [bh_below hXl x4 hpos (by omega), ob_s, FO4.1.2.1, P4 c hc, gI_sJ, FO4.1.2.1, pk_mul]
    have F5 : bh_F (fun a _ => (d + 1 ≤ a ∧ a ≤ d + 5) ∨ a = t) G (sJ G4 (d + 1) 0 (lN (bh_d2 (bh_it (1 + c) s)))) := bh_FJ F4 (Or.inl ⟨by omega, by omega⟩)
    have FO5 := bh_FO_F hF F5 (fun a k h1 h2 => by omega)
    obtain ⟨G6, e6, p6, F6⟩ := bh_pick FO5.2.2.2.2.1 hLs hK.2 (by omega) (by omega) (by omega) (left := R) (row := d + 3) (fro := c * R) hR.2 hok (bh_getL (l := bh_ls R E K (bh_P C R E K z s c)) (i := bh_LI C R E K z s c) (bh_dV_lt hpos)) (by omega) (by omega) (by omega)
    have e6' : f_X6_pick (f + 6) (nI R) (nI (bh_P C R E K z s c)) (nI (bh_dV (bh_it (1 + c) s) (bh_ls R E K (bh_P C R E K z s c)).length)) (d + 3) (nI (c * R)) (sJ G4 (d + 1) 0 (lN (bh_d2 (bh_it (1 + c) s)))) = some G6 := e6
    rw [e6', ov_s, nI_1]
    refine hk hc G6 ⟨?_, fun c' hc' => ?_, fun c' hc' r hr => ?_, fun q hq => ?_, bh_Ft F5 (bh_Fm F6 (fun a k h => by omega))⟩
    · rw [F6.2.1 _ _ (by omega), bh_Js, show 1 + (c + 1) = 1 + c + 1 from rfl, bh_it_add (1 + c) 1 s]; rfl
    · rw [F6.1 _ _ (by omega), gI_sJ]; exact P4 c' hc'
    · by_cases hcc : c' = c
      · subst hcc
        exact p6 r hr
      · have h1 := Nat.mul_le_mul_right R (show c' + 1 ≤ c from by omega)
        rw [Nat.succ_mul] at h1
        rw [F6.1 _ _ (by omega), gI_sJ]
        exact Y4 c' (by omega) r hr
    · rw [F6.1 _ _ (by omega), gI_sJ]; exact Z4 q hq
  · have hc2 : c = C := by omega
    subst hc2
    rw [if_pos (nI_le (by omega) (by omega))]
    refine wl1_up (P := fun o => ∃ G', o = some G' ∧ bh_SC G' t c R E K z s ∧ bh_F (fun a _ => (d + 1 ≤ a ∧ a ≤ d + 5) ∨ a = t) G G') (I := fun k G5 => gJ G5 (d + 1) 0 = lN (bh_XK c z s k) ∧ (∀ c', c' < c → gI G5 (d + 2) c' = nI (bh_P c R E K z s c')) ∧ (∀ c', c' < c → ∀ r, r < R → gI G5 (d + 3) (c' * R + r) = nI (bh_LY c R E K z s c' r)) ∧ (∀ c' r k', c' < c → r < R → k' < K → gI G5 t (bh_at R K c' r k') = nI (if k' < k then bh_ST c R E K z s c' r k' else 0)) ∧ (∀ q, c * R * K ≤ q → q < 45 → gI G5 t q = 0) ∧ bh_F (fun a _ => (d + 1 ≤ a ∧ a ≤ d + 5) ∨ a = t) G G5) (N := K) (by omega) ?_ (n := FU) (i := 0) (Nat.zero_le _) ⟨x4, P4, Y4, fun c' r k' h1 h2 h3 => ?_, fun q _ hq => Z4 q hq, F4⟩ (by unfold FU; omega)
    · rintro kc98 k G5 hk' ⟨x5, P5, Y5, S5, Z5, F5⟩ hkk
      have FO5 := bh_FO_F hF F5 (fun a k h1 h2 => by omega)
      unfold lp_X2_deal_98
      rw [FO5.1.2.2.2]
      by_cases hkK : k < K
      · have hzk := hz k hkK
        obtain ⟨gz1, gz2⟩ := FO5.2.2.1 k hkK
        rw [if_neg (nI_ge hkK (by omega)), inb_n (by omega) (by omega), gd_t, lt_r, nI_clamp (by omega), gz1]
        refine wl1_up (P := fun o => ∃ G', o = some G' ∧ bh_SC G' t c R E K z s ∧ bh_F (fun a _ => (d + 1 ≤ a ∧ a ≤ d + 5) ∨ a = t) G G') (I := fun i G6 => (∀ j, j < i → gI G6 (d + 4) j = nI (1 + bh_sm z k + j)) ∧ bh_F (fun a _ => a = d + 4) G5 G6) (N := z k) (by omega) ?_ (n := FU) (i := 0) (Nat.zero_le _) ⟨fun j hj => absurd hj (Nat.not_lt_zero _), bh_Fr _ _⟩ (by unfold FU; omega)
        rintro kc119 i G6 hi' ⟨q6, F6⟩ hk6
        unfold lp_X2_deal_119
        by_cases hi : i < z k
        · rw [if_neg (nI_ge hi (by omega)), if_neg (by rw [show (15 : Int32) = nI 15 from rfl, nI_leI (by omega) (by omega)]; omega), inb_n (by omega) (by omega), gd_t, inb_n (by omega) (by omega), gd_t, nI_clamp (n := i) (by omega), nI_clamp (n := k) (by omega), F6.1 _ _ (by omega), gz2, nI_add, lt_r, nI_1]
          refine hk6 hi _ ⟨fun j hj => ?_, bh_FI F6 rfl⟩
          rw [gI_sI]
          by_cases hji : j = i
          · rw [if_pos ⟨rfl, hji⟩, hji]
          · rw [if_neg (fun q => hji q.2)]; exact q6 j (by omega)
        · have hi2 : i = z k := by omega
          subst hi2
          rw [if_pos (nI_le (by omega) (by omega))]
          unfold k_X2_deal_156
          have hXl : bh_XK c z s k < 2147483648 := bh_it_lt _ hs
          obtain ⟨G7, e7, p7, x7, F7⟩ := bh_mixC (G := G6) (d := d + 1) (v := d + 4) (n := z k) (X := bh_XK c z s k) (a := fun i => 1 + bh_sm z k + i) hXl (by rw [F6.2.1 _ _ (by omega)]; exact x5) q6 (by omega) (by omega)
          rw [e7, ov_s]
          have F57 : bh_F (fun a _ => a = d + 4 ∨ a = d + 1) G5 G7 := bh_Ft (bh_Fm F6 (fun a k h => Or.inl h)) (bh_Fm F7 (fun a k h => by omega))
          have FF7 : bh_F (fun a _ => (d + 1 ≤ a ∧ a ≤ d + 5) ∨ a = t) G G7 := bh_Ft F5 (bh_Fm F57 (fun a k h => by omega))
          obtain ⟨G8, e8, p8, F8⟩ := bh_dealCol (G := G7) (d := d) (f := f) (t := t) (s := s) (k := k) hV (bh_FO_F hF FF7 (fun a k h1 h2 => by omega)) hkK (fun c' hc' => by rw [F57.1 _ _ (by omega)]; exact P5 c' hc') (fun c' hc' r hr => by rw [F57.1 _ _ (by omega)]; exact Y5 c' hc' r hr) p7 hl5 ht htd hfd htf
          rw [e8, ov_s, nI_1]
          have k8 : ∀ a q, a ≠ t → a ≠ d + 5 → gI G8 a q = gI G7 a q := fun a q h1 h2 => F8.1 _ _ (fun h => by rcases h with h | h; exact h1 h.1; exact h2 h)
          refine hkk hkK G8 ⟨?_, fun c' hc' => ?_, fun c' hc' r hr => ?_, fun c' r k' h1 h2 h3 => ?_, fun q h1 h2 => ?_, ?_⟩
          · rw [F8.2.1 _ _ (fun h => by rcases h with h | h; omega; omega), x7, ← bh_XK_succ]
          · rw [k8 _ _ (by omega) (by omega), F57.1 _ _ (by omega)]; exact P5 c' hc'
          · rw [k8 _ _ (by omega) (by omega), F57.1 _ _ (by omega)]; exact Y5 c' hc' r hr
          · by_cases hd : k' = k ∧ bh_dg (bh_LY c R E K z s c' r) k = 1
            · obtain ⟨rfl, hd⟩ := hd
              rw [p8 c' h1 r h2 hd, if_pos (by omega)]
            · rw [F8.1 _ _ (fun h => by
                rcases h with ⟨-, c2, r2, g1, g2, g3, g4⟩ | h
                · obtain ⟨j1, j2, j3⟩ := bh_at_inj h2 g2 h3 hkK g4
                  subst j1 j2 j3
                  exact hd ⟨rfl, g3⟩
                · omega), F57.1 _ _ (by omega), S5 c' r k' h1 h2 h3]
              by_cases hkk' : k' < k
              · rw [if_pos hkk', if_pos (by omega)]
              · rw [if_neg hkk']
                by_cases hke : k' = k
                · subst hke
                  rw [if_pos (by omega), bh_ST_0 (fun h => hd ⟨rfl, h⟩)]
                · rw [if_neg (by omega)]
          · rw [F8.1 _ _ (fun h => by
              rcases h with ⟨-, c2, r2, g1, g2, g3, g4⟩ | h
              · have := bh_at_lt g1 g2 hkK
                omega
              · omega), F57.1 _ _ (by omega)]
            exact Z5 q h1 h2
          · refine bh_Ft FF7 (bh_Fm F8 (fun a q h => ?_))
            rcases h with h | h
            · exact Or.inr h.1
            · exact Or.inl ⟨by omega, by omega⟩
      · have hk2 : k = K := by omega
        subst hk2
        rw [if_pos (nI_le (by omega) (by omega))]
        refine ⟨G5, rfl, ⟨fun c' r k' h1 h2 h3 => ?_, Z5⟩, F5⟩
        rw [S5 c' r k' h1 h2 h3, if_pos h3]
    · rw [if_neg (Nat.not_lt_zero _)]
      exact Z4 _ (Nat.lt_of_lt_of_le (bh_at_lt h1 h2 h3) (bh_CRK hC.2 hR.2 hK.2))
