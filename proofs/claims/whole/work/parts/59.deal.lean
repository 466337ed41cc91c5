/-! the class deals: plan, draws, mixing, hands -/
theorem bh_np_sum {L : List Nat} {C PS : Nat} (hC : 1 ≤ C) : bh_sm (bh_pb L C PS) L.length = (bh_sq L C PS).length := by
  obtain ⟨C', rfl⟩ : ∃ C', C = C' + 1 := ⟨C - 1, by omega⟩
  unfold bh_sq
  rw [List.length_flatMap]
  show _ = (L.map fun p => (if bh_ct PS p = true then (bh_sq L C' (PS - p)).map (p :: ·) else []).length).sum
  rw [bh_map_sum]
  refine bh_sm_congr fun i _ => ?_
  unfold bh_pb
  rw [if_neg (by omega)]
  split
  · rw [List.length_map]; rfl
  · rfl
theorem bh_PSok {K : Nat} {z : Nat → Nat} (hK : K ≤ 5) (hz : ∀ k, k < K → z k ≤ 15) : bh_ok K 15 (bh_PS K z) := by
  have hPS := bh_sm_pk (z := z) hK (fun k hk => by have := hz k hk; omega)
  refine ⟨hPS.1, fun k hk => ?_, fun k hk hk5 => ?_⟩
  · have := hPS.2 k hk
    unfold bh_PS
    rw [this]
    by_cases hk2 : k < K
    · rw [if_pos hk2]; exact hz k hk2
    · rw [if_neg hk2]; omega
  · have := hPS.2 k hk5
    unfold bh_PS
    rw [this, if_neg (by omega)]
theorem bh_putPlan {G : GM} {f C R E K : Nat} {z : Nat → Nat} (hF : bh_FO G f C R E K z) (hC : 1 ≤ C ∧ C ≤ 3) (hR : R ≤ 3) (hE : E ≤ 5) (hK : K ≤ 5) (hz : ∀ k, k < K → z k ≤ 15) {idx row : Nat} {l : List Nat} (hi : (bh_pl C R E K z)[idx]? = some l) (hrow : row < f ∨ f + 7 < row) (hln : LN row = 3) : ∃ G', f_X4_putPlan f (nI idx) row G = some G' ∧ (∀ c, c < C → gI G' row c = nI (l.getD c 0)) ∧ bh_F (fun a k => a = row ∧ k < C) G G' := by
  have hL := bh_mx_PL (E := E) hK hR hE
  have hlen := hL.1
  have hPSok := bh_PSok hK hz
  have hRE : R * E ≤ 15 := Nat.mul_le_mul hR hE
  obtain ⟨C', rfl⟩ : ∃ C', C = C' + 1 := ⟨C - 1, by omega⟩
  have hidx : idx < 1000000 := by
    have h1 := (List.getElem?_eq_some_iff.mp hi).1
    have h2 := bh_sq_len hlen (C' + 1) (bh_PS K z)
    have h3 : 64 ^ (C' + 1) ≤ 64 ^ 3 := Nat.pow_le_pow_right (by omega) hC.2
    unfold bh_pl at h1
    omega
  obtain ⟨⟨f0, -, -, -⟩, ⟨-, f7, -⟩, -, fM, -, fB⟩ := hF
  unfold bh_pl bh_sq at hi
  unfold f_X4_putPlan
  refine wl2_up (P := fun o => ∃ G', o = some G' ∧ (∀ c, c < C' + 1 → gI G' row c = nI (l.getD c 0)) ∧ bh_F (fun a k => a = row ∧ k < C' + 1) G G') (I := fun i y G' => G' = G ∧ ∃ a, y = nI a ∧ a < 1000000 ∧ (((bh_mx K R (R * E)).drop i).flatMap fun p => if bh_ct (bh_PS K z) p then (bh_sq (bh_mx K R (R * E)) C' (bh_PS K z - p)).map (p :: ·) else [])[a]? = some l) (N := (bh_mx K R (R * E)).length) (by omega) ?_ (n := FU) (i := 0) (Nat.zero_le _) ⟨rfl, idx, rfl, hidx, hi⟩ (by unfold FU; omega)
  rintro kc i _ G' hi' ⟨rfl, a, rfl, ha, hs⟩ hk
  unfold lp_X4_putPlan_5
  rw [fM.1]
  by_cases hiL : i < (bh_mx K R (R * E)).length
  · have hp := hL.2.1 _ (bh_getD_mem hiL)
    have hb := bh_pb_le (L := bh_mx K R (R * E)) hlen (C := C' + 1) (PS := bh_PS K z) (i := i) hC.2
    have hbe : bh_pb (bh_mx K R (R * E)) (C' + 1) (bh_PS K z) i = (if bh_ct (bh_PS K z) ((bh_mx K R (R * E)).getD i 0) then (bh_sq (bh_mx K R (R * E)) C' (bh_PS K z - (bh_mx K R (R * E)).getD i 0)).map ((bh_mx K R (R * E)).getD i 0 :: ·) else []).length := by
      unfold bh_pb
      rw [if_neg (by omega)]
      split
      · rw [List.length_map]; rfl
      · rfl
    rw [bh_drop_cons hiL] at hs
    rw [if_neg (nI_ge hiL (by omega)), inb_n (by omega) (by omega), gd_t, nI_clamp (by omega), fB i hiL]
    by_cases hba : bh_pb (bh_mx K R (R * E)) (C' + 1) (bh_PS K z) i ≤ a
    · rw [if_pos (nI_le hba (by omega))]
      unfold k_X4_putPlan_78
      rw [inb_n (by omega) (by omega), gd_t, nI_clamp (by omega), fB i hiL, pk_sub hba, lt_r, nI_1]
      refine hk hiL _ _ ⟨rfl, _, rfl, by omega, ?_⟩
      rw [bh_fm_miss (by rw [← hbe]; exact hba), ← hbe] at hs
      exact hs
    · rw [bh_fm_hit (by rw [← hbe]; omega)] at hs
      rw [if_neg (by rw [nI_leI (by omega) (by omega)]; exact hba), hln, if_neg (by decide), gd_t, show inb (0 : Int32) 3 = true from by decide, gd_t, lt_r, gd_t, fM.2.2.2.2.2 i hiL, show (0 : Int32).toNatClampNeg = 0 from by decide, gI_sIa (by omega), gI_sIa (by omega), gI_sIa (by omega), f0, f7, fM.2.2.2.2.2 i hiL, show nI (C' + 1) - (1 : Int32) = nI C' from nI_pred _]
      by_cases hc : bh_ct (bh_PS K z) ((bh_mx K R (R * E)).getD i 0) = true
      · obtain ⟨o1, o2, -⟩ := bh_ok_sub hPSok hp.1 hc
        rw [if_pos hc, List.getElem?_map] at hs
        obtain ⟨t, ht, he⟩ := Option.map_eq_some_iff.mp hs
        subst he
        have F1 : bh_F (fun a k => a = row ∧ k < C' + 1) G' (sI G' row 0 (nI ((bh_mx K R (R * E)).getD i 0))) := bh_FI (bh_Fr _ _) ⟨rfl, by omega⟩
        have hPO : bh_PO (sI G' row 0 (nI ((bh_mx K R (R * E)).getD i 0))) (f + 3) K 1 R (R * E) (bh_mx K R (R * E)) := bh_PO_F fM F1 (fun k _ _ => by omega) (fun k => by omega)
        obtain ⟨G2, e2, q2, F2⟩ := bh_pick hPO hL hK (by omega) (by omega) (by omega) (left := C') (row := row) (fro := 1) (by omega) o1 ht (by omega) (by omega) (by omega)
        rw [pk_sub o2, show (1 : Int32) = nI 1 from rfl, e2, ov_s]
        refine ⟨G2, rfl, fun c hc => ?_, bh_Ft F1 (bh_Fm F2 (fun a k h => by omega))⟩
        by_cases hc0 : c = 0
        · subst hc0
          rw [F2.1 _ _ (by omega), gI_sIs]; rfl
        · obtain ⟨c', rfl⟩ : ∃ c', c = 1 + c' := ⟨c - 1, by omega⟩
          rw [q2 c' (by omega), Nat.add_comm 1 c']; rfl
      · rw [if_neg hc] at hs
        cases hs
  · rw [List.drop_eq_nil_of_le (by omega)] at hs
    cases hs
theorem bh_JJ (G : GM) (a k : Nat) (v w : Int64) : sJ (sJ G a k v) a k w = sJ G a k w := by
  have : up2 (up2 G.2.1 a k v) a k w = up2 G.2.1 a k w := by
    funext a' k'
    unfold up2
    by_cases h : a' = a
    · by_cases h2 : k' = k <;> simp [h, h2]
    · simp [h]
  unfold sJ
  simp only [this]
theorem bh_Js (G : GM) (a k : Nat) (v : Int64) : gJ (sJ G a k v) a k = v := by rw [gJ_sJ, if_pos ⟨rfl, rfl⟩]
theorem bh_rn {Y : Nat} (h : Y < 2147483648) : (((1103515245 : Int64) * lN Y) + (12345 : Int64)) - (((1103515245 : Int64) * lN Y) + (12345 : Int64)) / (2147483648 : Int64) * (2147483648 : Int64) = lN (bh_dN Y) := by
  rw [show (1103515245 : Int64) = lN 1103515245 from rfl, show (12345 : Int64) = lN 12345 from rfl, show (2147483648 : Int64) = lN 2147483648 from rfl, lN_mul, lN_add, pk_lRem (by omega) (by omega) (by omega)]
  rfl
theorem bh_rv {X n : Nat} (hn : 0 < n) (hn2 : n < 2 ^ 31) : ((((32768 : Int64) * (lN (bh_dN X) / (65536 : Int64))) + (lN (bh_dN (bh_dN X)) / (65536 : Int64))) - (((32768 : Int64) * (lN (bh_dN X) / (65536 : Int64))) + (lN (bh_dN (bh_dN X)) / (65536 : Int64))) / ((nI n).toInt64) * ((nI n).toInt64)).toInt32 = nI (bh_dV X n) := by
  have h1 := bh_dN_lt X
  have h2 := bh_dN_lt (bh_dN X)
  rw [show (32768 : Int64) = lN 32768 from rfl, show (65536 : Int64) = lN 65536 from rfl, pk_lDiv (by omega) (by omega) (by omega), pk_lDiv (by omega) (by omega) (by omega), lN_mul, lN_add, nI_l hn2, pk_lRem (by omega) hn (by omega), lN_i]
  rfl
theorem bh_l0 {n : Nat} (hn : 0 < n) (hn2 : n < 2 ^ 31) : ¬ (nI n).toInt64 = 0 := by
  rw [nI_l hn2, show (0 : Int64) = lN 0 from rfl, pk_lEQ (by omega) (by omega)]; omega
theorem bh_below {G : GM} {v X n : Nat} (hX : X < 2147483648) (hg : gJ G v 0 = lN X) (hn : 0 < n) (hn2 : n < 2 ^ 31) : f_X3_below v (nI n) G = some (nI (bh_dV X n), sJ G v 0 (lN (bh_d2 X))) := by
  unfold f_X3_below
  rw [hg, bh_rn hX, lt_r, bh_Js, lt_r, bh_rn (bh_dN_lt X), lt_r, bh_Js, lt_r, if_pos (show (1 : Int32) ≤ nI n from nI_le (a := 1) hn hn2), gd_d (bh_l0 hn hn2), bh_rv hn hn2, bh_JJ]
  rfl
theorem bh_drawn {G : GM} {X n : Nat} (hX : X < 2147483648) (hg : gJ G 186 33 = lN X) (hn : 0 < n) (hn2 : n < 2 ^ 31) : f_X10_drawn (nI n) G = some (nI (bh_dV X n), sJ G 186 33 (lN (bh_d2 X))) := by
  unfold f_X10_drawn
  rw [hg, bh_rn hX, lt_r, bh_Js, lt_r, bh_rn (bh_dN_lt X), lt_r, bh_Js, gd_d (bh_l0 hn hn2), bh_rv hn hn2, bh_JJ]
  rfl
theorem bh_mixC {G : GM} {d v n X : Nat} {a : Nat → Nat} (hX : X < 2147483648) (hg : gJ G d 0 = lN X) (ha : ∀ i, i < n → gI G v i = nI (a i)) (hn : n ≤ LN v) (hn2 : LN v < 1000) : ∃ G', f_X3_mix d v (nI n) G = some G' ∧ (∀ i, i < n → gI G' v i = nI (bh_mix (n - 1) X a i)) ∧ gJ G' d 0 = lN (bh_it (n - 1) X) ∧ bh_F (fun a k => (a = v ∧ k < n) ∨ (a = d ∧ k = 0)) G G' := by
  unfold f_X3_mix
  rw [lt_r]
  by_cases hn0 : n = 0
  · subst hn0
    refine ⟨G, ?_, fun i hi => absurd hi (Nat.not_lt_zero _), hg, bh_Fr _ _⟩
    show wl1 (99999 + 1) _ _ _ = _
    rw [wl1_s]
    unfold lp_X3_mix_4
    rw [if_pos (by decide)]
  obtain ⟨m, rfl⟩ : ∃ m, n = m + 1 := ⟨n - 1, by omega⟩
  rw [bh_m1]
  refine wl1_P (P := fun o => ∃ G', o = some G' ∧ (∀ i, i < m + 1 → gI G' v i = nI (bh_mix (m + 1 - 1) X a i)) ∧ gJ G' d 0 = lN (bh_it (m + 1 - 1) X) ∧ bh_F (fun a k => (a = v ∧ k < m + 1) ∨ (a = d ∧ k = 0)) G G') (I := fun x G1 => ∃ p X' a', x = nI p ∧ p ≤ m ∧ X' < 2147483648 ∧ bh_mix p X' a' = bh_mix m X a ∧ bh_it p X' = bh_it m X ∧ gJ G1 d 0 = lN X' ∧ (∀ i, i < m + 1 → gI G1 v i = nI (a' i)) ∧ bh_F (fun a k => (a = v ∧ k < m + 1) ∨ (a = d ∧ k = 0)) G G1) (m := fun x _ => x.toNatClampNeg) ?_ FU (nI m) G ⟨m, X, a, rfl, Nat.le_refl _, hX, rfl, rfl, hg, ha, bh_Fr _ _⟩ (by rw [nI_clamp (by omega)]; unfold FU; omega)
  rintro kc _ G1 ⟨p, X', a', rfl, hp, hX', e1, e2, hg', ha', hF⟩ hk
  unfold lp_X3_mix_4
  match p, hp, e1, e2 with
  | 0, _, e1, e2 =>
    rw [if_pos (by decide)]
    refine ⟨G1, rfl, fun i hi => ?_, ?_, hF⟩
    · rw [ha' i hi]; exact congrArg nI (congrFun e1 i)
    · rw [hg']; exact congrArg lN e2
  | p + 1, hp, e1, e2 =>
    have hj : bh_dV X' (p + 2) < p + 2 := bh_dV_lt (by omega)
    rw [if_neg (nI_nle (by omega) (by omega)), show nI (p + 1) + (1 : Int32) = nI (p + 2) from nI_1 _, bh_below hX' hg' (by omega) (by omega), ob_s, oN, if_neg (by rw [nI_leI (by omega) (by omega)]; omega), inb_n (by omega) (by omega), gd_t, lt_r, inb_n (by omega) (by omega), gd_t, gd_t, lt_r, gd_t, lt_r, nI_clamp (by omega), nI_clamp (by omega), show nI (p + 1) + (-1 : Int32) = nI p from pk_m1 p]
    refine hk _ _ ⟨p, bh_d2 X', bh_sw a' (p + 1) (bh_dV X' (p + 2)), rfl, by omega, bh_d2_lt _, e1, e2, ?_, fun i hi => ?_, bh_FI (bh_FI (bh_FJ hF (Or.inr ⟨rfl, rfl⟩)) (Or.inl ⟨rfl, by omega⟩)) (Or.inl ⟨rfl, by omega⟩)⟩ (by rw [nI_clamp (by omega), nI_clamp (by omega)]; omega)
    · rw [gJ_sI, gJ_sI, bh_Js]
    · rw [gI_sI, gI_sI, gI_sJ, gI_sJ, gI_sJ, ha' _ (by omega), ha' _ (by omega), ha' _ hi]
      unfold bh_sw
      by_cases h1 : i = bh_dV X' (p + 2)
      · rw [if_pos ⟨rfl, h1⟩, if_pos h1]
      · rw [if_neg (fun q => h1 q.2), if_neg h1]
        by_cases h2 : i = p + 1
        · rw [if_pos ⟨rfl, h2⟩, if_pos h2]
        · rw [if_neg (fun q => h2 q.2), if_neg h2]
