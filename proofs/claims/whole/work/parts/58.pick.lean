/-! the i-th way, put to a row -/
theorem bh_pick {G : GM} {v K lo hi S : Nat} {L : List Nat} (h : bh_PO G v K lo hi S L) (hL : bh_PL L K lo hi S) (hK : K ≤ 5) (hlo : lo < 100) (hhi : hi < 100) (hS : S < 1000) {left whole idx row fro : Nat} {l : List Nat} (hl : left ≤ 3) (hw : bh_ok K 15 whole) (hgt : (bh_sq L left whole)[idx]? = some l) (hrow : row ≠ v ∧ row ≠ v + 1) (hln : fro + left ≤ LN row) (hln2 : LN row < 1000) : ∃ G', f_X6_pick v (nI left) (nI whole) (nI idx) row (nI fro) G = some G' ∧ (∀ q, q < left → gI G' row (fro + q) = nI (l.getD q 0)) ∧ bh_F (fun a k => a = row ∧ fro ≤ k ∧ k < fro + left) G G' := by
  have hlen := hL.1
  have hsq := bh_sq_len hlen left whole
  have hll : l.length = left := (bh_sq_mem (fun p hp => (hL.2.1 p hp).1) left hw.1 (List.mem_of_getElem? hgt)).1
  have hidx : idx < (bh_sq L left whole).length := (List.getElem?_eq_some_iff.mp hgt).1
  have h643 : 64 ^ left ≤ 64 ^ 3 := Nat.pow_le_pow_right (by omega) hl
  unfold f_X6_pick
  refine bh_wl3_up (P := fun o => ∃ G', o = some G' ∧ (∀ q, q < left → gI G' row (fro + q) = nI (l.getD q 0)) ∧ bh_F (fun a k => a = row ∧ fro ≤ k ∧ k < fro + left) G G') (I := fun j x y G1 => ∃ r a, x = nI r ∧ y = nI a ∧ bh_ok K 15 r ∧ a < 1000000 ∧ (bh_sq L (left - j) r)[a]? = some (l.drop j) ∧ (∀ q, q < j → gI G1 row (fro + q) = nI (l.getD q 0)) ∧ bh_F (fun a k => a = row ∧ fro ≤ k ∧ k < fro + left) G G1) (N := left) (by omega) ?_ (n := FU) (i := 0) (Nat.zero_le _) ⟨whole, idx, rfl, rfl, hw, by omega, hgt, fun q hq => absurd hq (Nat.not_lt_zero _), bh_Fr _ _⟩ (by unfold FU; omega)
  rintro kc j _ _ G1 hj ⟨r, a, rfl, rfl, hr, ha, hsome, hq, hF⟩ hk
  unfold lp_X6_pick_9
  by_cases hjl : j < left
  · rw [if_neg (nI_ge hjl (by omega)), nI_add, oN, if_neg (by rw [nI_leI (by omega) (by omega)]; omega)]
    have hPO : bh_PO G1 v K lo hi S L := bh_PO_F h hF (fun k _ _ q => hrow.1 q.1.symm) (fun k q => hrow.2 q.1.symm)
    have hr15 : ∀ k, k < 5 → bh_dg r k < 16 := fun k hk => by have := hr.2.1 k hk; omega
    obtain ⟨n, hn⟩ : ∃ n, left - j = n + 1 := ⟨left - j - 1, by omega⟩
    rw [hn] at hsome
    unfold bh_sq at hsome
    refine wl2_up (P := fun o => ∃ G', o = some G' ∧ (∀ q, q < left → gI G' row (fro + q) = nI (l.getD q 0)) ∧ bh_F (fun a k => a = row ∧ fro ≤ k ∧ k < fro + left) G G') (I := fun i y G2 => G2 = G1 ∧ ∃ a, y = nI a ∧ a < 1000000 ∧ ((L.drop i).flatMap fun p => if bh_ct r p then (bh_sq L n (r - p)).map (p :: ·) else [])[a]? = some (l.drop j)) (N := L.length) (by omega) ?_ (n := FU) (i := 0) (Nat.zero_le _) ⟨rfl, a, rfl, ha, hsome⟩ (by unfold FU; omega)
    rintro kc2 i _ G2 hi' ⟨rfl, a, rfl, ha, hs⟩ hk2
    unfold lp_X6_pick_29
    rw [hPO.1]
    by_cases hiL : i < L.length
    · have hp := hL.2.1 _ (bh_getD_mem hiL)
      rw [if_neg (nI_ge hiL (by omega)), inb_n (by omega) (by omega), gd_t, nI_clamp (by omega), hPO.2.2.2.2.2 i hiL, bh_canTake hr.1 hp.1 hr15 hp.2, ob_s]
      rw [bh_drop_cons hiL] at hs
      have hit : ∀ w, w = (if bh_ct r (L.getD i 0) then (bh_sq L n (r - L.getD i 0)).map (L.getD i 0 :: ·) else []).length → (k_X6_pick_77 v (nI left) (nI whole) (nI idx) row (nI fro) (nI r) (nI j) (nI a) (nI i) (nI w) kc kc2 G2 = kc2 (nI (a - w)) (nI (i + 1)) G2 ∧ w ≤ a) ∨ (a < w ∧ bh_ct r (L.getD i 0) = true ∧ (bh_sq L n (r - L.getD i 0))[a]? = some (l.drop (j + 1)) ∧ l.getD j 0 = L.getD i 0) := by
        intro w hw
        by_cases hwa : w ≤ a
        · refine Or.inl ⟨?_, hwa⟩
          unfold k_X6_pick_77
          rw [if_pos (nI_le hwa (by omega)), pk_sub hwa, lt_r, nI_1]
        · refine Or.inr ⟨by omega, ?_⟩
          rw [bh_fm_hit (by rw [← hw]; omega)] at hs
          by_cases hc : bh_ct r (L.getD i 0) = true
          · rw [if_pos hc, List.getElem?_map] at hs
            obtain ⟨t, ht, he⟩ := Option.map_eq_some_iff.mp hs
            rw [bh_drop_cons (by omega)] at he
            have h1 := (List.cons.inj he).1
            have h2 := (List.cons.inj he).2
            exact ⟨hc, by rw [ht, h2], h1.symm⟩
          · rw [if_neg hc] at hs
            cases hs
      have go : ∀ w, w = (if bh_ct r (L.getD i 0) then (bh_sq L n (r - L.getD i 0)).map (L.getD i 0 :: ·) else []).length → ∃ G', k_X6_pick_77 v (nI left) (nI whole) (nI idx) row (nI fro) (nI r) (nI j) (nI a) (nI i) (nI w) kc kc2 G2 = some G' ∧ (∀ q, q < left → gI G' row (fro + q) = nI (l.getD q 0)) ∧ bh_F (fun a k => a = row ∧ fro ≤ k ∧ k < fro + left) G G' := by
        intro w hw
        rcases hit w hw with ⟨e, hwa⟩ | ⟨hwa, hc, ht, hp2⟩
        · rw [e]
          refine hk2 hiL _ _ ⟨rfl, a - w, rfl, by omega, ?_⟩
          rw [bh_fm_miss (by omega)] at hs
          rw [hw]; exact hs
        · obtain ⟨o1, o2, -⟩ := bh_ok_sub hr hp.1 hc
          unfold k_X6_pick_77
          rw [if_neg (by rw [nI_leI (by
            have := bh_sq_len hlen n (r - L.getD i 0)
            have h64 : 64 ^ n ≤ 64 ^ 3 := Nat.pow_le_pow_right (by omega) (by omega)
            rw [hw, if_pos hc, List.length_map]; omega) (by omega)]; omega), inb_n (by omega) (by omega), gd_t, nI_add, inb_n (by omega) (by omega), gd_t, lt_r, gd_t, nI_clamp (by omega), nI_clamp (by omega), gI_sIa (by omega), hPO.2.2.2.2.2 i hiL, pk_sub o2, lt_r, nI_1]
          refine hk hjl _ _ _ ⟨_, _, rfl, rfl, o1, ha, ?_, fun q hq' => ?_, bh_FI hF ⟨rfl, by omega, by omega⟩⟩
          · rw [show left - (j + 1) = n from by omega]; exact ht
          · rw [gI_sI]
            by_cases hqj : q = j
            · subst hqj
              rw [if_pos ⟨rfl, rfl⟩, hp2]
            · rw [if_neg (by omega)]
              exact hq q (by omega)
      by_cases hc : bh_ct r (L.getD i 0) = true
      · obtain ⟨o1, o2, -⟩ := bh_ok_sub hr hp.1 hc
        obtain ⟨left', hleft'⟩ : ∃ left', left = left' + 1 := ⟨left - 1, by omega⟩
        rw [if_pos hc, if_neg (by decide), gd_t, show nI left - (1 : Int32) = nI left' from by rw [hleft']; exact nI_pred _, pk_sub (a := left') (b := j) (by omega), hPO.2.2.2.2.2 i hiL, pk_sub o2, bh_waysOf hPO hL hK hlo hhi hS 3 (left' - j) _ (by omega) (by omega) o1, ob_s]
        refine go _ ?_
        rw [if_pos hc, List.length_map, show left' - j = n from by omega]
      · rw [if_neg hc, if_pos rfl]
        refine go 0 ?_
        rw [if_neg hc]; rfl
    · rw [List.drop_eq_nil_of_le (by omega)] at hs
      cases hs
  · have hjl2 : j = left := by omega
    subst hjl2
    rw [if_pos (nI_le (by omega) (by omega))]
    exact ⟨G1, rfl, hq, hF⟩
/-! what follows from a hall's line -/
def bh_pb (L : List Nat) (C PS i : Nat) : Nat := if C = 0 then 0 else if bh_ct PS (L.getD i 0) = true then (bh_sq L (C - 1) (PS - L.getD i 0)).length else 0
/-- a form as it lies in memory -/
def bh_FO (G : GM) (f C R E K : Nat) (z : Nat → Nat) : Prop := (gI G f 0 = nI C ∧ gI G f 1 = nI R ∧ gI G f 2 = nI E ∧ gI G f 3 = nI K) ∧ (gI G f 6 = nI (bh_sm z K) ∧ gI G f 7 = nI (bh_PS K z) ∧ gI G f 8 = nI (bh_sm (bh_pb (bh_mx K R (R * E)) C (bh_PS K z)) (bh_mx K R (R * E)).length)) ∧ (∀ k, k < K → gI G (f + 1) k = nI (z k) ∧ gI G (f + 2) k = nI (1 + bh_sm z k)) ∧ bh_PO G (f + 3) K 1 R (R * E) (bh_mx K R (R * E)) ∧ bh_PO G (f + 6) K 0 1 E (bh_st K E) ∧ ∀ i, i < (bh_mx K R (R * E)).length → gI G (f + 5) i = nI (bh_pb (bh_mx K R (R * E)) C (bh_PS K z) i)
def bh_WF (f : Nat) (a k : Nat) : Prop := (a = f ∧ 6 ≤ k ∧ k ≤ 8) ∨ (f + 2 ≤ a ∧ a ≤ f + 7)
theorem bh_pb_le {L : List Nat} (hL : L.length ≤ 64) {C PS i : Nat} (hC : C ≤ 3) : bh_pb L C PS i ≤ 4096 := by
  unfold bh_pb
  split
  · omega
  · split
    · have := bh_sq_len hL (C - 1) (PS - L.getD i 0)
      have h64 : 64 ^ (C - 1) ≤ 64 ^ 2 := Nat.pow_le_pow_right (by omega) (by omega)
      omega
    · omega
theorem bh_sm_bd {f : Nat → Nat} {m : Nat} : ∀ {n : Nat}, (∀ i, i < n → f i ≤ m) → bh_sm f n ≤ n * m
  | 0, _ => by simp [bh_sm]
  | n + 1, h => by
    unfold bh_sm
    rw [Nat.succ_mul]
    have := bh_sm_bd (f := f) (m := m) (n := n) (fun i hi => h i (by omega))
    have := h n (by omega)
    omega
theorem bh_settle {G : GM} {f C R E K : Nat} {z : Nat → Nat} (hC : C ≤ 3) (hR : R ≤ 3) (hRK : 1 ≤ R ∨ K = 0) (hE : E ≤ 5) (hK : K ≤ 5) (hz : ∀ k, k < K → z k ≤ 15) (g0 : gI G f 0 = nI C) (g1 : gI G f 1 = nI R) (g2 : gI G f 2 = nI E) (g3 : gI G f 3 = nI K) (gz : ∀ k, k < K → gI G (f + 1) k = nI (z k)) : ∃ G', f_X4_settle f G = some G' ∧ bh_FO G' f C R E K z ∧ bh_F (bh_WF f) G G' := by
  have hL := bh_mx_PL hK hR hE
  have hRE : R * E ≤ 15 := Nat.mul_le_mul hR hE
  have hPS := bh_sm_pk (z := z) hK (fun k hk => by have := hz k hk; omega)
  have hPSok : bh_ok K 15 (bh_PS K z) := ⟨hPS.1, fun k hk => by
    have := hPS.2 k hk
    unfold bh_PS
    rw [this]
    by_cases hk2 : k < K
    · rw [if_pos hk2]; exact hz k hk2
    · rw [if_neg hk2]; omega, fun k hk hk5 => by
    have := hPS.2 k hk5
    unfold bh_PS
    rw [this, if_neg (by omega)]⟩
  have hPS15 : ∀ k, k < 5 → bh_dg (bh_PS K z) k < 16 := fun k hk => by have := hPSok.2.1 k hk; omega
  have hsz : ∀ k, k ≤ K → bh_sm z k ≤ k * 15 := fun k hk => bh_sm_bd fun i hi => hz i (by omega)
  unfold f_X4_settle
  rw [lt_r, lt_r]
  refine wl1_up (P := fun o => ∃ G', o = some G' ∧ bh_FO G' f C R E K z ∧ bh_F (bh_WF f) G G') (I := fun i G1 => gI G1 f 6 = nI (bh_sm z i) ∧ gI G1 f 7 = nI (bh_PS i z) ∧ (∀ k, k < i → gI G1 (f + 2) k = nI (1 + bh_sm z k)) ∧ bh_F (fun a k => (a = f ∧ 6 ≤ k ∧ k ≤ 7) ∨ a = f + 2) G G1) (N := K) (by omega) ?_ (n := FU) (i := 0) (Nat.zero_le _) ⟨by rw [gI_sIk (by omega), gI_sIs]; rfl, by rw [gI_sIs]; rfl, fun k hk => absurd hk (Nat.not_lt_zero _), bh_FI (bh_FI (bh_Fr _ _) (Or.inl ⟨rfl, by omega, by omega⟩)) (Or.inl ⟨rfl, by omega, by omega⟩)⟩ (by unfold FU; omega)
  rintro kc i G1 hi ⟨q1, q2, q3, q4⟩ hk
  have k0 : ∀ k, k ≤ 3 → gI G1 f k = gI G f k := fun k hk => q4.1 _ _ (by omega)
  have k1 : ∀ k, gI G1 (f + 1) k = gI G (f + 1) k := fun k => q4.1 _ _ (by omega)
  unfold lp_X4_settle_12
  rw [k0 3 (by omega), g3]
  by_cases hiK : i < K
  · have hzi := hz i hiK
    rw [if_neg (nI_ge hiK (by omega)), inb_n (by omega) (by omega), gd_t, lt_r, gd_t, nI_clamp (by omega), gI_sIa (by omega), gI_sIa (by omega), q1, k1, gz i hiK, nI_1, nI_add, lt_r, gd_t, gI_sIa (by omega), gI_sIa (by omega), k1, gz i hiK, bh_packed (by omega) (by omega), ob_s, gI_sIk (by omega), gI_sIa (by omega), q2, nI_add, lt_r, nI_1]
    refine hk hiK _ ⟨?_, ?_, fun k hk => ?_, bh_FI (bh_FI (bh_FI q4 (Or.inr rfl)) (Or.inl ⟨rfl, by omega, by omega⟩)) (Or.inl ⟨rfl, by omega, by omega⟩)⟩
    · rw [gI_sIk (by omega), gI_sIs]; rfl
    · rw [gI_sIs]; rfl
    · rw [gI_sIa (by omega), gI_sIa (by omega), gI_sI]
      by_cases hki : k = i
      · subst hki; rw [if_pos ⟨rfl, rfl⟩, Nat.add_comm]
      · rw [if_neg (by omega)]; exact q3 k (by omega)
  · have hiK2 : i = K := by omega
    subst hiK2
    rw [if_pos (nI_le (by omega) (by omega)), k0 1 (by omega), g1, k0 2 (by omega), g2]
    obtain ⟨G2, e2, p2, f2⟩ := bh_beMixes (v := f + 3) (K := i) (R := R) (E := E) G1 hK hR hRK hE
    rw [e2, ov_s, f2.1 _ _ (by unfold bh_WP; omega), k0 3 (by omega), g3, f2.1 _ _ (by unfold bh_WP; omega), k0 2 (by omega), g2]
    obtain ⟨G3, e3, p3, f3⟩ := bh_beSets (v := f + 6) (K := i) (E := E) G2 hK hE
    rw [e3, ov_s, lt_r]
    have p23 : bh_PO G3 (f + 3) i 1 R (R * E) (bh_mx i R (R * E)) := bh_PO_F p2 f3 (fun k _ _ => by unfold bh_WP; omega) (fun k => by unfold bh_WP; omega)
    have F3 : bh_F (bh_WF f) G (sI G3 f 8 0) := bh_FI (bh_Ft (bh_Ft (bh_Fm q4 (fun a k h => by unfold bh_WF; omega)) (bh_Fm f2 (fun a k h => by unfold bh_WP at h; unfold bh_WF; omega))) (bh_Fm f3 (fun a k h => by unfold bh_WP at h; unfold bh_WF; omega))) (Or.inl ⟨rfl, by omega, by omega⟩)
    refine wl1_up (P := fun o => ∃ G', o = some G' ∧ bh_FO G' f C R E i z ∧ bh_F (bh_WF f) G G') (I := fun j G4 => gI G4 f 8 = nI (bh_sm (bh_pb (bh_mx i R (R * E)) C (bh_PS i z)) j) ∧ (∀ q, q < j → gI G4 (f + 5) q = nI (bh_pb (bh_mx i R (R * E)) C (bh_PS i z) q)) ∧ bh_F (fun a k => (a = f ∧ k = 8) ∨ a = f + 5) G3 G4) (N := (bh_mx i R (R * E)).length) (by have := hL.1; omega) ?_ (n := FU) (i := 0) (Nat.zero_le _) ⟨by rw [gI_sIs]; rfl, fun q hq => absurd hq (Nat.not_lt_zero _), bh_FI (bh_Fr _ _) (Or.inl ⟨rfl, rfl⟩)⟩ (by have := hL.1; unfold FU; omega)
    rintro kc2 j G4 hj ⟨r1, r2, r3⟩ hk2
    have hlen := hL.1
    have P4 : bh_PO G4 (f + 3) i 1 R (R * E) (bh_mx i R (R * E)) := bh_PO_F p23 r3 (fun k _ _ => by omega) (fun k => by omega)
    have P4b : bh_PO G4 (f + 6) i 0 1 E (bh_st i E) := bh_PO_F p3 r3 (fun k _ _ => by omega) (fun k => by omega)
    have g7 : gI G4 f 7 = nI (bh_PS i z) := by
      rw [r3.1 _ _ (by omega), f3.1 _ _ (by unfold bh_WP; omega), f2.1 _ _ (by unfold bh_WP; omega)]; exact q2
    have gs : ∀ k, k ≤ 3 → gI G4 f k = gI G f k := fun k hk => by
      rw [r3.1 _ _ (by omega), f3.1 _ _ (by unfold bh_WP; omega), f2.1 _ _ (by unfold bh_WP; omega)]; exact k0 k hk
    unfold lp_X4_settle_113
    rw [P4.1]
    by_cases hjL : j < (bh_mx i R (R * E)).length
    · have hp := hL.2.1 _ (bh_getD_mem hjL)
      have hbd := bh_sm_bd (f := bh_pb (bh_mx i R (R * E)) C (bh_PS i z)) (m := 4096) (n := j) (fun q _ => bh_pb_le hlen hC)
      have hbj := bh_pb_le (L := bh_mx i R (R * E)) hlen (C := C) (PS := bh_PS i z) (i := j) hC
      rw [if_neg (nI_ge hjL (by omega)), inb_n (by omega) (by omega), gd_t, nI_clamp (by omega), P4.2.2.2.2.2 j hjL, g7, lt_r, gd_t, bh_canTake hPSok.1 hp.1 hPS15 hp.2, ob_s]
      have go : ∀ w, w = bh_pb (bh_mx i R (R * E)) C (bh_PS i z) j → ∃ G', k_X4_settle_181 f (nI j) (nI w) (nI j) kc2 G4 = some G' ∧ bh_FO G' f C R E i z ∧ bh_F (bh_WF f) G G' := by
        intro w hw
        unfold k_X4_settle_181
        rw [inb_n (by omega) (by omega), gd_t, lt_r, gd_t, nI_clamp (by omega), gI_sIs, gI_sIa (by omega), r1, nI_add, lt_r, nI_1]
        refine hk2 hjL _ ⟨?_, fun q hq => ?_, bh_FI (bh_FI r3 (Or.inr rfl)) (Or.inl ⟨rfl, rfl⟩)⟩
        · rw [gI_sIs, hw]; rfl
        · rw [gI_sIa (by omega), gI_sI]
          by_cases hqj : q = j
          · subst hqj; rw [if_pos ⟨rfl, rfl⟩, hw]
          · rw [if_neg (by omega)]; exact r2 q (by omega)
      by_cases hc : bh_ct (bh_PS i z) ((bh_mx i R (R * E)).getD j 0) = true
      · obtain ⟨o1, o2, -⟩ := bh_ok_sub hPSok hp.1 hc
        rw [if_pos hc, if_neg (by decide), gs 0 (by omega), g0, pk_sub o2]
        by_cases hC0 : C = 0
        · subst hC0
          have e : ∀ r, f_X6_waysOf 4 (f + 3) (nI 0 - 1) r G4 = some (nI 0, G4) := fun r => by
            unfold f_X6_waysOf fb_X6_waysOf k_X6_waysOf_10
            rw [if_pos (by decide), if_neg (by decide)]; rfl
          rw [e, ob_s]
          exact go 0 (by unfold bh_pb; rw [if_pos rfl])
        · obtain ⟨C', rfl⟩ : ∃ C', C = C' + 1 := ⟨C - 1, by omega⟩
          rw [show nI (C' + 1) - (1 : Int32) = nI C' from nI_pred _, bh_waysOf P4 hL hK (by omega) (by omega) (by omega) 3 C' _ (by omega) (by omega) o1, ob_s]
          refine go _ ?_
          unfold bh_pb
          rw [if_neg hC0, if_pos hc]; rfl
      · rw [if_neg hc, if_pos rfl]
        refine go 0 ?_
        unfold bh_pb
        by_cases hC0 : C = 0
        · rw [if_pos hC0]
        · rw [if_neg hC0, if_neg hc]
    · have hjL2 : j = (bh_mx i R (R * E)).length := by omega
      subst hjL2
      rw [if_pos (nI_le (by omega) (by omega))]
      have g6 : gI G4 f 6 = nI (bh_sm z i) := by
        rw [r3.1 _ _ (by omega), f3.1 _ _ (by unfold bh_WP; omega), f2.1 _ _ (by unfold bh_WP; omega)]; exact q1
      refine ⟨G4, rfl, ⟨⟨?_, ?_, ?_, ?_⟩, ⟨g6, g7, r1⟩, fun k hk => ⟨?_, ?_⟩, P4, P4b, r2⟩, ?_⟩
      · rw [gs 0 (by omega)]; exact g0
      · rw [gs 1 (by omega)]; exact g1
      · rw [gs 2 (by omega)]; exact g2
      · rw [gs 3 (by omega)]; exact g3
      · rw [r3.1 _ _ (by omega), f3.1 _ _ (by unfold bh_WP; omega), f2.1 _ _ (by unfold bh_WP; omega), k1]; exact gz k hk
      · rw [r3.1 _ _ (by omega), f3.1 _ _ (by unfold bh_WP; omega), f2.1 _ _ (by unfold bh_WP; omega)]; exact q3 k hk
      · refine bh_Ft (bh_Ft (bh_Ft (bh_Fm q4 (fun a k h => by unfold bh_WF; omega)) (bh_Fm f2 (fun a k h => by unfold bh_WP at h; unfold bh_WF; omega))) (bh_Fm f3 (fun a k h => by unfold bh_WP at h; unfold bh_WF; omega))) (bh_Fm r3 (fun a k h => by unfold bh_WF; omega))
