/-! the reference: mixes, lays, makes -/
theorem bh_mixesM {G : GM} {n lo X : Nat} (hX : X < 2147483648) (hg : gJ G 186 33 = lN X) (hn : n ≤ 45) (hlo : lo < 1000) : ∃ G', f_X10_mixes (nI lo) (nI n) G = some G' ∧ (∀ i, i < n → gI G' 205 i = nI (bh_mx0 n lo X i)) ∧ gJ G' 186 33 = lN (bh_it (n - 1) X) ∧ bh_F (fun a q => a = 205 ∨ (a = 186 ∧ q = 33)) G G' := by
  unfold f_X10_mixes
  refine wl1_up (P := fun o => ∃ G', o = some G' ∧ (∀ i, i < n → gI G' 205 i = nI (bh_mx0 n lo X i)) ∧ gJ G' 186 33 = lN (bh_it (n - 1) X) ∧ bh_F (fun a q => a = 205 ∨ (a = 186 ∧ q = 33)) G G') (I := fun i G1 => (∀ j, j < i → gI G1 205 j = nI (lo + j)) ∧ bh_F (fun a _ => a = 205) G G1) (N := n) (by omega) ?_ (n := FU) (i := 0) (Nat.zero_le _) ⟨fun j hj => absurd hj (Nat.not_lt_zero _), bh_Fr _ _⟩ (by unfold FU; omega)
  rintro kc i G1 hi' ⟨q1, hF⟩ hk
  unfold lp_X10_mixes_2
  by_cases hi : i < n
  · rw [if_neg (nI_ge hi (by omega)), inb_n (by omega) (by omega), gd_t, nI_add, lt_r, nI_clamp (by omega), nI_1]
    refine hk hi _ ⟨fun j hj => ?_, bh_FI hF rfl⟩
    rw [gI_sI]
    by_cases hji : j = i
    · rw [if_pos ⟨rfl, hji⟩, hji]
    · rw [if_neg (fun q => hji q.2)]; exact q1 j (by omega)
  · have hi2 : i = n := by omega
    subst hi2
    rw [if_pos (nI_le (by omega) (by omega)), lt_r]
    have hg1 : gJ G1 186 33 = lN X := by rw [hF.2.1 _ _ (by omega)]; exact hg
    have hF1 : bh_F (fun a q => a = 205 ∨ (a = 186 ∧ q = 33)) G G1 := bh_Fm hF (fun a q h => Or.inl h)
    by_cases hn0 : i = 0
    · subst hn0
      refine ⟨G1, ?_, fun i hi => absurd hi (Nat.not_lt_zero _), hg1, hF1⟩
      show wl1 (99999 + 1) _ _ _ = _
      rw [wl1_s]
      unfold lp_X10_mixes_26
      rw [if_pos (by decide)]
    obtain ⟨m, rfl⟩ : ∃ m, i = m + 1 := ⟨i - 1, by omega⟩
    rw [bh_m1]
    refine wl1_P (P := fun o => ∃ G', o = some G' ∧ (∀ i, i < m + 1 → gI G' 205 i = nI (bh_mx0 (m + 1) lo X i)) ∧ gJ G' 186 33 = lN (bh_it (m + 1 - 1) X) ∧ bh_F (fun a q => a = 205 ∨ (a = 186 ∧ q = 33)) G G') (I := fun x G2 => ∃ p X' a', x = nI p ∧ p ≤ m ∧ X' < 2147483648 ∧ bh_mix p X' a' = bh_mx0 (m + 1) lo X ∧ bh_it p X' = bh_it m X ∧ gJ G2 186 33 = lN X' ∧ (∀ i, i < m + 1 → gI G2 205 i = nI (a' i)) ∧ bh_F (fun a q => a = 205 ∨ (a = 186 ∧ q = 33)) G G2) (m := fun x _ => x.toNatClampNeg) ?_ FU (nI m) G1 ⟨m, X, fun i => lo + i, rfl, Nat.le_refl _, hX, rfl, rfl, hg1, q1, hF1⟩ (by rw [nI_clamp (by omega)]; unfold FU; omega)
    rintro kc2 _ G2 ⟨p, X', a', rfl, hp, hX', e1, e2, hg', ha', hF2⟩ hk2
    unfold lp_X10_mixes_26
    match p, hp, e1, e2 with
    | 0, _, e1, e2 =>
      rw [if_pos (by decide)]
      refine ⟨G2, rfl, fun i hi => ?_, ?_, hF2⟩
      · rw [ha' i hi]; exact congrArg nI (congrFun e1 i)
      · rw [hg']; exact congrArg lN e2
    | p + 1, hp, e1, e2 =>
      have hj : bh_dV X' (p + 2) < p + 2 := bh_dV_lt (by omega)
      rw [if_neg (nI_nle (by omega) (by omega)), show nI (p + 1) + (1 : Int32) = nI (p + 2) from nI_1 _, bh_drawn hX' hg' (by omega) (by omega), ob_s, inb_n (by omega) (by omega), gd_t, lt_r, inb_n (by omega) (by omega), gd_t, gd_t, lt_r, gd_t, lt_r, nI_clamp (by omega), nI_clamp (by omega), show nI (p + 1) + (-1 : Int32) = nI p from pk_m1 p]
      refine hk2 _ _ ⟨p, bh_d2 X', bh_sw a' (p + 1) (bh_dV X' (p + 2)), rfl, by omega, bh_d2_lt _, e1, e2, ?_, fun i hi => ?_, bh_FI (bh_FI (bh_FJ hF2 (Or.inr ⟨rfl, rfl⟩)) (Or.inl rfl)) (Or.inl rfl)⟩ (by rw [nI_clamp (by omega), nI_clamp (by omega)]; omega)
      · rw [gJ_sI, gJ_sI, bh_Js]
      · rw [gI_sI, gI_sI, gI_sJ, gI_sJ, gI_sJ, ha' _ (by omega), ha' _ (by omega), ha' _ hi]
        unfold bh_sw
        by_cases h1 : i = bh_dV X' (p + 2)
        · rw [if_pos ⟨rfl, h1⟩, if_pos h1]
        · rw [if_neg (fun q => h1 q.2), if_neg h1]
          by_cases h2 : i = p + 1
          · rw [if_pos ⟨rfl, h2⟩, if_pos h2]
          · rw [if_neg (fun q => h2 q.2), if_neg h2]
theorem bh_firstOf {G : GM} {w C R E K k : Nat} {z : Nat → Nat} (hMO : bh_MO G w C R E K z) (hw : w < 6) (hK : K ≤ 5) (hk : k ≤ K) : f_X10_firstOf (nI w) (nI k) G = some (nI (1 + bh_sm z k), G) := by
  unfold f_X10_firstOf
  refine wl2_up (P := fun o => o = some (nI (1 + bh_sm z k), G)) (I := fun i y G1 => G1 = G ∧ y = nI (1 + bh_sm z i)) (N := k) (by omega) ?_ (n := FU) (i := 0) (Nat.zero_le _) ⟨rfl, rfl⟩ (by unfold FU; omega)
  rintro kc i _ G1 hi' ⟨rfl, rfl⟩ hkc
  unfold lp_X10_firstOf_5
  by_cases hi : i < k
  · rw [if_neg (nI_ge hi (by omega)), show (5 : Int32) = nI 5 from rfl, pk_mul, nI_add, inb_n (by omega) (by omega), gd_t, nI_clamp (by omega), hMO.2.2.2.2 i (by omega), nI_add, lt_r, nI_1]
    exact hkc hi _ _ ⟨rfl, by rw [Nat.add_assoc]; rfl⟩
  · have hi2 : i = k := by omega
    subst hi2
    rw [if_pos (nI_le (by omega) (by omega))]
theorem bh_laysM {G : GM} {b card k o n R : Nat} {a y : Nat → Nat} (hb : b < 2) (hcard : card < 3) (hk : k < 5) (hR : R ≤ 3) (hn : n ≤ 3) (ho : o + n ≤ 45) (ha : ∀ i, i < n → gI G 205 (o + i) = nI (a (o + i)) ∧ 0 < a (o + i) ∧ a (o + i) < 2 ^ 31) (hd : ∀ i j, i < n → j < n → a (o + i) = a (o + j) → i = j) (hy : ∀ r, r < R → gI G 207 (3 * card + r) = nI (y r) ∧ y r < 32) (hs : ∀ r, r < R → y r / 2 ^ k % 2 = 1 → bh_sm (fun r => y r / 2 ^ k % 2) r < n) : ∃ G', f_X10_lays (nI b) (nI card) (nI k) (nI o) (nI n) (nI R) G = some G' ∧ (∀ r, r < R → y r / 2 ^ k % 2 = 1 → gI G' 206 (45 * b + 15 * card + 5 * r + k) = nI (bh_srt n (fun i => a (o + i)) (bh_sm (fun r => y r / 2 ^ k % 2) r))) ∧ bh_F (fun a q => a = 206 ∧ ∃ r, r < R ∧ y r / 2 ^ k % 2 = 1 ∧ q = 45 * b + 15 * card + 5 * r + k) G G' := by
  unfold f_X10_lays
  refine wl2_up (P := fun o' => ∃ G', o' = some G' ∧ (∀ r, r < R → y r / 2 ^ k % 2 = 1 → gI G' 206 (45 * b + 15 * card + 5 * r + k) = nI (bh_srt n (fun i => a (o + i)) (bh_sm (fun r => y r / 2 ^ k % 2) r))) ∧ bh_F (fun a q => a = 206 ∧ ∃ r, r < R ∧ y r / 2 ^ k % 2 = 1 ∧ q = 45 * b + 15 * card + 5 * r + k) G G') (I := fun r v G1 => v = nI (if bh_sm (fun r => y r / 2 ^ k % 2) r = 0 then 0 else bh_srt n (fun i => a (o + i)) (bh_sm (fun r => y r / 2 ^ k % 2) r - 1)) ∧ bh_sm (fun r => y r / 2 ^ k % 2) r ≤ n ∧ (∀ r', r' < r → y r' / 2 ^ k % 2 = 1 → gI G1 206 (45 * b + 15 * card + 5 * r' + k) = nI (bh_srt n (fun i => a (o + i)) (bh_sm (fun r => y r / 2 ^ k % 2) r'))) ∧ bh_F (fun a q => a = 206 ∧ ∃ r, r < R ∧ y r / 2 ^ k % 2 = 1 ∧ q = 45 * b + 15 * card + 5 * r + k) G G1) (N := R) (by omega) ?_ (n := FU) (i := 0) (Nat.zero_le _) ⟨rfl, Nat.zero_le _, fun r hr => absurd hr (Nat.not_lt_zero _), bh_Fr _ _⟩ (by unfold FU; omega)
  rintro kc r _ G1 hr' ⟨rfl, qn, q1, hF⟩ hkc
  unfold lp_X10_lays_6
  by_cases hr : r < R
  · obtain ⟨y1, y2⟩ := hy r hr
    rw [if_neg (nI_ge hr (by omega)), show (3 : Int32) = nI 3 from rfl, pk_mul, nI_add, inb_n (by omega) (by omega), gd_t, nI_clamp (by omega), hF.1 _ _ (by omega), y1, bh_bit hk (by omega)]
    by_cases hbit : y r / 2 ^ k % 2 = 1
    · have hsn := hs r hr hbit
      rw [hbit, if_neg (by decide)]
      generalize hlast : (if bh_sm (fun r => y r / 2 ^ k % 2) r = 0 then 0 else bh_srt n (fun i => a (o + i)) (bh_sm (fun r => y r / 2 ^ k % 2) r - 1)) = last
      have hlast2 : last < 2 ^ 31 := by
        rw [← hlast]
        split
        · omega
        · exact bh_srt_lt hn (by omega) fun i hi => (ha i hi).2.2
      have hfin : bh_lst a o last n = bh_srt n (fun i => a (o + i)) (bh_sm (fun r => y r / 2 ^ k % 2) r) := by
        rw [← hlast]
        exact bh_lst_srt hn hsn (fun i hi => (ha i hi).2.1) hd
      refine wl2_up (P := fun o' => ∃ G', o' = some G' ∧ (∀ r, r < R → y r / 2 ^ k % 2 = 1 → gI G' 206 (45 * b + 15 * card + 5 * r + k) = nI (bh_srt n (fun i => a (o + i)) (bh_sm (fun r => y r / 2 ^ k % 2) r))) ∧ bh_F (fun a q => a = 206 ∧ ∃ r, r < R ∧ y r / 2 ^ k % 2 = 1 ∧ q = 45 * b + 15 * card + 5 * r + k) G G') (I := fun j v G2 => o ≤ j ∧ G2 = G1 ∧ v = nI (bh_lst a o last (j - o)) ∧ bh_lst a o last (j - o) < 2 ^ 31) (N := o + n) (by omega) ?_ (n := FU) (i := o) (by omega) ⟨Nat.le_refl _, rfl, by rw [Nat.sub_self]; rfl, by rw [Nat.sub_self]; unfold bh_lst; omega⟩ (by unfold FU; omega)
      rintro kc2 j _ G2 hj' ⟨j1, rfl, rfl, j4⟩ hk2
      obtain ⟨i, rfl⟩ : ∃ i, j = o + i := ⟨j - o, by omega⟩
      rw [Nat.add_sub_cancel_left] at *
      unfold lp_X10_lays_41
      rw [nI_add]
      by_cases hi : i < n
      · obtain ⟨a1, a2, a3⟩ := ha i hi
        rw [if_neg (by rw [nI_leI (by omega) (by omega)]; omega), inb_n (by omega) (by omega), gd_t, nI_clamp (by omega), hF.1 _ _ (by omega), a1]
        have hstep : bh_lst a o last (i + 1) = if a (o + i) > last ∧ (bh_lst a o last i = 0 ∨ a (o + i) < bh_lst a o last i) then a (o + i) else bh_lst a o last i := rfl
        have e1 : o + i + 1 - o = i + 1 := by omega
        have go : ∀ v, v = bh_lst a o last (i + 1) → v < 2 ^ 31 → ∃ G', kc2 (nI v) (nI (o + i + 1)) G2 = some G' ∧ (∀ r, r < R → y r / 2 ^ k % 2 = 1 → gI G' 206 (45 * b + 15 * card + 5 * r + k) = nI (bh_srt n (fun i => a (o + i)) (bh_sm (fun r => y r / 2 ^ k % 2) r))) ∧ bh_F (fun a q => a = 206 ∧ ∃ r, r < R ∧ y r / 2 ^ k % 2 = 1 ∧ q = 45 * b + 15 * card + 5 * r + k) G G' := fun v hv hv2 => hk2 (by omega) _ _ ⟨by omega, rfl, by rw [e1, hv], by rw [e1, ← hv]; exact hv2⟩
        have take : bh_lst a o last (i + 1) = a (o + i) → ∃ G', k_X10_lays_80 (nI b) (nI card) (nI k) (nI o) (nI n) (nI R) (nI last) (nI r) (nI (o + i)) kc kc2 G2 = some G' ∧ (∀ r, r < R → y r / 2 ^ k % 2 = 1 → gI G' 206 (45 * b + 15 * card + 5 * r + k) = nI (bh_srt n (fun i => a (o + i)) (bh_sm (fun r => y r / 2 ^ k % 2) r))) ∧ bh_F (fun a q => a = 206 ∧ ∃ r, r < R ∧ y r / 2 ^ k % 2 = 1 ∧ q = 45 * b + 15 * card + 5 * r + k) G G' := by
          intro he
          unfold k_X10_lays_80
          rw [inb_n (by omega) (by omega), gd_t, nI_clamp (by omega), hF.1 _ _ (by omega), a1, lt_r, nI_1]
          exact go _ he.symm a3
        by_cases c1 : a (o + i) ≤ last
        · rw [if_pos (nI_le c1 hlast2), nI_1]
          exact go _ (by rw [hstep, if_neg (by omega)]) j4
        · rw [if_neg (by rw [nI_leI a3 hlast2]; exact c1)]
          by_cases c2 : bh_lst a o last i = 0
          · rw [c2, if_pos (show nI 0 = (0 : Int32) from rfl)]
            exact take (by rw [hstep, if_pos ⟨by omega, Or.inl c2⟩])
          · rw [if_neg (nI_ne0 (by omega) j4), gd_t]
            by_cases c3 : bh_lst a o last i ≤ a (o + i)
            · rw [if_pos (nI_le c3 a3), nI_1]
              exact go _ (by rw [hstep, if_neg (by omega)]) j4
            · rw [if_neg (by rw [nI_leI j4 a3]; exact c3)]
              exact take (by rw [hstep, if_pos ⟨by omega, Or.inr (by omega)⟩])
      · have hi2 : i = n := by omega
        subst hi2
        rw [if_pos (nI_le (by omega) (by omega))]
        unfold f_X10_at
        rw [ob_s, show (45 : Int32) = nI 45 from rfl, show (15 : Int32) = nI 15 from rfl, show (5 : Int32) = nI 5 from rfl, pk_mul, pk_mul, pk_mul, nI_add, nI_add, nI_add, inb_n (by omega) (by omega), gd_t, lt_r, nI_clamp (by omega), nI_1, hfin]
        have hsm : bh_sm (fun r => y r / 2 ^ k % 2) (r + 1) = bh_sm (fun r => y r / 2 ^ k % 2) r + 1 := by
          show bh_sm (fun r => y r / 2 ^ k % 2) r + y r / 2 ^ k % 2 = _
          rw [hbit]
        refine hkc hr _ _ ⟨?_, by omega, fun r' hr' hb' => ?_, bh_FI hF ⟨rfl, r, hr, hbit, rfl⟩⟩
        · rw [hsm, if_neg (by omega), Nat.add_sub_cancel]
        · rw [gI_sI]
          by_cases hrr : r' = r
          · subst hrr
            rw [if_pos ⟨rfl, rfl⟩]
          · rw [if_neg (fun h => hrr (by omega))]
            exact q1 r' (by omega) hb'
    · have h0 : y r / 2 ^ k % 2 = 0 := by omega
      have hsm : bh_sm (fun r => y r / 2 ^ k % 2) (r + 1) = bh_sm (fun r => y r / 2 ^ k % 2) r := by
        show bh_sm (fun r => y r / 2 ^ k % 2) r + y r / 2 ^ k % 2 = _
        rw [h0]; rfl
      rw [h0, if_pos (show nI 0 = (0 : Int32) from rfl), nI_1]
      refine hkc hr _ _ ⟨by rw [hsm], by omega, fun r' hr' hb' => ?_, hF⟩
      by_cases hrr : r' = r
      · subst hrr; omega
      · exact q1 r' (by omega) hb'
  · have hr2 : r = R := by omega
    subst hr2
    rw [if_pos (nI_le (by omega) (by omega))]
    exact ⟨G1, rfl, q1, hF⟩
