/-! SLOW -/
theorem bh_jm {a b : Nat} (ha : a < 2 ^ 30) (hb : b < 2 ^ 30) {x : Int32} : (x ≤ nI a - nI b) ↔ x.toInt ≤ (a : Int) - b := by
  rw [Int32.le_iff_toInt_le, pk_sub_toInt ha hb]
/-- in whose time the q-th number is daubed -/
def bh_db (k q : Nat) : Nat := q / k + 1
theorem m_laysSlow {G : GM} {C R E K n mm : Nat} {z cl : Nat → Nat} (hV : bh_VH C R E K z) (hE : bh_ME G 0 C R E K z cl) (hn : 1 ≤ n ∧ n ≤ 8) (hm : 1 ≤ mm ∧ mm ≤ 8) : ∃ G', f_X10_laysSlow (nI n) (nI mm) G = some G' ∧ (∀ q, q < C * R * E * n → gI G' 212 q = nI (bh_db (min mm n) q)) ∧ bh_F (fun a _ => a = 212) G G' := by
  have h45 := bh_N45 hV
  have hK := hV.2.2.2.1.2
  obtain ⟨N, eN⟩ : ∃ N, N = C * R * E := ⟨_, rfl⟩
  rw [← eN] at h45
  have hNn : N * n ≤ 360 := Nat.mul_le_mul h45 hn.2
  obtain ⟨k, ek⟩ : ∃ k, k = min mm n := ⟨_, rfl⟩
  have hk : 1 ≤ k ∧ k ≤ 8 := by omega
  rw [← ek, ← eN]
  unfold f_X10_laysSlow
  refine bh_wl3_up (P := fun o => ∃ G', o = some G' ∧ (∀ q, q < N * n → gI G' 212 q = nI (bh_db k q)) ∧ bh_F (fun a _ => a = 212) G G') (I := fun t x y G1 => 1 ≤ t ∧ x = nI (min ((t - 1) * k) (N * n)) ∧ y = nI (min ((t - 1) * k) (N * n)) ∧ (∀ q, q < min ((t - 1) * k) (N * n) → gI G1 212 q = nI (bh_db k q)) ∧ bh_F (fun a _ => a = 212) G G1) (N := 361) (by omega) ?_ (n := FU) (i := 1) (by omega) ⟨Nat.le_refl _, by rw [Nat.sub_self, Nat.zero_mul, Nat.zero_min]; rfl, by rw [Nat.sub_self, Nat.zero_mul, Nat.zero_min]; rfl, by rw [Nat.sub_self, Nat.zero_mul, Nat.zero_min]; exact fun q hq => absurd hq (Nat.not_lt_zero _), bh_Fr _ _⟩ (by unfold FU; omega)
  rintro kc t _ _ G1 ht' ⟨h1, rfl, rfl, q1, F1⟩ hkc
  obtain ⟨u, rfl⟩ : ∃ u, t = u + 1 := ⟨t - 1, by omega⟩
  rw [Nat.add_sub_cancel] at *
  have hE1 := bh_ME_F hE hK F1 (fun a q h => by omega)
  have ea := m_all' hE1
  rw [← eN] at ea
  have hku : k ≤ n := by omega
  have hkm : k ≤ mm := by omega
  have huk : u * k ≤ u * n := Nat.mul_le_mul_left u hku
  unfold lp_X10_laysSlow_8
  rw [ea, ob_s, pk_mul]
  by_cases hdone : N * n ≤ u * k
  · rw [Nat.min_eq_right hdone] at q1 ⊢
    rw [if_pos (nI_le (Nat.le_refl _) (by omega))]
    exact ⟨G1, rfl, q1, F1⟩
  · have hu360 : u < 360 := by
      have : u * 1 ≤ u * k := Nat.mul_le_mul_left u hk.1
      omega
    rw [Nat.min_eq_left (by omega)] at q1 ⊢
    have hs : (u + 1) * k = u * k + k := Nat.succ_mul u k
    have fill : ∀ d, d = min ((u + 1) * k) (N * n) → ∃ G', k_X10_laysSlow_57 (nI n) (nI mm) (nI (u * k)) (nI (u + 1)) (nI d) kc G1 = some G' ∧ (∀ q, q < N * n → gI G' 212 q = nI (bh_db k q)) ∧ bh_F (fun a _ => a = 212) G G' := by
      intro d hd
      unfold k_X10_laysSlow_57
      refine wl1_up (P := fun o => ∃ G', o = some G' ∧ (∀ q, q < N * n → gI G' 212 q = nI (bh_db k q)) ∧ bh_F (fun a _ => a = 212) G G') (I := fun i G2 => u * k ≤ i ∧ (∀ q, q < i → gI G2 212 q = nI (bh_db k q)) ∧ bh_F (fun a _ => a = 212) G G2) (N := d) (by omega) ?_ (n := FU) (i := u * k) (by omega) ⟨Nat.le_refl _, q1, F1⟩ (by unfold FU; omega)
      rintro kc2 i G2 hi' ⟨hui, q2, F2⟩ hk2
      unfold lp_X10_laysSlow_58
      by_cases hi : i < d
      · rw [if_neg (nI_ge hi (by omega)), inb_n (by omega) (by omega), gd_t, nI_clamp (by omega), lt_r, nI_1]
        refine hk2 hi _ ⟨by omega, fun q hq => ?_, bh_FI F2 rfl⟩
        rw [gI_sI]
        by_cases hqi : q = i
        · rw [if_pos ⟨rfl, hqi⟩, hqi]
          unfold bh_db
          rw [Nat.div_eq_of_lt_le (k := u) hui (by omega)]
        · rw [if_neg (fun h => hqi h.2)]; exact q2 q (by omega)
      · have hi2 : i = d := by omega
        rw [if_pos (nI_le (by omega) (by omega)), nI_1, hi2, hd]
        refine hkc (by omega) _ _ _ ⟨by omega, rfl, rfl, ?_, F2⟩
        rw [← hd, ← hi2]; exact q2
    have step : ∀ w, w = min (u + 1) N → ∃ G', k_X10_laysSlow_37 (nI n) (nI mm) (nI (u * k)) (nI (u * k)) (nI (u + 1)) (nI w) kc G1 = some G' ∧ (∀ q, q < N * n → gI G' 212 q = nI (bh_db k q)) ∧ bh_F (fun a _ => a = 212) G G' := by
      intro w hw
      have hwn : w * n = min (u * n + n) (N * n) := by
        rw [hw]
        by_cases h : u + 1 ≤ N
        · have : (u + 1) * n ≤ N * n := Nat.mul_le_mul_right n h
          rw [Nat.min_eq_left h, Nat.succ_mul]
          rw [Nat.succ_mul] at this
          omega
        · have : N * n ≤ u * n := Nat.mul_le_mul_right n (by omega)
          rw [Nat.min_eq_right (by omega)]
          omega
      have hkn : k = n → u * k = u * n := fun h => by rw [h]
      unfold k_X10_laysSlow_37
      rw [pk_mul, lt_r, nI_add]
      by_cases hle : w * n ≤ u * k + mm
      · rw [if_pos (nI_le hle (by omega))]
        exact fill _ (by omega)
      · rw [if_neg (by rw [nI_leI (by omega) (by omega)]; exact hle)]
        exact fill _ (by omega)
    rw [if_neg (by rw [nI_leI (by omega) (by omega)]; omega), ea, ob_s]
    by_cases hN1 : N ≤ u + 1
    · rw [if_pos (nI_le hN1 (by omega)), ea, ob_s]
      exact step N (by omega)
    · rw [if_neg (by rw [nI_leI (by omega) (by omega)]; exact hN1)]
      exact step (u + 1) (by omega)
theorem bh_mn_mono {f : Nat → Nat} {V : Nat → Nat} {n : Nat} (hn : 0 < n) (hV : ∀ a b, a ≤ b → V a ≤ V b) : bh_mn (fun k => V (f k)) n = V (bh_mn f n) := by
  obtain ⟨a1, k, hk, a2⟩ := bh_mn_is (f := f) hn
  exact bh_mn_u (fun j hj => hV _ _ (a1 j hj)) ⟨k, hk, by rw [a2]⟩
theorem q_slow (x1 x2 x3 x4 : Int32) : bh_Qy (f_X9_slow x1 x2 x3 x4) (f_X10_slow x1 x2 x3 x4) := by
  intro G hR
  have hh := bh_nwc hR
  have fT := bh_thr G
  rcases hR.2.2.2.2.1 with h0 | ⟨ln, C, R, E, K, m, pu, bb, z, sv, cl, pr, hN, hC, hM⟩
  · have h02 := bh_sc0 hh h0 fT
    exact bh_qy hR (v := (-2 : Int32)) (by unfold f_X9_slow; rw [c_isKindN rfl h0 _, ob_s, bh_i0]) (by unfold f_X10_slow; rw [lt_r, m_noHall h02, ob_s, bh_i0]) (bh_Fr _ _) (bh_thr G)
  have hM2 := bh_scM hN hM fT
  have hV := hN.2.1
  have h45 := bh_N45 hV
  have hbC := hV.1
  have hbR := hV.2.1
  have hbE := hV.2.2.1
  have hbK := hV.2.2.2.1
  have hbm := hN.2.2.1
  have hp := hN.2.2.2.2.2.2.2
  have em : gI (sI G 186 0 0) 193 4 = nI m := hM2.1.2.1
  have i4 : inb (4 : Int32) 48 = true := by decide
  have c4 : (4 : Int32).toNatClampNeg = 4 := by decide
  by_cases hgood : (∃ j, j < 3 ∧ x4 = nI j) ∧ (∃ j, (1 ≤ j ∧ j < 9) ∧ x2 = nI j) ∧ (∃ j, (1 ≤ j ∧ j < 9) ∧ x3 = nI j) ∧ (∃ j, j < 2 ^ 31 ∧ x1 = nI j) ∧ x1.toInt ≤ (m : Int) - x2.toInt
  rotate_left
  · have cb : f_X9_slow x1 x2 x3 x4 G = some (-2, G) := by
      unfold f_X9_slow
      rcases bh_cls (x := x4) (p := fun j => j < 3) with ⟨kd, hkd, rfl⟩ | nkd
      rotate_left
      · rw [c_isKind0 rfl hN hC nkd, ob_s, bh_i0]
      rw [c_isKind1 rfl hN hC hkd, ob_s, bh_i1]
      rcases bh_cls (x := x2) (p := fun j => 1 ≤ j ∧ j < 9) with ⟨n, hn, rfl⟩ | nn
      rotate_left
      · rw [show (8 : Int32) = nI 8 from rfl, pC0 (n := 8) (by omega) (fun ⟨j, a, b, c⟩ => nn ⟨j, ⟨a, b⟩, c⟩)]
      rw [show (8 : Int32) = nI 8 from rfl, pC1 (n := 8) hn.1 hn.2 (by omega)]
      rcases bh_cls (x := x3) (p := fun j => 1 ≤ j ∧ j < 9) with ⟨mm, hmm, rfl⟩ | nmm
      rotate_left
      · by_cases h1 : x3 < (1 : Int32)
        · rw [if_pos h1]
        · have h0 : ¬ x3 < 0 := fun h => h1 (Int32.lt_trans h (by decide))
          obtain ⟨j, hj, rfl⟩ := nI_of h0
          have hj1 : 1 ≤ j := by
            rw [show (1 : Int32) = nI 1 from rfl, nI_ltI hj (by omega)] at h1; omega
          rw [if_neg h1, if_neg (by rw [nI_leI hj (by omega)]; exact fun h => nmm ⟨j, ⟨hj1, by clear nmm hgood; omega⟩, rfl⟩)]
      rw [if_neg (show ¬ nI mm < (1 : Int32) from nI_nlt (b := 1) hmm.1 (by omega)), if_pos (nI_le (by clear hgood; omega) (by omega)), hC.1.2.2.2]
      by_cases h0 : x1 < 0
      · rw [if_pos h0]
      · obtain ⟨f, hf, rfl⟩ := nI_of h0
        rw [if_neg h0, if_neg]
        intro h
        rw [bh_jm (by omega) (by omega)] at h
        exact hgood ⟨⟨kd, hkd, rfl⟩, ⟨n, hn, rfl⟩, ⟨mm, hmm, rfl⟩, ⟨f, hf, rfl⟩, by rw [nI_toInt (n := n) (by omega)]; exact h⟩
    have mb : f_X10_slow x1 x2 x3 x4 G = some (-2, sI G 186 0 0) := by
      unfold f_X10_slow
      rw [lt_r, m_isHall hN hM2, ob_s, bh_i1]
      rcases bh_cls (x := x2) (p := fun j => 1 ≤ j ∧ j < 9) with ⟨n, hn, rfl⟩ | nn
      rotate_left
      · rw [m_in0 (l := 1) (b := 8) (by decide) (by decide) (fun j _ h1 h he => nn ⟨j, by clear nn hgood; omega, he⟩), ob_s, bh_i0]
      rw [m_in1 (l := 1) (b := 8) (by omega) (by decide) (by decide) (by omega) (by clear hgood; omega), ob_s, bh_i1, i4, gd_t, c4, em]
      have hb : (nI m - nI n).toInt64.toInt = (m : Int) - n := by rw [Int32.toInt_toInt64, pk_sub_toInt (by omega) (by omega)]
      rcases bh_cls (x := x1) (p := fun j => j < 2 ^ 31 ∧ (j : Int) ≤ (m : Int) - n) with ⟨f, hf, rfl⟩ | nf
      rotate_left
      · rw [m_in0 (l := 0) (b := (m : Int) - n) (by decide) hb (fun j hj h1 h he => nf ⟨j, ⟨hj, h⟩, he⟩), ob_s, bh_i0]
      rw [m_in1 (l := 0) (b := (m : Int) - n) hf.1 (by decide) hb (by omega) hf.2, ob_s, bh_i1]
      rcases bh_cls (x := x3) (p := fun j => 1 ≤ j ∧ j < 9) with ⟨mm, hmm, rfl⟩ | nmm
      rotate_left
      · rw [m_in0 (l := 1) (b := 8) (by decide) (by decide) (fun j _ h1 h he => nmm ⟨j, by clear nmm hgood; omega, he⟩), ob_s, bh_i0]
      rw [m_in1 (l := 1) (b := 8) (by omega) (by decide) (by decide) (by omega) (by clear hgood; omega), ob_s, bh_i1]
      rcases bh_cls (x := x4) (p := fun j => j < 3) with ⟨kd, hkd, rfl⟩ | nkd
      rotate_left
      · rw [m_isKind0 nkd, ob_s, bh_i0]
      exact absurd ⟨⟨kd, hkd, rfl⟩, ⟨n, hn, rfl⟩, ⟨mm, hmm, rfl⟩, ⟨f, hf.1, rfl⟩, by rw [nI_toInt (n := n) (by omega), nI_toInt hf.1]; exact hf.2⟩ hgood
    exact bh_qy hR cb mb (bh_Fr _ _) fT
  obtain ⟨⟨kd, hkd, rfl⟩, ⟨n, hn, rfl⟩, ⟨mm, hmm, rfl⟩, ⟨f, hf, rfl⟩, hfn⟩ := hgood
  rw [nI_toInt hf, nI_toInt (n := n) (by omega)] at hfn
  have hfn' : f + n ≤ m := by omega
  obtain ⟨N, eN⟩ : ∃ N, N = C * R * E := ⟨_, rfl⟩
  have hNn : C * R * E * n ≤ 360 := Nat.mul_le_mul h45 (show n ≤ 8 by omega)
  obtain ⟨D, eD⟩ : ∃ D : Nat → Nat, D = fun i => bh_db (min mm n) ((bh_mn (bh_tG C R E K z sv cl kd (f + i)) C - 1) * n + i) := ⟨_, rfl⟩
  have cg : ∀ v G', wl2 FU (lp_X9_slow_60 (nI f) (nI n) (nI mm) (nI kd)) (-1 : Int32) (0 : Int32) G = some (v, G') → f_X9_slow (nI f) (nI n) (nI mm) (nI kd) G = some (v, G') := fun v G' hv => by
    unfold f_X9_slow
    rw [c_isKind1 rfl hN hC hkd, ob_s, bh_i1, show (8 : Int32) = nI 8 from rfl, pC1 (n := 8) hn.1 hn.2 (by omega), if_neg (show ¬ nI mm < (1 : Int32) from nI_nlt (b := 1) hmm.1 (by omega)), if_pos (nI_le (by omega) (by omega)), hC.1.2.2.2, if_neg (nI_pos (by omega)), if_pos (by rw [bh_jm (by omega) (by omega), nI_toInt hf]; exact hfn)]
    exact hv
  have mg : ∀ (G1 : GM) (v : Int32) (G' : GM), bh_HM (sI G1 186 0 0) 0 ln C R E K m pu bb z sv cl pr → (if nI kd = (1 : Int32) then (gd (inb (1 : Int32) 48) <| if (2 : Int32) ≤ (gI (sI G1 186 0 0) 193 (1 : Int32).toNatClampNeg) then k_X10_slow_83 (nI f) (nI n) (nI mm) (nI kd) (sI G1 186 0 0) else some ((-1 : Int32), sI G1 186 0 0)) else k_X10_slow_83 (nI f) (nI n) (nI mm) (nI kd) (sI G1 186 0 0)) = some (v, G') → f_X10_slow (nI f) (nI n) (nI mm) (nI kd) G1 = some (v, G') := fun G1 v G' hM' hv => by
    have em' : gI (sI G1 186 0 0) 193 4 = nI m := hM'.1.2.1
    have hb : (nI m - nI n).toInt64.toInt = (m : Int) - n := by rw [Int32.toInt_toInt64, pk_sub_toInt (by omega) (by omega)]
    unfold f_X10_slow
    rw [lt_r, m_isHall hN hM', ob_s, bh_i1, m_in1 (l := 1) (b := 8) (by omega) (by decide) (by decide) (by omega) (by omega), ob_s, bh_i1, i4, gd_t, c4, em', m_in1 (l := 0) (b := (m : Int) - n) hf (by decide) hb (by omega) hfn, ob_s, bh_i1, m_in1 (l := 1) (b := 8) (by omega) (by decide) (by decide) (by omega) (by omega), ob_s, bh_i1, m_isKind1 hkd, ob_s, bh_i1]
    exact hv
  by_cases hcan : kd = 1 ∧ R < 2
  · have cs : ∃ G', wl2 FU (lp_X9_slow_60 (nI f) (nI n) (nI mm) (nI kd)) (-1 : Int32) (0 : Int32) G = some (-1, G') ∧ bh_F bh_W7 G G' := by
      refine wl2_up (P := fun o => ∃ G', o = some (-1, G') ∧ bh_F bh_W7 G G') (I := fun i y G1 => y = -1 ∧ bh_F bh_W7 G G1) (N := n) (by omega) ?_ (n := FU) (i := 0) (Nat.zero_le _) ⟨rfl, bh_Fr _ _⟩ (by unfold FU; omega)
      rintro kc i _ G1 hi' ⟨rfl, F1⟩ hkc
      have c1 := bh_CT_F hh hbm (by omega) (bh_CT_of rfl hN hC) F1
      unfold lp_X9_slow_60
      by_cases hi : i < n
      · obtain ⟨G2, e2, F2⟩ := c_fTO (i := f + i) hh hN c1 hp (c_LN hh).2.1 (by omega) (by omega) hkd
        rw [if_pos hcan] at e2
        rw [if_neg (nI_ge hi (by omega)), nI_add, c1.1, e2, ob_s, if_pos rfl, nI_1]
        exact hkc hi _ _ ⟨rfl, bh_Ft F1 F2⟩
      · have hi2 : i = n := by omega
        subst hi2
        rw [if_pos (nI_le (by omega) (by omega))]
        exact ⟨G1, rfl, F1⟩
    obtain ⟨G1, e1, F1⟩ := cs
    have hM2 := bh_scM hN hM (bh_Ft (scrW7 F1) (bh_thr _))
    have f1 : gI (sI G1 186 0 0) 193 1 = nI R := hM2.2.1.2.1
    exact bh_qy hR (v := (-1 : Int32)) (cg _ _ e1) (mg _ _ _ hM2 (by rw [hcan.1, if_pos (show nI 1 = (1 : Int32) from rfl), show inb (1 : Int32) 48 = true from by decide, gd_t, show (1 : Int32).toNatClampNeg = 1 from by decide, f1, if_neg (by rw [show (2 : Int32) = nI 2 from rfl, nI_leI (by omega) (by omega)]; omega)])) (scrW7 F1) (bh_thr _)
  · have tle : ∀ i c, c < C → 1 ≤ bh_tG C R E K z sv cl kd i c ∧ bh_tG C R E K z sv cl kd i c ≤ C * R * E := fun i c hc => ⟨bh_tG_pos hV hp hkd hcan hc, bh_tG_le hV hp hkd hcan hc⟩
    have mle : ∀ i, 1 ≤ bh_mn (bh_tG C R E K z sv cl kd i) C ∧ bh_mn (bh_tG C R E K z sv cl kd i) C ≤ C * R * E := fun i => by
      obtain ⟨k, h1, h2⟩ := (bh_mn_is (f := bh_tG C R E K z sv cl kd i) (n := C) (by omega)).2
      rw [← h2]; exact tle i k h1
    have ixle : ∀ t i, 1 ≤ t → t ≤ C * R * E → i < n → (t - 1) * n + i < C * R * E * n := fun t i h1 h2 h3 => by
      have := Nat.mul_le_mul_right n h2
      obtain ⟨t', rfl⟩ : ∃ t', t = t' + 1 := ⟨t - 1, by omega⟩
      rw [Nat.succ_mul] at this
      rw [Nat.add_sub_cancel]; omega
    have Vle : ∀ q, q < C * R * E * n → bh_db (min mm n) q ≤ 361 := fun q hq => by
      have := Nat.div_le_self q (min mm n)
      unfold bh_db; omega
    have Dle : ∀ i, i < n → D i ≤ 361 := fun i hi => by
      rw [eD]; exact Vle _ (ixle _ i (mle _).1 (mle _).2 hi)
    have dt : ∀ i, i < n → ∀ G', f_X9_daubTime (nI (bh_mn (bh_tG C R E K z sv cl kd (f + i)) C)) (nI i) (nI n) (nI mm) G' = some (nI (D i), G') := fun i hi G' => by
      have hix := ixle _ i (mle (f + i)).1 (mle (f + i)).2 hi
      have hml := mle (f + i)
      rw [eD]
      show _ = some (nI (bh_db (min mm n) ((bh_mn (bh_tG C R E K z sv cl kd (f + i)) C - 1) * n + i)), G')
      generalize bh_mn (bh_tG C R E K z sv cl kd (f + i)) C = t at hix hml ⊢
      obtain ⟨t', rfl⟩ : ∃ t', t = t' + 1 := ⟨t - 1, by omega⟩
      unfold f_X9_daubTime bh_db
      rw [if_neg (show ¬ nI mm < (1 : Int32) from nI_nlt (b := 1) hmm.1 (by omega))]
      rw [Nat.add_sub_cancel] at hix ⊢
      by_cases hlt : mm < n
      · rw [if_pos (nI_lt hlt (by omega)), gd_d (nI_ne0 (by omega) (by omega)), bh_m1, pk_mul, nI_add, pk_div (by omega) (by omega) (by omega), nI_1, Nat.min_eq_left (by omega)]
      · rw [if_neg (nI_nlt (by omega) (by omega)), Nat.min_eq_right (by omega), Nat.add_comm (t' * n) i, Nat.add_mul_div_right _ _ (by omega), Nat.div_eq_of_lt hi, Nat.zero_add]
    have cs : ∃ G', wl2 FU (lp_X9_slow_60 (nI f) (nI n) (nI mm) (nI kd)) (-1 : Int32) (0 : Int32) G = some (nI (bh_mn D n), G') ∧ bh_F bh_W7 G G' := by
      refine wl2_up (P := fun o => ∃ G', o = some (nI (bh_mn D n), G') ∧ bh_F bh_W7 G G') (I := fun i y G1 => y = (if i = 0 then (-1 : Int32) else nI (bh_mn D i)) ∧ bh_F bh_W7 G G1) (N := n) (by omega) ?_ (n := FU) (i := 0) (Nat.zero_le _) ⟨by rw [if_pos rfl], bh_Fr _ _⟩ (by unfold FU; omega)
      rintro kc i _ G1 hi' ⟨rfl, F1⟩ hkc
      have c1 := bh_CT_F hh hbm (by omega) (bh_CT_of rfl hN hC) F1
      unfold lp_X9_slow_60
      by_cases hi : i < n
      · obtain ⟨G2, e2, F2⟩ := c_fTO (i := f + i) hh hN c1 hp (c_LN hh).2.1 (by omega) (by omega) hkd
        have hDi := Dle i hi
        have hml := mle (f + i)
        rw [if_neg hcan] at e2
        rw [if_neg (nI_ge hi (by omega)), nI_add, c1.1, e2, ob_s, if_neg (nIm1 (by omega)), dt i hi, ob_s]
        by_cases h0 : i = 0
        · subst h0
          rw [if_pos rfl, if_pos rfl]
          unfold k_X9_slow_120
          rw [nI_1]
          exact hkc hi _ _ ⟨by rw [if_neg (by omega), bh_mn_s, if_pos rfl], bh_Ft F1 F2⟩
        · obtain ⟨-, k, k1, k2⟩ := bh_mn_is (f := D) (n := i) (by omega)
          have hDk := Dle k (by omega)
          rw [if_neg h0, if_neg (nIm1 (by omega)), jmin_n (by omega) (by omega)]
          unfold k_X9_slow_120
          rw [nI_1]
          exact hkc hi _ _ ⟨by rw [if_neg (by omega), bh_mn_s, if_neg h0], bh_Ft F1 F2⟩
      · have hi2 : i = n := by omega
        subst hi2
        rw [if_pos (nI_le (by omega) (by omega)), if_neg (by omega)]
        exact ⟨G1, rfl, F1⟩
    obtain ⟨G1, e1, F1⟩ := cs
    have hM2 := bh_scM hN hM (bh_Ft (scrW7 F1) (bh_thr _))
    obtain ⟨G3, e3, a3, F3⟩ := m_laysSlow hV (bh_ME_of hM2) (n := n) (mm := mm) (by omega) (by omega)
    have F3' : bh_F bh_Wr (sI G1 186 0 0) G3 := bh_Fm F3 (fun a q h => by unfold bh_Wr; omega)
    obtain ⟨V, eV⟩ : ∃ V : Nat → Nat → Nat, V = fun i c => bh_db (min mm n) ((bh_tG C R E K z sv cl kd (f + i) c - 1) * n + i) := ⟨_, rfl⟩
    have VD : ∀ i, bh_mn (V i) C = D i := fun i => by
      rw [eV, eD]
      exact bh_mn_mono (f := bh_tG C R E K z sv cl kd (f + i)) (V := fun t => bh_db (min mm n) ((t - 1) * n + i)) (by omega) (fun a b hab => by
        show bh_db _ _ ≤ bh_db _ _
        unfold bh_db
        have := Nat.mul_le_mul_right n (show a - 1 ≤ b - 1 by omega)
        exact Nat.succ_le_succ (Nat.div_le_div_right (by omega)))
    have VDn : bh_mn (fun j => V (j / C) (j % C)) (n * C) = bh_mn D n := by
      rw [bh_mn_flat (by omega) (by omega)]
      exact congrArg (fun g => bh_mn g n) (funext VD)
    have Vle2 : ∀ i c, i < n → c < C → V i c ≤ 361 := fun i c hi hc => by
      rw [eV]; exact Vle _ (ixle _ i (tle _ c hc).1 (tle _ c hc).2 hi)
    have hnC : n * C ≤ 24 := Nat.mul_le_mul (show n ≤ 8 by omega) hbC.2
    have ms : ∃ G', k_X10_slow_83 (nI f) (nI n) (nI mm) (nI kd) (sI G1 186 0 0) = some (nI (bh_mn D n), G') ∧ bh_F bh_Wr (sI G1 186 0 0) G' := by
      unfold k_X10_slow_83
      rw [e3, ov_s, ← VDn]
      refine wl2_up (P := fun o => ∃ G', o = some (nI (bh_mn (fun j => V (j / C) (j % C)) (n * C)), G') ∧ bh_F bh_Wr (sI G1 186 0 0) G') (I := fun i y G4 => y = (if i * C = 0 then (-1 : Int32) else nI (bh_mn (fun j => V (j / C) (j % C)) (i * C))) ∧ bh_F (fun a q => bh_Wr a q ∧ a ≠ 212) G3 G4) (N := n) (by omega) ?_ (n := FU) (i := 0) (Nat.zero_le _) ⟨by rw [Nat.zero_mul, if_pos rfl], bh_Fr _ _⟩ (by unfold FU; omega)
      rintro kc i _ G4 hi' ⟨rfl, F4⟩ hkc
      have F4' := bh_Ft F3' (bh_Fm F4 (fun a q h => h.1))
      have hM4 := bh_scM hN hM2 (scrWr F4')
      unfold lp_X10_slow_95
      by_cases hi : i < n
      · have e5 : gI G4 196 (f + i) = nI (sv (f + i)) := by
          have := hM4.2.2.2.1 (f + i) (by omega)
          rwa [Nat.mul_zero, Nat.zero_add] at this
        have hsv := hN.2.2.2.2.2.2.1 (f + i) (by omega)
        obtain ⟨G5, e6, p6, -, F6⟩ := m_makes hN hM4 (s := sv (f + i)) (by omega)
        have F46 := bh_Ft F4 (bh_Fm F6 (W' := fun a q => bh_Wr a q ∧ a ≠ 212) (fun a q h => by unfold bh_WMk at h; unfold bh_Wr; omega))
        rw [if_neg (nI_ge hi (by omega)), nI_add, inb_n (by omega) (by omega), gd_t, nI_clamp (by omega), e5, e6, ov_s]
        refine wl2_up (P := fun o => ∃ G', o = some (nI (bh_mn (fun j => V (j / C) (j % C)) (n * C)), G') ∧ bh_F bh_Wr (sI G1 186 0 0) G') (I := fun c y G7 => y = (if i * C + c = 0 then (-1 : Int32) else nI (bh_mn (fun j => V (j / C) (j % C)) (i * C + c))) ∧ bh_F (fun a _ => a = 208) G5 G7) (N := C) (by omega) ?_ (n := FU) (i := 0) (Nat.zero_le _) ⟨rfl, bh_Fr _ _⟩ (by unfold FU; omega)
        rintro kc2 c _ G7 hc' ⟨rfl, F7⟩ hk2
        have F47 := bh_Ft F46 (bh_Fm F7 (W' := fun a q => bh_Wr a q ∧ a ≠ 212) (fun a q h => by unfold bh_Wr; omega))
        have hM7 := bh_scM hN hM2 (scrWr (bh_Ft F3' (bh_Fm F47 (fun a q h => h.1))))
        have e0 : gI G7 193 0 = nI C := hM7.2.1.1
        unfold lp_X10_slow_119
        rw [show inb (0 : Int32) 48 = true from by decide, gd_t, show (0 : Int32).toNatClampNeg = 0 from by decide, e0]
        by_cases hc : c < C
        · obtain ⟨G8, e8, F8⟩ := m_doneOf0 hV (bh_ME_of hM7) hp (bh_SM_F p6 F7 (fun q _ _ h => by omega)) hc hkd
          have e8' : bh_tI K R (bh_T C R E K z (sv (f + i)) cl c) kd = nI (bh_tG C R E K z sv cl kd (f + i) c) := if_neg hcan
          have F78 := bh_Ft F7 F8
          have F48 := bh_Ft F46 (bh_Fm F78 (W' := fun a q => bh_Wr a q ∧ a ≠ 212) (fun a q h => by unfold bh_Wr; omega))
          have hix := ixle _ i (tle (f + i) c hc).1 (tle (f + i) c hc).2 hi
          have e9 : gI G8 212 ((bh_tG C R E K z sv cl kd (f + i) c - 1) * n + i) = nI (V i c) := by
            rw [F48.1 _ _ (fun h => h.2 rfl), a3 _ hix, eV]
          have htl := tle (f + i) c hc
          obtain ⟨t', ht'⟩ : ∃ t', bh_tG C R E K z sv cl kd (f + i) c = t' + 1 := ⟨bh_tG C R E K z sv cl kd (f + i) c - 1, by omega⟩
          rw [ht', Nat.add_sub_cancel] at hix e9
          have hVc := Vle2 i c hi hc
          have hat : V ((i * C + c) / C) ((i * C + c) % C) = V i c := by rw [(bh_dm hc).1, (bh_dm hc).2]
          rw [if_neg (nI_ge hc (by omega)), e8, ob_s, e8', ht', bh_m1, pk_mul, nI_add, inb_n (by omega) (by omega), gd_t, nI_clamp (by omega), e9, lt_r]
          have hlt := bh_ijlt hi hc
          have esn := bh_mn_s (fun j => V (j / C) (j % C)) (i * C + c)
          rw [hat] at esn
          by_cases h0 : i * C + c = 0
          · rw [if_pos h0] at esn
            rw [if_pos h0, if_pos rfl]
            unfold k_X10_slow_166 k_X10_slow_173
            rw [nI_1]
            refine hk2 hc _ _ ⟨?_, F78⟩
            rw [if_neg (by omega), ← Nat.add_assoc, esn]
            show _ = nI (V (0 / C) (0 % C))
            rw [← hat, h0]
          · obtain ⟨-, k, k1, k2⟩ := bh_mn_is (f := fun j => V (j / C) (j % C)) (n := i * C + c) (by omega)
            have hkk := bh_ij (show k < n * C by omega)
            have hVk := Vle2 _ _ hkk.1 hkk.2.1
            rw [if_neg h0] at esn
            rw [if_neg h0, if_neg (nIm1 (by omega))]
            by_cases hle : bh_mn (fun j => V (j / C) (j % C)) (i * C + c) ≤ V i c
            · rw [if_pos (nI_le hle (by omega))]
              unfold k_X10_slow_173
              rw [nI_1]
              refine hk2 hc _ _ ⟨?_, F78⟩
              rw [if_neg (by omega), ← Nat.add_assoc, esn, Nat.min_eq_left hle]
            · rw [if_neg (by rw [nI_leI (by omega) (by omega)]; exact hle)]
              unfold k_X10_slow_166 k_X10_slow_173
              rw [nI_1]
              refine hk2 hc _ _ ⟨?_, F78⟩
              rw [if_neg (by omega), ← Nat.add_assoc, esn, Nat.min_eq_right (by omega)]
        · have hc2 : c = C := by omega
          subst hc2
          rw [if_pos (nI_le (by omega) (by omega)), nI_1]
          refine hkc hi _ _ ⟨by rw [Nat.succ_mul], F47⟩
      · have hi2 : i = n := by omega
        subst hi2
        have : 0 < i * C := Nat.mul_pos (by omega) (by omega)
        rw [if_pos (nI_le (by omega) (by omega)), if_neg (by omega)]
        exact ⟨G4, rfl, F4'⟩
    obtain ⟨G2, e2, F2⟩ := ms
    have f1 : gI (sI G1 186 0 0) 193 1 = nI R := hM2.2.1.2.1
    refine bh_qy hR (v := nI (bh_mn D n)) (cg _ _ e1) (mg _ _ _ hM2 ?_) (scrW7 F1) (bh_Ft (bh_thr _) (scrWr F2))
    by_cases h1 : nI kd = (1 : Int32)
    · have hk1 : kd = 1 := (nI_eq (b := 1) (by omega) (by omega)).mp h1
      rw [if_pos h1, show inb (1 : Int32) 48 = true from by decide, gd_t, show (1 : Int32).toNatClampNeg = 1 from by decide, f1, if_pos (show (2 : Int32) ≤ nI R from nI_le (a := 2) (by omega) (by omega)), e2]
    · rw [if_neg h1, e2]
