/-! questions: layouts, calls -/
theorem bh_ly_big {K E : Nat} : ∀ (n : Nat) {w : Nat → Int} {k : Nat}, k < K → (n : Int) < w k → bh_ly K E n w = []
  | 0, w, k, hk, h => by
    unfold bh_ly
    rw [if_neg]
    intro h2
    have := of_decide_eq_true (bh_al_iff.mp h2 k hk)
    omega
  | n + 1, w, k, hk, h => by
    unfold bh_ly
    rw [List.flatMap_eq_nil_iff]
    intro s _
    rw [bh_ly_big n hk (by show (n : Int) < w k - _; have := Nat.mod_lt (s / 2 ^ k) (show 0 < 2 by omega); omega)]; rfl
theorem bh_lt3 {G : GM} {s i : Nat} {M : Int64} {b : Nat} (hM : M = lN b) (hb : b < 2 ^ 31) : (0 : Int64) ≤ gJ G (64 + s) i ∧ gJ G (64 + s) i ≤ M ↔ ¬ gJ G (64 + s) i < 0 ∧ bh_sh G s i ≤ b := by
  constructor
  · rintro ⟨h1, h2⟩
    have h0 : ¬ gJ G (64 + s) i < 0 := Int64.not_lt.mpr h1
    obtain ⟨e1, e2⟩ := bh_sh_lN h0
    rw [e1, hM] at h2
    exact ⟨h0, (pk_lLE e2 (by omega)).mp h2⟩
  · rintro ⟨h0, h2⟩
    obtain ⟨e1, e2⟩ := bh_sh_lN h0
    refine ⟨Int64.not_lt.mp h0, ?_⟩
    rw [e1, hM]
    exact (pk_lLE e2 (by omega)).mpr h2
theorem q_layouts (x1 : Int32) : bh_Qy (f_X9_layouts x1) (f_X10_layouts_ x1) := by
  intro G hR
  have hh := bh_nwc hR
  have fT := bh_thr G
  rcases hR.2.2.2.2.1 with h0 | ⟨ln, C, R, E, K, m, pu, bb, z, sv, cl, pr, hN, hC, hM⟩
  · have h02 := bh_sc0 hh h0 fT
    exact bh_qy hR (v := (-2 : Int32)) (by unfold f_X9_layouts; rw [c_noHall rfl h0, ob_s, bh_i0]) (by unfold f_X10_layouts_; rw [lt_r, m_whyN' _ h02, ob_s, if_neg (by decide)]) (bh_Fr _ _) (bh_thr G)
  have hM2 := bh_scM hN hM fT
  have hV := hN.2.1
  have h45 := bh_N45 hV
  have hbC := hV.1
  have hbR := hV.2.1
  have hbE := hV.2.2.1
  have hbK := hV.2.2.2.1
  have hbm := hN.2.2.1
  have hp := hN.2.2.2.2.2.2.2
  rcases bh_cls (x := x1) (p := fun j => j < 4) with ⟨s, hs, rfl⟩ | ns
  rotate_left
  · exact bh_qy hR (v := (-2 : Int32)) (by unfold f_X9_layouts; rw [c_isHall rfl hN hC, ob_s, bh_i1, isSlot_x (by exact ns), ob_s, bh_i0]) (by unfold f_X10_layouts_; rw [lt_r, m_why0 ns, ob_s, if_neg (by decide)]) (bh_Fr _ _) (bh_thr G)
  rcases hR.1 s hs with ⟨u0, u1⟩ | ⟨u1, w, n, hw, hn, e187, e69, e68, e188, ev⟩
  · exact bh_qy hR (v := (-6 : Int32)) (by unfold f_X9_layouts; rw [c_isHall rfl hN hC, ob_s, bh_i1, isSlot_n hs, ob_s, bh_i1, hasRow_0 hs u0, ob_s, bh_i0]) (by unfold f_X10_layouts_; rw [lt_r, m_why6 hN hM2 hs u1, ob_s, if_neg (by decide)]) (bh_Fr _ _) (bh_thr G)
  have why := m_why1 hN hM2 hs hw (by rw [gI_sIa (by omega)]; exact e187)
  have e188' : gI (sI G 186 0 0) 188 s = nI n := by rw [gI_sIa (by omega)]; exact e188
  have f3 : gI (sI G 186 0 0) 193 3 = nI K := hM2.2.1.2.2.2.1
  have f3c : gI G (nw G + 1) 3 = nI K := hC.2.1.1.2.2.2
  have f1c : gI G (nw G + 1) 1 = nI R := hC.2.1.1.2.1
  have i3 : inb (3 : Int32) 48 = true := by decide
  have c3 : (3 : Int32).toNatClampNeg = 3 := by decide
  by_cases hnK : n = K
  rotate_left
  · exact bh_qy hR (v := (-7 : Int32)) (by unfold f_X9_layouts; rw [c_isHall rfl hN hC, ob_s, bh_i1, isSlot_n hs, ob_s, bh_i1, hasRow_1 hs u1, ob_s, bh_i1, lengthOf_1 hs u1 e68, ob_s, f3c, if_neg (by rw [nI_eq (by omega) (by omega)]; exact hnK)]) (by unfold f_X10_layouts_; rw [lt_r, why, ob_s, if_pos rfl, inb_n hs (by omega), gd_t, i3, gd_t, nI_clamp (by omega), c3, e188', f3, if_neg (by rw [nI_eq (by omega) (by omega)]; exact hnK)]) (bh_Fr _ _) fT
  subst hnK
  have cw : ∀ o, wl2 FU (lp_X9_layouts_66 (nI s) (nw G + 1)) (0 : Int32) (0 : Int32) G = o → f_X9_layouts (nI s) G = o := fun o ho => by unfold f_X9_layouts; rw [c_isHall rfl hN hC, ob_s, bh_i1, isSlot_n hs, ob_s, bh_i1, hasRow_1 hs u1, ob_s, bh_i1, lengthOf_1 hs u1 e68, ob_s, f3c, if_pos rfl]; exact ho
  have mw : ∀ o, wl1 FU (lp_X10_layouts__37 (nI s)) (0 : Int32) (sI G 186 0 0) = o → f_X10_layouts_ (nI s) G = o := fun o ho => by unfold f_X10_layouts_; rw [lt_r, why, ob_s, if_pos rfl, inb_n hs (by omega), gd_t, i3, gd_t, nI_clamp (by omega), c3, e188', f3, if_pos rfl]; exact ho
  obtain ⟨sh, esh⟩ : ∃ sh, sh = bh_sh G s := ⟨_, rfl⟩
  -- the reference: all in 0 .. 3, or nothing
  have mlong : (∀ i, i < n → ¬ gJ G (64 + s) i < 0 ∧ sh i ≤ 3) → ∃ G2, wl1 FU (lp_X10_layouts__37 (nI s)) (0 : Int32) (sI G 186 0 0) = some (nI (bh_ly n E R (fun k => (sh k : Int))).length, G2) ∧ bh_F bh_SCR (sI G 186 0 0) G2 := fun hall => by
    refine wl1_up (P := fun o => ∃ G2, o = some (nI (bh_ly n E R (fun k => (sh k : Int))).length, G2) ∧ bh_F bh_SCR (sI G 186 0 0) G2) (I := fun i G' => (∀ j, j < i → gI G' 202 j = nI (sh j)) ∧ bh_F (fun a _ => a = 202) (sI G 186 0 0) G') (N := n) (by omega) ?_ (n := FU) (i := 0) (Nat.zero_le _) ⟨fun j hj => absurd hj (Nat.not_lt_zero _), bh_Fr _ _⟩ (by unfold FU; omega)
    rintro kc i G' hi' ⟨q1, F1⟩ hk
    unfold lp_X10_layouts__37
    rw [inb_n hs (by omega), gd_t, nI_clamp (by omega), F1.1 _ _ (by omega), e188']
    by_cases hi : i < n
    · obtain ⟨h0, h3⟩ := hall i hi
      have e1 := (bh_sh_lN h0).1
      rw [← esh] at e1
      have g1 : gJ G' 189 (60 * s + i) = gJ G (64 + s) i := by rw [F1.2.1 _ _ (by omega), gJ_sI]; exact (ev i hi).symm
      rw [if_neg (nI_ge hi (by omega)), show (60 : Int32) = nI 60 from rfl, pk_mul, nI_add, inb_n (by omega) (by omega), gd_t, nI_clamp (by omega), g1, in_t ((bh_lt3 (M := 3) (b := 3) rfl (by omega)).mpr ⟨h0, by rw [← esh]; exact h3⟩), ob_s, if_neg (by decide), gd_t, inb_n (by omega) (by omega), gd_t, nI_clamp (by omega), g1, e1, lN_i, lt_r, nI_1]
      refine hk hi _ ⟨fun j hj => ?_, bh_FI F1 rfl⟩
      rw [gI_sI]
      by_cases hji : j = i
      · rw [hji, if_pos ⟨rfl, rfl⟩]
      · rw [if_neg (fun q => hji q.2)]; exact q1 j (by omega)
    · have hi2 : i = n := by omega
      subst hi2
      have hMO := bh_MO_F hM2.2.1 F1 (fun q _ _ h => by omega) (fun q _ _ h => by omega) hbK.2
      obtain ⟨G2, e2, p2, -, -, F2⟩ := bh_layoutOf (G := G') (w := 0) (wi := (-1 : Int32)) (wt := fun k => (sh k : Int)) hMO (by omega) hbR.2 hbE.2 hbK.2 (fun k hk => ⟨by rw [q1 k hk]; exact nZ_n _, Int.natCast_nonneg _, by have := (hall k hk).2; show ((sh k : Nat) : Int) ≤ 1000; omega⟩)
      rw [if_pos (nI_le (by omega) (by omega)), show f_X10_layoutOf (0 : Int32) (-1) G' = _ from e2, ov_s, p2]
      exact ⟨G2, rfl, bh_Ft (bh_Fm F1 (fun a q h => scr_e (by omega))) (bh_Fm F2 (fun a q h => h.elim (fun h => scr_d (by omega)) (fun h => scr_e (by omega))))⟩
  have mshort : ¬ (∀ i, i < n → ¬ gJ G (64 + s) i < 0 ∧ sh i ≤ 3) → ∃ G2, wl1 FU (lp_X10_layouts__37 (nI s)) (0 : Int32) (sI G 186 0 0) = some ((0 : Int32), G2) ∧ bh_F bh_SCR (sI G 186 0 0) G2 := fun hno => by
    refine wl1_up (P := fun o => ∃ G2, o = some ((0 : Int32), G2) ∧ bh_F bh_SCR (sI G 186 0 0) G2) (I := fun i G' => (∀ j, j < i → ¬ gJ G (64 + s) j < 0 ∧ sh j ≤ 3) ∧ bh_F (fun a _ => a = 202) (sI G 186 0 0) G') (N := n) (by omega) ?_ (n := FU) (i := 0) (Nat.zero_le _) ⟨fun j hj => absurd hj (Nat.not_lt_zero _), bh_Fr _ _⟩ (by unfold FU; omega)
    rintro kc i G' hi' ⟨q1, F1⟩ hk
    unfold lp_X10_layouts__37
    rw [inb_n hs (by omega), gd_t, nI_clamp (by omega), F1.1 _ _ (by omega), e188']
    by_cases hi : i < n
    · have g1 : gJ G' 189 (60 * s + i) = gJ G (64 + s) i := by rw [F1.2.1 _ _ (by omega), gJ_sI]; exact (ev i hi).symm
      rw [if_neg (nI_ge hi (by omega)), show (60 : Int32) = nI 60 from rfl, pk_mul, nI_add, inb_n (by omega) (by omega), gd_t, nI_clamp (by omega), g1]
      by_cases hg : ¬ gJ G (64 + s) i < 0 ∧ sh i ≤ 3
      · rw [in_t ((bh_lt3 (M := 3) (b := 3) rfl (by omega)).mpr ⟨hg.1, by rw [← esh]; exact hg.2⟩), ob_s, if_neg (by decide), gd_t, inb_n (by omega) (by omega), gd_t, lt_r, nI_1]
        refine hk hi _ ⟨fun j hj => ?_, bh_FI F1 rfl⟩
        by_cases hji : j = i
        · subst hji; exact hg
        · exact q1 j (by omega)
      · rw [in_f (fun h => hg (by have := (bh_lt3 (M := 3) (b := 3) rfl (by omega)).mp h; rw [← esh] at this; exact this)), ob_s, if_pos rfl]
        exact ⟨G', rfl, bh_Fm F1 (fun a q h => scr_e (by omega))⟩
    · exact absurd (fun j hj => q1 j (by omega)) hno
  by_cases hcl : ∀ i, i < n → ¬ gJ G (64 + s) i < 0 ∧ sh i ≤ R
  · obtain ⟨G2, e2, F2⟩ := mlong (fun i hi => ⟨(hcl i hi).1, by have := (hcl i hi).2; omega⟩)
    have hok := bh_PSok (K := n) (z := sh) hbK.2 (fun k hk => by have := (hcl k hk).2; omega)
    have hpk := bh_sm_pk (z := sh) hbK.2 (fun k hk => by have := (hcl k hk).2; omega)
    have hlen : (bh_sq (bh_st n E) R (bh_PS n sh)).length = (bh_ly n E R (fun k => (sh k : Int))).length := by
      rw [bh_ly_sq (by omega) (by omega) R (r := bh_PS n sh) (w := fun k => (sh k : Int)) ⟨hok.1, fun k hk => by have := hok.2.1 k hk; omega, hok.2.2⟩ (fun k hk => by
        have := hpk.2 k (by omega)
        rw [if_pos hk] at this
        show (sh k : Int) = ((bh_dg (bh_PS n sh) k : Nat) : Int)
        unfold bh_PS
        rw [this]), List.length_map]
    refine bh_qy hR (v := nI (bh_ly n E R (fun k => (sh k : Int))).length) (G1 := G) (G2 := G2) (cw _ ?_) (mw _ e2) (bh_Fr _ _) (bh_Ft fT F2)
    clear mshort mlong
    refine wl2_up (P := fun o => o = some (nI (bh_ly n E R (fun k => (sh k : Int))).length, G)) (I := fun i y G' => G' = G ∧ y = nI (bh_sm (fun k => bh_pk k (sh k)) i)) (N := n) (by omega) ?_ (n := FU) (i := 0) (Nat.zero_le _) ⟨rfl, rfl⟩ (by unfold FU; omega)
    rintro kc i _ G' hi' ⟨rfl, rfl⟩ hk
    unfold lp_X9_layouts_66
    rw [f3c]
    by_cases hi : i < n
    · obtain ⟨h0, hle⟩ := hcl i hi
      obtain ⟨e1, e1b⟩ := bh_sh_lN h0
      rw [← esh] at e1 e1b
      rw [if_neg (nI_ge hi (by omega)), valueAt_1 hs u1 e68 (by omega) hi, ob_s, if_neg (fun h => h0 ((lg_lt0 _ _).mp h)), f1c, e1, if_pos ((lg_le0 _ _).mpr (by rw [nI_l (by omega)]; exact (pk_lLE e1b (by omega)).mpr hle)), lN_i, bh_packed (by omega) (by omega), ob_s, nI_add, lt_r, nI_1]
      exact hk hi _ _ ⟨rfl, rfl⟩
    · have hi2 : i = n := by omega
      rw [if_pos (nI_le (by omega) (by omega)), f1c, hi2]
      have := bh_waysOf (G := G') (v := nw G' + 1 + 6) hC.2.1.2.2.2.2.1 (bh_st_PL hbK.2 hbE.2) hbK.2 (by omega) (by omega) (by omega) 3 R (bh_PS n sh) hbR.2 hbR.2 hok
      rw [show f_X6_waysOf 4 (nw G' + 1 + 6) (nI R) (nI (bh_sm (fun k => bh_pk k (sh k)) n)) G' = _ from this, ob_s, hlen]
  · have m0 : ∃ G2, wl1 FU (lp_X10_layouts__37 (nI s)) (0 : Int32) (sI G 186 0 0) = some ((0 : Int32), G2) ∧ bh_F bh_SCR (sI G 186 0 0) G2 := by
      by_cases hall : ∀ i, i < n → ¬ gJ G (64 + s) i < 0 ∧ sh i ≤ 3
      · obtain ⟨G2, e2, F2⟩ := mlong hall
        have : ∃ k, k < n ∧ R < sh k := by
          apply Classical.byContradiction
          intro hn
          refine hcl fun i hi => ⟨(hall i hi).1, Nat.le_of_not_lt fun h => hn ⟨i, hi, h⟩⟩
        obtain ⟨k, hk, hRk⟩ := this
        have hl : bh_ly n E R (fun k => (sh k : Int)) = [] := bh_ly_big R hk (by show (R : Int) < ((sh k : Nat) : Int); exact Int.ofNat_lt.mpr hRk)
        rw [hl] at e2
        exact ⟨G2, e2, F2⟩
      · exact mshort hall
    obtain ⟨G2, e2, F2⟩ := m0
    clear mshort mlong
    refine bh_qy hR (v := (0 : Int32)) (G1 := G) (G2 := G2) (cw _ ?_) (mw _ e2) (bh_Fr _ _) (bh_Ft fT F2)
    refine wl2_up (P := fun o => o = some ((0 : Int32), G)) (I := fun i y G' => G' = G ∧ ∀ j, j < i → ¬ gJ G (64 + s) j < 0 ∧ sh j ≤ R) (N := n) (by omega) ?_ (n := FU) (i := 0) (Nat.zero_le _) ⟨rfl, fun j hj => absurd hj (Nat.not_lt_zero _)⟩ (by unfold FU; omega)
    rintro kc i y G' hi' ⟨rfl, q1⟩ hk
    unfold lp_X9_layouts_66
    rw [f3c]
    by_cases hi : i < n
    · rw [if_neg (nI_ge hi (by omega)), valueAt_1 hs u1 e68 (by omega) hi, ob_s]
      by_cases h0 : gJ G' (64 + s) i < 0
      · rw [if_pos ((lg_lt0 _ _).mpr h0)]
      · obtain ⟨e1, e1b⟩ := bh_sh_lN h0
        rw [← esh] at e1 e1b
        rw [if_neg (fun h => h0 ((lg_lt0 _ _).mp h)), f1c]
        by_cases hle : sh i ≤ R
        · rw [e1, if_pos ((lg_le0 _ _).mpr (by rw [nI_l (by omega)]; exact (pk_lLE e1b (by omega)).mpr hle)), lN_i, bh_packed (by omega) (by omega), ob_s, lt_r, nI_1]
          refine hk hi _ _ ⟨rfl, fun j hj => ?_⟩
          by_cases hji : j = i
          · subst hji; exact ⟨h0, hle⟩
          · exact q1 j (by omega)
        · rw [if_neg (fun h => hle (by
            have := (lg_le0 _ _).mp h
            rw [e1, nI_l (by omega)] at this
            exact (pk_lLE e1b (by omega)).mp this))]
    · exact absurd (fun j hj => q1 j (by omega)) hcl
/-- so many numbers within bounds, none twice: each of them once -/
theorem bh_ones {f : Nat → Nat} : ∀ {n : Nat}, (∀ k, k < n → f k ≤ 1) → bh_sm f n = n → ∀ k, k < n → f k = 1
  | 0, _, _, k, hk => absurd hk (Nat.not_lt_zero _)
  | n + 1, h1, hs, k, hk => by
    have hb := bh_sm_bd (f := f) (m := 1) (n := n) (fun i hi => h1 i (by omega))
    have hs : bh_sm f n + f n = n + 1 := hs
    have := h1 n (by omega)
    by_cases hkn : k = n
    · subst hkn; omega
    · exact bh_ones (n := n) (fun i hi => h1 i (by omega)) (by omega) k (by omega)
theorem bh_prm_of {n : Nat} {a : Nat → Nat} (h1 : ∀ i, i < n → 1 ≤ a i ∧ a i < 1 + n) (h2 : ∀ i j, i < n → j < n → a i = a j → i = j) : bh_prm n 1 a := by
  refine ⟨h1, h2, ?_⟩
  have hs : bh_sm (fun v => bh_sm (fun i => if a i = 1 + v then 1 else 0) n) n = n := by
    rw [bh_sm_swap]
    have : ∀ i, i < n → bh_sm (fun v => if a i = 1 + v then 1 else 0) n = 1 := fun i hi => by
      have := h1 i hi
      exact bh_sm_one (k := a i - 1) (by omega) (if_pos (by omega)) (fun j _ hne => if_neg (by omega))
    rw [bh_sm_congr (g := fun _ => 1) this]
    have one : ∀ m, bh_sm (fun _ => 1) m = m := fun m => by
      induction m with
      | zero => rfl
      | succ m ih =>
        show bh_sm (fun _ => 1) m + 1 = m + 1
        rw [ih]
    exact one n
  have hle : ∀ v, v < n → bh_sm (fun i => if a i = 1 + v then 1 else 0) n ≤ 1 := fun v _ => by
    by_cases he : ∃ i, i < n ∧ a i = 1 + v
    · obtain ⟨i, hi, he⟩ := he
      have : bh_sm (fun i => if a i = 1 + v then 1 else 0) n = 1 := bh_sm_one (k := i) hi (if_pos he) (fun j hj hne => if_neg (fun q => hne (h2 j i hj hi (by rw [q, he]))))
      omega
    · have : bh_sm (fun i => if a i = 1 + v then 1 else 0) n = 0 := bh_sm_0.mpr (fun i hi => if_neg (fun q => he ⟨i, hi, q⟩))
      omega
  intro v hv1 hv2
  have := bh_ones hle hs (v - 1) (by omega)
  apply Classical.byContradiction
  intro hn
  have h0 : bh_sm (fun i => if a i = 1 + (v - 1) then 1 else 0) n = 0 := bh_sm_0.mpr (fun i hi => if_neg (fun q => hn ⟨i, hi, by clear hn; omega⟩))
  clear hn
  omega
theorem bh_shr1 : ∀ k, k < 46 → (((lN k).toInt32.toInt64 &&& 63).toBitVec.smod 64).toNat = k := by decide +kernel
theorem bh_and1 (x : Int64) : (x &&& (1 : Int64) = 1) ↔ bh_tb x 0 = true := by
  rw [← Int64.toBitVec_inj]
  show (x.toBitVec &&& 1#64 = 1#64) ↔ x.toBitVec.getLsbD 0 = true
  constructor
  · intro h
    have := congrArg (fun b => b.getLsbD 0) h
    simpa using this
  · intro h
    apply BitVec.eq_of_getLsbD_eq
    intro i hi
    rw [BitVec.getLsbD_and]
    by_cases h0 : i = 0
    · subst h0
      rw [h]; simp
    · simp [h0]
theorem bh_tbS {x : Int64} {k : Nat} (hk : k < 46) : bh_tb (x >>> ((lN k).toInt32.toInt64 &&& 63)) 0 = bh_tb x k := by
  show (x.toBitVec.sshiftRight' (((lN k).toInt32.toInt64 &&& 63).toBitVec.smod 64)).getLsbD 0 = x.toBitVec.getLsbD k
  rw [BitVec.getLsbD_sshiftRight', bh_shr1 k hk]
  simp
  omega
theorem bh_seen {x : Int64} {k : Nat} (hk : k < 46) : (lg_cmp ((x >>> ((lN k).toInt32.toInt64 &&& 63)) &&& (1 : Int64)) (1 : Int64) = 0) ↔ bh_tb x k = true := by
  rw [lg_eq0, bh_and1, bh_tbS hk]
theorem bh_shl2 : ∀ k, k < 46 → ((lN k).toInt32.toInt64 &&& 63) = ((nI k).toInt64 &&& 63) := by decide +kernel
/-- a row is each number once -/
def bh_eno (G : GM) (s n N : Nat) : Prop := n = N ∧ (∀ i, i < n → ¬ gJ G (64 + s) i < 0 ∧ 1 ≤ bh_sh G s i ∧ bh_sh G s i ≤ N) ∧ ∀ i j, i < n → j < i → bh_sh G s j ≠ bh_sh G s i
theorem bh_lt1 {G : GM} {s i N : Nat} (hN : N < 2 ^ 31) : (1 : Int64) ≤ gJ G (64 + s) i ∧ gJ G (64 + s) i ≤ (nI N).toInt64 ↔ ¬ gJ G (64 + s) i < 0 ∧ 1 ≤ bh_sh G s i ∧ bh_sh G s i ≤ N := by
  rw [nI_l hN]
  constructor
  · rintro ⟨h1, h2⟩
    have h0 : ¬ gJ G (64 + s) i < 0 := by
      intro h
      rw [Int64.lt_iff_toInt_lt, show (0 : Int64).toInt = 0 from by decide] at h
      rw [Int64.le_iff_toInt_le, show (1 : Int64).toInt = 1 from by decide] at h1
      omega
    obtain ⟨e1, e2⟩ := bh_sh_lN h0
    rw [e1] at h1 h2
    exact ⟨h0, (pk_lLE (a := 1) (by omega) e2).mp h1, (pk_lLE e2 (by omega)).mp h2⟩
  · rintro ⟨h0, h1, h2⟩
    obtain ⟨e1, e2⟩ := bh_sh_lN h0
    rw [e1]
    exact ⟨(pk_lLE (a := 1) (by omega) e2).mpr h1, (pk_lLE e2 (by omega)).mpr h2⟩
theorem c_eno {G : GM} {h s n N : Nat} (hn : nw G = h) (e6 : gI G (h + 1) 6 = nI N) (hN : N ≤ 45) (hs : s < 4) (u1 : gI G 70 s = 1) (e68 : gI G 68 s = nI n) (hn6 : n ≤ 60) : ∃ v, f_X9_isEachNumberOnce (nI s) G = some (v, G) ∧ (bh_eno G s n N → v = 1) ∧ (¬ bh_eno G s n N → v = 0) := by
  unfold f_X9_isEachNumberOnce
  rw [lengthOf_1 hs u1 e68, ob_s, hn, e6]
  by_cases hnN : n = N
  · rw [if_pos (by rw [hnN])]
    refine wl2_up (P := fun o => ∃ v, o = some (v, G) ∧ (bh_eno G s n N → v = 1) ∧ (¬ bh_eno G s n N → v = 0)) (I := fun i y G' => G' = G ∧ (∀ j, j < i → ¬ gJ G (64 + s) j < 0 ∧ 1 ≤ bh_sh G s j ∧ bh_sh G s j ≤ N) ∧ (∀ j k, j < i → k < j → bh_sh G s k ≠ bh_sh G s j) ∧ ∀ v, v < 46 → (bh_tb y v = true ↔ ∃ j, j < i ∧ bh_sh G s j = v)) (N := N) (by omega) ?_ (n := FU) (i := 0) (Nat.zero_le _) ⟨rfl, fun j hj => absurd hj (Nat.not_lt_zero _), fun j k hj => absurd hj (Nat.not_lt_zero _), fun v _ => ⟨fun q => (by rw [bh_tb0] at q; cases q), fun ⟨j, hj, _⟩ => absurd hj (Nat.not_lt_zero _)⟩⟩ (by unfold FU; omega)
    rintro kc i y G' hi' ⟨rfl, q1, q2, q3⟩ hk
    unfold lp_X9_isEachNumberOnce_28
    rw [hn, e6]
    by_cases hi : i < N
    · rw [if_neg (nI_ge hi (by omega)), valueAt_1 hs u1 e68 hn6 (by omega), ob_s]
      have bad : ¬ (¬ gJ G' (64 + s) i < 0 ∧ 1 ≤ bh_sh G' s i ∧ bh_sh G' s i ≤ N) → ¬ bh_eno G' s n N := fun hb he => hb (he.2.1 i (by omega))
      by_cases h1 : gJ G' (64 + s) i < 1
      · rw [if_pos ((lg_lt0 _ _).mpr h1)]
        have := bad (fun q => Int64.not_lt.mpr ((bh_lt1 (N := N) (by omega)).mpr q).1 h1)
        exact ⟨0, rfl, fun h => absurd h this, fun _ => rfl⟩
      · rw [if_neg (fun h => h1 ((lg_lt0 _ _).mp h)), hn, e6]
        by_cases h2 : (nI N).toInt64 < gJ G' (64 + s) i
        · rw [if_pos ((lg_gt0 _ _).mpr h2)]
          have := bad (fun q => Int64.not_lt.mpr ((bh_lt1 (N := N) (by omega)).mpr q).2 h2)
          exact ⟨0, rfl, fun h => absurd h this, fun _ => rfl⟩
        · have hg := (bh_lt1 (N := N) (by omega)).mp ⟨Int64.not_lt.mp h1, Int64.not_lt.mp h2⟩
          have e1 := (bh_sh_lN hg.1).1
          have hk46 : bh_sh G' s i < 46 := by omega
          rw [if_neg (fun h => h2 ((lg_gt0 _ _).mp h)), e1]
          by_cases h3 : bh_tb y (bh_sh G' s i) = true
          · rw [if_pos ((bh_seen hk46).mpr h3)]
            obtain ⟨j, hj, he⟩ := (q3 _ hk46).mp h3
            exact ⟨0, rfl, fun h => absurd he (h.2.2 i j (by omega) hj), fun _ => rfl⟩
          · rw [if_neg (fun h => h3 ((bh_seen hk46).mp h)), lt_r, nI_1]
            refine hk hi _ _ ⟨rfl, fun j hj => ?_, fun j k hj hkj => ?_, fun v hv => ?_⟩
            · by_cases hji : j = i
              · subst hji; exact hg
              · exact q1 j (by omega)
            · by_cases hji : j = i
              · subst hji
                exact fun he => h3 ((q3 _ hk46).mpr ⟨k, hkj, he⟩)
              · exact q2 j k (by omega) hkj
            · rw [bh_tbO, Bool.or_eq_true, q3 v hv, bh_shl2 _ hk46, bh_tb1 hk46 (by omega), decide_eq_true_iff]
              constructor
              · rintro (⟨j, hj, he⟩ | he)
                · exact ⟨j, by omega, he⟩
                · exact ⟨i, by omega, he⟩
              · rintro ⟨j, hj, he⟩
                by_cases hji : j = i
                · subst hji; exact Or.inr he
                · exact Or.inl ⟨j, by omega, he⟩
    · have hi2 : i = N := by omega
      rw [if_pos (nI_le (by omega) (by omega))]
      have : bh_eno G' s n N := ⟨hnN, fun j hj => q1 j (by omega), fun j k hj hkj => q2 j k (by omega) hkj⟩
      exact ⟨1, rfl, fun _ => rfl, fun h => absurd this h⟩
  · rw [if_neg (by rw [nI_eq (by omega) (by omega)]; exact hnN)]
    exact ⟨0, rfl, fun h => absurd h.1 hnN, fun _ => rfl⟩
theorem q_calls (x1 : Int32) : bh_Qy (f_X9_calls x1) (f_X10_calls x1) := by
  intro G hR
  have hh := bh_nwc hR
  have fT := bh_thr G
  rcases hR.2.2.2.2.1 with h0 | ⟨ln, C, R, E, K, m, pu, bb, z, sv, cl, pr, hN, hC, hM⟩
  · have h02 := bh_sc0 hh h0 fT
    exact bh_qy hR (v := (-2 : Int32)) (by unfold f_X9_calls; rw [c_noHall rfl h0, ob_s, bh_i0]) (by unfold f_X10_calls; rw [lt_r, m_whyN' _ h02, ob_s, if_neg (by decide)]) (bh_Fr _ _) (bh_thr G)
  have hM2 := bh_scM hN hM fT
  have hV := hN.2.1
  have h45 := bh_N45 hV
  have hbC := hV.1
  have hbR := hV.2.1
  have hbE := hV.2.2.1
  have hbK := hV.2.2.2.1
  have hbm := hN.2.2.1
  have hp := hN.2.2.2.2.2.2.2
  rcases bh_cls (x := x1) (p := fun j => j < 4) with ⟨s, hs, rfl⟩ | ns
  rotate_left
  · exact bh_qy hR (v := (-2 : Int32)) (by unfold f_X9_calls; rw [c_isHall rfl hN hC, ob_s, bh_i1, isSlot_x (by exact ns), ob_s, bh_i0]) (by unfold f_X10_calls; rw [lt_r, m_why0 ns, ob_s, if_neg (by decide)]) (bh_Fr _ _) (bh_thr G)
  rcases hR.1 s hs with ⟨u0, u1⟩ | ⟨u1, w, n, hw, hn, e187, e69, e68, e188, ev⟩
  · exact bh_qy hR (v := (-6 : Int32)) (by unfold f_X9_calls; rw [c_isHall rfl hN hC, ob_s, bh_i1, isSlot_n hs, ob_s, bh_i1, hasRow_0 hs u0, ob_s, bh_i0]) (by unfold f_X10_calls; rw [lt_r, m_why6 hN hM2 hs u1, ob_s, if_neg (by decide)]) (bh_Fr _ _) (bh_thr G)
  have e6 : gI G (nw G + 1) 6 = nI (C * R * E) := by rw [hC.2.1.2.1.1, hV.2.2.2.2.2.2.1]
  obtain ⟨v9, e9, a1, a0⟩ := c_eno (G := G) rfl e6 h45 hs u1 e68 hn
  -- the reference asks the same, on any memory that keeps slots and hall
  have mwhy : ∀ (G1 : GM) (o : Option (Int32 × GM)), (∀ a q, ((64 ≤ a ∧ a ≤ 70) ∨ (187 ≤ a ∧ a ≤ 189)) → gI G1 a q = gI G a q ∧ gJ G1 a q = gJ G a q) → bh_HM (sI G1 186 0 0) 0 ln C R E K m pu bb z sv cl pr → (if n = C * R * E then wl1 FU (lp_X10_calls_35 (nI s)) (0 : Int32) (sI G1 186 0 0) else some ((-2 : Int32), sI G1 186 0 0)) = o → f_X10_calls (nI s) G1 = o := fun G1 o hst hM1 ho => by
    unfold f_X10_calls
    rw [lt_r, m_why1 hN hM1 hs hw (by rw [gI_sIa (by omega), (hst _ _ (by omega)).1]; exact e187), ob_s, if_pos rfl, inb_n hs (by omega), gd_t, m_all hN hM1, ob_s, nI_clamp (by omega), gI_sIa (by omega), (hst _ _ (by omega)).1, e188]
    by_cases hnN : n = C * R * E
    · rw [if_pos hnN] at ho
      rw [if_pos (by rw [hnN])]; exact ho
    · rw [if_neg hnN] at ho
      rw [if_neg (by rw [nI_eq (by omega) (by omega)]; exact hnN)]; exact ho
  have mloop : ∀ (G1 : GM) (Q : Option (Int32 × GM) → Prop), (∀ a q, ((64 ≤ a ∧ a ≤ 70) ∨ (187 ≤ a ∧ a ≤ 189)) → gI G1 a q = gI G a q ∧ gJ G1 a q = gJ G a q) → bh_HM (sI G1 186 0 0) 0 ln C R E K m pu bb z sv cl pr → n = C * R * E → (¬ bh_eno G s n (C * R * E) → Q (some ((-2 : Int32), sI G1 186 0 0))) → (bh_eno G s n (C * R * E) → Q (wl1 FU (lp_X10_calls_119 (nI s)) (0 : Int32) (sI G1 186 0 0))) → Q (wl1 FU (lp_X10_calls_35 (nI s)) (0 : Int32) (sI G1 186 0 0)) := fun G1 Q hst hM1 hnN q0 q1 => by
    have st188 : gI (sI G1 186 0 0) 188 s = nI n := by rw [gI_sIa (by omega), (hst _ _ (by omega)).1]; exact e188
    have st189 : ∀ i, i < n → gJ (sI G1 186 0 0) 189 (60 * s + i) = gJ G (64 + s) i := fun i hi => by rw [gJ_sI, (hst _ _ (by omega)).2]; exact (ev i hi).symm
    refine wl1_up (P := Q) (I := fun i G' => G' = sI G1 186 0 0 ∧ (∀ j, j < i → ¬ gJ G (64 + s) j < 0 ∧ 1 ≤ bh_sh G s j ∧ bh_sh G s j ≤ C * R * E) ∧ ∀ j k, j < i → k < j → bh_sh G s k ≠ bh_sh G s j) (N := n) (by omega) ?_ (n := FU) (i := 0) (Nat.zero_le _) ⟨rfl, fun j hj => absurd hj (Nat.not_lt_zero _), fun j k hj => absurd hj (Nat.not_lt_zero _)⟩ (by unfold FU; omega)
    rintro kc i G' hi' ⟨rfl, p1, p2⟩ hk
    unfold lp_X10_calls_35
    rw [inb_n hs (by omega), gd_t, nI_clamp (by omega), st188]
    by_cases hi : i < n
    · have isN : f_X10_isNumber (gJ G (64 + s) i) (sI G1 186 0 0) = some ((if (1 : Int64) ≤ gJ G (64 + s) i ∧ gJ G (64 + s) i ≤ (nI (C * R * E)).toInt64 then 1 else 0), sI G1 186 0 0) := by
        unfold f_X10_isNumber
        rw [m_isHall hN hM1, ob_s, bh_i1, m_all hN hM1, ob_s, f_in_eq, ob_s]
        by_cases hg : (1 : Int64) ≤ gJ G (64 + s) i ∧ gJ G (64 + s) i ≤ (nI (C * R * E)).toInt64
        · rw [if_pos hg, if_neg (by decide)]
        · rw [if_neg hg, if_pos rfl]
      rw [if_neg (nI_ge hi (by omega)), show (60 : Int32) = nI 60 from rfl, pk_mul, nI_add, inb_n (by omega) (by omega), gd_t, nI_clamp (by omega), st189 i hi, isN, ob_s]
      by_cases hg : (1 : Int64) ≤ gJ G (64 + s) i ∧ gJ G (64 + s) i ≤ (nI (C * R * E)).toInt64
      · have hg2 := (bh_lt1 (by omega)).mp hg
        rw [if_pos hg, if_neg (by decide)]
        refine wl1_up (P := Q) (I := fun k G' => G' = sI G1 186 0 0 ∧ ∀ k', k' < k → bh_sh G s k' ≠ bh_sh G s i) (N := i) (by omega) ?_ (n := FU) (i := 0) (Nat.zero_le _) ⟨rfl, fun k hk => absurd hk (Nat.not_lt_zero _)⟩ (by unfold FU; omega)
        rintro kc2 k G' hk' ⟨rfl, p3⟩ hk2
        unfold lp_X10_calls_69
        by_cases hki : k < i
        · have hgk := p1 k hki
          rw [if_neg (nI_ge hki (by omega)), show (60 : Int32) = nI 60 from rfl, pk_mul, nI_add, nI_add, inb_n (by omega) (by omega), gd_t, inb_n (by omega) (by omega), gd_t, nI_clamp (by omega), nI_clamp (by omega), st189 i hi, st189 k (by omega), (bh_sh_lN hg2.1).1, (bh_sh_lN hgk.1).1]
          by_cases he : bh_sh G s k = bh_sh G s i
          · rw [if_pos ((lg_eq0 _ _).mpr (by rw [he]))]
            exact q0 (fun h => h.2.2 i k hi hki he)
          · rw [if_neg (fun h => he ((pk_lEQ (by omega) (by omega)).mp ((lg_eq0 _ _).mp h))), nI_1]
            refine hk2 hki _ ⟨rfl, fun k' hk' => ?_⟩
            by_cases hkk : k' = k
            · subst hkk; exact he
            · exact p3 k' (by omega)
        · have hk2' : k = i := by omega
          rw [if_pos (nI_le (by omega) (by omega)), nI_1]
          refine hk hi _ ⟨rfl, fun j hj => ?_, fun j k'' hj hkj => ?_⟩
          · by_cases hji : j = i
            · subst hji; exact hg2
            · exact p1 j (by omega)
          · by_cases hji : j = i
            · subst hji; exact p3 k'' (by omega)
            · exact p2 j k'' (by omega) hkj
      · rw [if_neg hg, if_pos rfl]
        exact q0 (fun h => hg ((bh_lt1 (by omega)).mpr (h.2.1 i hi)))
    · have hi2 : i = n := by omega
      rw [if_pos (nI_le (by omega) (by omega))]
      exact q1 ⟨hnN, fun j hj => p1 j (by omega), fun j k hj hkj => p2 j k (by omega) hkj⟩
  by_cases hgood : bh_eno G s n (C * R * E)
  rotate_left
  · refine bh_qy hR (v := (-2 : Int32)) (G1 := G) (G2 := sI G 186 0 0) (by unfold f_X9_calls; rw [c_isHall rfl hN hC, ob_s, bh_i1, isSlot_n hs, ob_s, bh_i1, hasRow_1 hs u1, ob_s, bh_i1, e9, ob_s, a0 hgood, bh_i0]) (mwhy G _ (fun _ _ _ => ⟨rfl, rfl⟩) hM2 ?_) (bh_Fr _ _) fT
    by_cases hnN : n = C * R * E
    · rw [if_pos hnN]
      exact mloop G (fun o => o = some ((-2 : Int32), sI G 186 0 0)) (fun _ _ _ => ⟨rfl, rfl⟩) hM2 hnN (fun _ => rfl) (fun h => absurd h hgood)
    · rw [if_neg hnN]
  have a1 := a1 hgood
  obtain ⟨hnN, hall, hdis⟩ := hgood
  obtain ⟨cl', ecl⟩ : ∃ cl', cl' = bh_sh G s := ⟨_, rfl⟩
  have hv : ∀ i, i < n → gJ G (64 + s) i = lN (cl' i) ∧ 1 ≤ cl' i ∧ cl' i ≤ C * R * E := fun i hi => by rw [ecl]; exact ⟨(bh_sh_lN (hall i hi).1).1, (hall i hi).2⟩
  have hp' : bh_prm (C * R * E) 1 cl' := bh_prm_of (fun i hi => by have := (hv i (by omega)).2; omega) (fun i j hi hj he => by
    rw [ecl] at he
    rcases Nat.lt_trichotomy i j with h | h | h
    · exact absurd he (hdis j i (by omega) h)
    · exact h
    · exact absurd he.symm (hdis i j (by omega) h))
  clear a0
  have cs : ∃ G', wl1 FU (lp_X9_calls_48 (nI s)) (0 : Int32) G = some ((0 : Int32), G') ∧ (∀ i, i < C * R * E → gI G' (nw G + 20) i = nI (cl' i) ∧ gI G' (nw G + 21) (cl' i) = nI (i + 1)) ∧ bh_F (fun a _ => a = nw G + 20 ∨ a = nw G + 21) G G' := by
    refine wl1_up (P := fun o => ∃ G', o = some ((0 : Int32), G') ∧ (∀ i, i < C * R * E → gI G' (nw G + 20) i = nI (cl' i) ∧ gI G' (nw G + 21) (cl' i) = nI (i + 1)) ∧ bh_F (fun a _ => a = nw G + 20 ∨ a = nw G + 21) G G') (I := fun i G1 => (∀ j, j < i → gI G1 (nw G + 20) j = nI (cl' j)) ∧ bh_F (fun a _ => a = nw G + 20) G G1) (N := C * R * E) (by omega) ?_ (n := FU) (i := 0) (Nat.zero_le _) ⟨fun j hj => absurd hj (Nat.not_lt_zero _), bh_Fr _ _⟩ (by unfold FU; omega)
    rintro kc i G1 hi' ⟨q1, F1⟩ hk
    have n1 : nw G1 = nw G := F1.2.2.1
    have e61 : gI G1 (nw G + 1) 6 = nI (C * R * E) := by rw [F1.1 _ _ (by omega)]; exact e6
    unfold lp_X9_calls_48
    rw [n1, e61]
    by_cases hi : i < C * R * E
    · rw [if_neg (nI_ge hi (by omega)), valueAt_1 hs (by rw [F1.1 _ _ (by omega)]; exact u1) (by rw [F1.1 _ _ (by omega)]; exact e68) hn (by omega), ob_s, F1.2.1 _ _ (by omega), (hv i (by omega)).1, lN_i, inb_n (by omega) (by omega), gd_t, lt_r, nI_clamp (by omega), nI_1]
      refine hk hi _ ⟨fun j hj => ?_, bh_FI F1 rfl⟩
      rw [gI_sI]
      by_cases hji : j = i
      · rw [hji, if_pos ⟨rfl, rfl⟩]
      · rw [if_neg (fun q => hji q.2)]; exact q1 j (by omega)
    · have hi2 : i = C * R * E := by omega
      subst hi2
      obtain ⟨G3, e3, a3, F3⟩ := c_note5 (h := nw G) ⟨(c_LN hh).1, (c_LN hh).2.1⟩ e61 h45 hp' q1
      rw [if_pos (nI_le (by omega) (by omega)), e3, ov_s]
      exact ⟨G3, rfl, fun i hi => ⟨by rw [F3.1 _ _ (by omega)]; exact q1 i hi, a3 i hi⟩, bh_Ft (bh_Fm F1 (fun a q h => Or.inl h)) (bh_Fm F3 (fun a q h => Or.inr h))⟩
  obtain ⟨G3, e3, q3, FC⟩ := cs
  have hC3 := bh_HC_cl hbm hC FC (fun a q h1 h2 => by omega) q3
  have FC' : bh_F (bh_WN (nw G)) G G3 := bh_Fm FC (fun a q h => Or.inr (Or.inl (by unfold bh_PH; omega)))
  have hM3 : bh_HM (sI G3 186 0 0) 0 ln C R E K m pu bb z sv cl pr := bh_HM_F hbm h45 hbK.2 hM (bh_FI (W := fun a q => a = 186 ∨ a ≤ 185) (bh_Fm FC (fun a q h => Or.inr (by omega))) (Or.inl rfl)) (fun a q h => by unfold bh_PM at h; omega)
  have hst : ∀ a q, ((64 ≤ a ∧ a ≤ 70) ∨ (187 ≤ a ∧ a ≤ 189)) → gI G3 a q = gI G a q ∧ gJ G3 a q = gJ G a q := fun a q h => ⟨FC.1 _ _ (by omega), FC.2.1 _ _ (by omega)⟩
  have ms : ∃ G', wl1 FU (lp_X10_calls_119 (nI s)) (0 : Int32) (sI G3 186 0 0) = some ((0 : Int32), G') ∧ (∀ i, i < C * R * E → gI G' 197 (45 * 0 + i) = nI (cl' i)) ∧ bh_F (fun a q => a = 197 ∧ q < 45) (sI G3 186 0 0) G' := by
    refine wl1_up (P := fun o => ∃ G', o = some ((0 : Int32), G') ∧ (∀ i, i < C * R * E → gI G' 197 (45 * 0 + i) = nI (cl' i)) ∧ bh_F (fun a q => a = 197 ∧ q < 45) (sI G3 186 0 0) G') (I := fun i G1 => (∀ j, j < i → gI G1 197 j = nI (cl' j)) ∧ bh_F (fun a q => a = 197 ∧ q < 45) (sI G3 186 0 0) G1) (N := n) (by omega) ?_ (n := FU) (i := 0) (Nat.zero_le _) ⟨fun j hj => absurd hj (Nat.not_lt_zero _), bh_Fr _ _⟩ (by unfold FU; omega)
    rintro kc i G1 hi' ⟨q1, F1⟩ hk
    have s188 : gI G1 188 s = nI n := by rw [F1.1 _ _ (by omega), gI_sIa (by omega), (hst _ _ (by omega)).1]; exact e188
    unfold lp_X10_calls_119
    rw [inb_n hs (by omega), gd_t, nI_clamp (by omega), s188]
    by_cases hi : i < n
    · have s189 : gJ G1 189 (60 * s + i) = lN (cl' i) := by rw [F1.2.1 _ _ (by omega), gJ_sI, (hst _ _ (by omega)).2, ← ev i hi]; exact (hv i hi).1
      rw [if_neg (nI_ge hi (by omega)), show (60 : Int32) = nI 60 from rfl, pk_mul, nI_add, inb_n (by omega) (by omega), gd_t, inb_n (by omega) (by omega), gd_t, lt_r, nI_clamp (by omega), nI_clamp (by omega), s189, lN_i, nI_1]
      refine hk hi _ ⟨fun j hj => ?_, bh_FI F1 ⟨rfl, by omega⟩⟩
      rw [gI_sI]
      by_cases hji : j = i
      · rw [hji, if_pos ⟨rfl, rfl⟩]
      · rw [if_neg (fun q => hji q.2)]; exact q1 j (by omega)
    · have hi2 : i = n := by omega
      rw [if_pos (nI_le (by omega) (by omega))]
      exact ⟨G1, rfl, fun j hj => by rw [Nat.mul_zero, Nat.zero_add]; exact q1 j (by omega), F1⟩
  obtain ⟨G2, e2, q2, F2⟩ := ms
  have hM4 := bh_HM_cl hbm hbK.2 hM3 F2 (fun a q h1 h2 => by omega) q2
  have hC4 := bh_HC_F hbm hC3 (bh_Ft (bh_FI (W := fun a q => 186 ≤ a) (v := 0) (k := 0) (bh_Fr _ G3) (Nat.le_refl 186)) (bh_Fm F2 (fun a q h => by omega))) (fun a q h => by unfold bh_PH at h; omega)
  have FA : bh_F (bh_WN (nw G)) G G2 := bh_Ft (bh_Ft FC' (bh_SCR_N (bh_thr G3))) (bh_Fm F2 (fun a q h => Or.inr (Or.inr (by unfold bh_PM; omega))))
  have hgood : bh_eno G s n (C * R * E) := ⟨hnN, hall, hdis⟩
  refine ⟨(0 : Int32), G3, G2, ?_, mwhy G3 _ hst hM3 ?_, bh_R_N hR FA (Or.inr ⟨ln, C, R, E, K, m, pu, bb, z, sv, cl', pr, bh_HN_cl hp' hN, hC4, hM4⟩)⟩
  · unfold f_X9_calls
    rw [c_isHall rfl hN hC, ob_s, bh_i1, isSlot_n hs, ob_s, bh_i1, hasRow_1 hs u1, ob_s, bh_i1, e9, ob_s, a1, bh_i1, e3]
  · rw [if_pos hnN]
    exact mloop G3 (fun o => o = some ((0 : Int32), G2)) hst hM3 hnN (fun h => absurd hgood h) (fun _ => e2)
