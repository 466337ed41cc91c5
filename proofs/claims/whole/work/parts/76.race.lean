/-! who is first: turns of the cards sold, both sides -/
def bh_mn (f : Nat → Nat) : Nat → Nat
  | 0 => 0
  | n + 1 => if n = 0 then f 0 else min (bh_mn f n) (f n)
theorem bh_mn_s (f : Nat → Nat) (n : Nat) : bh_mn f (n + 1) = if n = 0 then f 0 else min (bh_mn f n) (f n) := rfl
theorem bh_mn_is {f : Nat → Nat} : ∀ {n : Nat}, 0 < n → (∀ k, k < n → bh_mn f n ≤ f k) ∧ ∃ k, k < n ∧ f k = bh_mn f n
  | 0, h => absurd h (Nat.lt_irrefl _)
  | n + 1, _ => by
    rw [bh_mn_s]
    by_cases h0 : n = 0
    · subst h0
      rw [if_pos rfl]
      exact ⟨fun k hk => by rw [show k = 0 from by omega]; exact Nat.le_refl _, 0, by omega, rfl⟩
    · rw [if_neg h0]
      obtain ⟨h1, k, h2, h3⟩ := bh_mn_is (f := f) (n := n) (by omega)
      refine ⟨fun j hj => ?_, ?_⟩
      · by_cases hjn : j = n
        · subst hjn; omega
        · have := h1 j (by omega); omega
      · by_cases hc : bh_mn f n ≤ f n
        · exact ⟨k, by omega, by omega⟩
        · exact ⟨n, by omega, by omega⟩
theorem bh_mn_u {f : Nat → Nat} {n v : Nat} (h1 : ∀ k, k < n → v ≤ f k) (h2 : ∃ k, k < n ∧ f k = v) : bh_mn f n = v := by
  obtain ⟨k, hk, hv⟩ := h2
  obtain ⟨a1, j, hj, a2⟩ := bh_mn_is (f := f) (n := n) (by omega)
  have := h1 j hj
  have := a1 k hk
  omega
theorem bh_sm_flat {g : Nat → Nat} {C : Nat} : ∀ {m : Nat}, bh_sm g (m * C) = bh_sm (fun i => bh_sm (fun c => g (i * C + c)) C) m
  | 0 => by rw [Nat.zero_mul]; rfl
  | m + 1 => by
    have : ∀ c, bh_sm g (m * C + c) = bh_sm g (m * C) + bh_sm (fun c => g (m * C + c)) c := by
      intro c
      induction c with
      | zero => rfl
      | succ c ih =>
        show bh_sm g (m * C + c) + g (m * C + c) = _ + (_ + g (m * C + c))
        rw [ih, Nat.add_assoc]
    rw [Nat.succ_mul, this C, bh_sm_flat (m := m)]; rfl
theorem bh_dm {C i c : Nat} (hc : c < C) : (i * C + c) / C = i ∧ (i * C + c) % C = c := by
  have hC : 0 < C := by omega
  constructor
  · rw [Nat.add_comm, Nat.add_mul_div_right _ _ hC, Nat.div_eq_of_lt hc, Nat.zero_add]
  · rw [Nat.add_comm, Nat.add_mul_mod_self_right, Nat.mod_eq_of_lt hc]
theorem bh_ij {C m j : Nat} (hj : j < m * C) : j / C < m ∧ j % C < C ∧ j / C * C + j % C = j := by
  have hC : 0 < C := Nat.pos_of_ne_zero fun h => by subst h; omega
  refine ⟨(Nat.div_lt_iff_lt_mul hC).mpr hj, Nat.mod_lt _ hC, ?_⟩
  rw [Nat.mul_comm, Nat.div_add_mod]
theorem bh_ijlt {C m i c : Nat} (hi : i < m) (hc : c < C) : i * C + c < m * C := by
  have := Nat.mul_le_mul_right C (show i + 1 ≤ m from hi)
  rw [Nat.succ_mul] at this
  omega
section RC
variable {ln C R E K m pu bb : Nat} {z sv cl pr cl' : Nat → Nat}
def bh_tG (C R E K : Nat) (z sv cl : Nat → Nat) (kind i c : Nat) : Nat := bh_tO K R (bh_T C R E K z (sv i) cl c) kind
def bh_tQ (C R E K : Nat) (z sv cl : Nat → Nat) (kind i c : Nat) : Int32 := bh_tI K R (bh_T C R E K z (sv i) cl c) kind
def bh_FT (C R E K m : Nat) (z sv cl : Nat → Nat) (kind : Nat) : Int32 := if (kind = 1 ∧ R < 2) ∨ m = 0 then -1 else nI (bh_mn (fun j => bh_tG C R E K z sv cl kind (j / C) (j % C)) (m * C))
def bh_cW (C R E K : Nat) (z sv cl : Nat → Nat) (kind : Nat) (turn : Int32) (j : Nat) : Nat := bh_sm (fun j => if bh_tQ C R E K z sv cl kind (j / C) (j % C) = turn then 1 else 0) j
def bh_WC (C R E K m : Nat) (z sv cl : Nat → Nat) (kind : Nat) (turn : Int32) : Nat := if turn = -1 then 0 else bh_cW C R E K z sv cl kind turn (m * C)
theorem bh_cW_s (kind : Nat) (turn : Int32) (j : Nat) : bh_cW C R E K z sv cl kind turn (j + 1) = bh_cW C R E K z sv cl kind turn j + if bh_tQ C R E K z sv cl kind (j / C) (j % C) = turn then 1 else 0 := rfl
theorem bh_cW_le (kind : Nat) (turn : Int32) (j : Nat) : bh_cW C R E K z sv cl kind turn j ≤ j := by
  have := bh_sm_bd (f := fun j => if bh_tQ C R E K z sv cl kind (j / C) (j % C) = turn then 1 else 0) (m := 1) (n := j) (fun i _ => by split <;> omega)
  unfold bh_cW; omega
theorem bh_tQ_0 {kind i c : Nat} (h : kind = 1 ∧ R < 2) : bh_tQ C R E K z sv cl kind i c = -1 := if_pos h
theorem bh_tQ_1 {kind i c : Nat} (h : ¬ (kind = 1 ∧ R < 2)) : bh_tQ C R E K z sv cl kind i c = nI (bh_tG C R E K z sv cl kind i c) := if_neg h
theorem bh_tG_le (hV : bh_VH C R E K z) (hp : bh_prm (C * R * E) 1 cl) {kind i c : Nat} (hk : kind < 3) (hcan : ¬ (kind = 1 ∧ R < 2)) (hc : c < C) : bh_tG C R E K z sv cl kind i c ≤ C * R * E := bh_tO_le hV.2.1 hk hcan (fun r k hr hk => bh_T_le hV hp hc hr hk)
theorem bh_tG_pos (hV : bh_VH C R E K z) (hp : bh_prm (C * R * E) 1 cl) {kind i c : Nat} (hk : kind < 3) (hcan : ¬ (kind = 1 ∧ R < 2)) (hc : c < C) : 1 ≤ bh_tG C R E K z sv cl kind i c := by
  have hR := hV.2.1
  unfold bh_tG bh_tO
  have hj : (if kind = 2 then R - 1 else kind) < R := by
    by_cases h2 : kind = 2
    · rw [if_pos h2]; omega
    · rw [if_neg h2]; omega
  obtain ⟨r, hr, he⟩ := bh_srt_mem (a := bh_rT K (bh_T C R E K z (sv i) cl c)) hR.2 hj
  rw [he]
  obtain ⟨k0, hk0, h0⟩ := bh_row_some (s := sv i) hV hc hr
  have h1 := bh_mxf_le.mp (Nat.le_refl (bh_rT K (bh_T C R E K z (sv i) cl c) r)) k0 hk0
  have h3 : 0 < bh_T C R E K z (sv i) cl c r k0 := (bh_tn_pos hp (bh_ST_N hV (sv i) hc hr hk0)).mpr (by omega)
  omega
theorem bh_FT_is (hV : bh_VH C R E K z) (hp : bh_prm (C * R * E) 1 cl) {kind : Nat} (hk : kind < 3) : (bh_FT C R E K m z sv cl kind = -1 ∧ ((kind = 1 ∧ R < 2) ∨ m = 0)) ∨ ∃ t, 1 ≤ t ∧ t ≤ C * R * E ∧ bh_FT C R E K m z sv cl kind = nI t ∧ ¬ ((kind = 1 ∧ R < 2) ∨ m = 0) := by
  unfold bh_FT
  by_cases h : (kind = 1 ∧ R < 2) ∨ m = 0
  · exact Or.inl ⟨if_pos h, h⟩
  · refine Or.inr ⟨_, ?_, ?_, if_neg h, h⟩
    · have hm : 0 < m * C := Nat.mul_pos (by omega) hV.1.1
      obtain ⟨k, h1, h2⟩ := (bh_mn_is (f := fun j => bh_tG C R E K z sv cl kind (j / C) (j % C)) hm).2
      rw [← h2]
      exact bh_tG_pos hV hp hk (fun q => h (Or.inl q)) (bh_ij h1).2.1
    · have hm : 0 < m * C := Nat.mul_pos (by omega) hV.1.1
      obtain ⟨k, h1, h2⟩ := (bh_mn_is (f := fun j => bh_tG C R E K z sv cl kind (j / C) (j % C)) hm).2
      rw [← h2]
      exact bh_tG_le hV hp hk (fun q => h (Or.inl q)) (bh_ij h1).2.1
/-! the class -/
def bh_W7 (a _q : Nat) : Prop := 71 ≤ a ∧ a ≤ 73
theorem scrW7 {G G' : GM} (h : bh_F bh_W7 G G') : bh_F bh_SCR G G' := bh_Fm h (fun a q h => scr_b (by unfold bh_W7 at h; omega))
def bh_CT (G : GM) (h ta ln C R E K m pu bb : Nat) (z sv cl pr cl' : Nat → Nat) : Prop := nw G = h ∧ bh_HC G h ln C R E K m pu bb z sv cl pr ∧ bh_TA G ta (C * R * E) cl'
theorem bh_CT_F {G G' : GM} {h ta : Nat} (hh : h = 1 ∨ h = 23) (hm : m ≤ 8) (hta : ta ≤ 70 ∨ 74 ≤ ta) (hc : bh_CT G h ta ln C R E K m pu bb z sv cl pr cl') (hF : bh_F bh_W7 G G') : bh_CT G' h ta ln C R E K m pu bb z sv cl pr cl' :=
  ⟨hF.2.2.1.trans hc.1, bh_HC_F hm hc.2.1 hF (fun a q h => by unfold bh_PH at h; unfold bh_W7; omega), fun v h1 h2 => by rw [hF.1 _ _ (by unfold bh_W7; omega)]; exact hc.2.2 v h1 h2⟩
theorem c_st {G : GM} {h ta i c kind : Nat} (hh : h = 1 ∨ h = 23) (hN : bh_HN ln C R E K m pu bb z sv cl pr) (hc : bh_CT G h ta ln C R E K m pu bb z sv cl pr cl') (hp : bh_prm (C * R * E) 1 cl') (hta : LN ta = 46) (htt : ta ≤ 70 ∨ 77 ≤ ta) (hi : i < m) (hcc : c < C) (hk : kind < 3) : ∃ G1 G2, f_X9_soldCard (nI i) (nI c) ta G = some (71, G1) ∧ f_X0_turnOf (nI kind) G1 = some (bh_tQ C R E K z sv cl' kind i c, G2) ∧ bh_F bh_W7 G G2 := by
  have hV := hN.2.1
  obtain ⟨G1, e1, v1, F1⟩ := c_soldCard hc.1 hh hN hc.2.1 hi hcc hp hc.2.2 hta (by omega)
  obtain ⟨G2, e2, F2⟩ := bh_turnOf v1 hV.2.1 hV.2.2.2.1.2 hk (bh_T45 hV hp hcc)
  exact ⟨G1, G2, e1, e2, bh_Ft (bh_Fm F1 (fun a q h => by unfold bh_W7; omega)) (bh_Fm F2 (fun a q h => by unfold bh_W7; omega))⟩
theorem c_fTO {G : GM} {h ta i kind : Nat} (hh : h = 1 ∨ h = 23) (hN : bh_HN ln C R E K m pu bb z sv cl pr) (hc : bh_CT G h ta ln C R E K m pu bb z sv cl pr cl') (hp : bh_prm (C * R * E) 1 cl') (hta : LN ta = 46) (htt : ta ≤ 70 ∨ 77 ≤ ta) (hi : i < m) (hk : kind < 3) : ∃ G', f_X9_firstTurnOf (nI i) (nI kind) ta G = some (if kind = 1 ∧ R < 2 then -1 else nI (bh_mn (bh_tG C R E K z sv cl' kind i) C), G') ∧ bh_F bh_W7 G G' := by
  have hV := hN.2.1
  have h45 := bh_N45 hV
  have hbC := hV.1
  unfold f_X9_firstTurnOf
  refine wl2_up (P := fun o => ∃ G', o = some (if kind = 1 ∧ R < 2 then -1 else nI (bh_mn (bh_tG C R E K z sv cl' kind i) C), G') ∧ bh_F bh_W7 G G') (I := fun c y G1 => y = (if (kind = 1 ∧ R < 2) ∨ c = 0 then (-1 : Int32) else nI (bh_mn (bh_tG C R E K z sv cl' kind i) c)) ∧ bh_F bh_W7 G G1) (N := C) (by omega) ?_ (n := FU) (i := 0) (Nat.zero_le _) ⟨by rw [if_pos (Or.inr rfl)], bh_Fr _ _⟩ (by unfold FU; omega)
  rintro kc c _ G1 hc' ⟨rfl, F1⟩ hkc
  have c1 := bh_CT_F hh hN.2.2.1 (by omega) hc F1
  unfold lp_X9_firstTurnOf_6
  rw [c1.1, c1.2.1.2.1.1.1]
  by_cases hcC : c < C
  · obtain ⟨G2, G3, e2, e3, F3⟩ := c_st hh hN c1 hp hta htt hi hcC hk
    rw [if_neg (nI_ge hcC (by omega)), e2, ob_s, e3, ob_s]
    have FF := bh_Ft F1 F3
    by_cases hcan : kind = 1 ∧ R < 2
    · rw [bh_tQ_0 hcan, if_pos rfl, if_pos (Or.inl hcan), nI_1]
      exact hkc hcC _ _ ⟨by rw [if_pos (Or.inl hcan)], FF⟩
    · have hle := bh_tG_le (sv := sv) (i := i) hV hp hk hcan hcC
      rw [bh_tQ_1 hcan, if_neg (nIm1 (by omega))]
      by_cases hc0 : c = 0
      · subst hc0
        rw [if_pos (Or.inr rfl), if_pos rfl]
        unfold k_X9_firstTurnOf_54
        rw [nI_1]
        exact hkc hcC _ _ ⟨by rw [if_neg (fun q => q.elim hcan (by omega)), bh_mn_s, if_pos rfl], FF⟩
      · obtain ⟨q1, k, q2, q3⟩ := bh_mn_is (f := bh_tG C R E K z sv cl' kind i) (n := c) (by omega)
        have hle2 := bh_tG_le (sv := sv) (i := i) hV hp hk hcan (c := k) (by omega)
        have hif : (if (kind = 1 ∧ R < 2) ∨ c = 0 then (-1 : Int32) else nI (bh_mn (bh_tG C R E K z sv cl' kind i) c)) = nI (bh_mn (bh_tG C R E K z sv cl' kind i) c) := if_neg (fun q => q.elim hcan hc0)
        rw [hif, if_neg (nIm1 (by omega))]
        by_cases hlt : bh_mn (bh_tG C R E K z sv cl' kind i) c ≤ bh_tG C R E K z sv cl' kind i c
        · rw [if_pos (nI_le hlt (by omega)), nI_1]
          exact hkc hcC _ _ ⟨by rw [if_neg (fun q => q.elim hcan (by omega)), bh_mn_s, if_neg hc0, Nat.min_eq_left hlt], FF⟩
        · rw [if_neg (by rw [nI_leI (by omega) (by omega)]; exact hlt)]
          unfold k_X9_firstTurnOf_54
          rw [nI_1]
          exact hkc hcC _ _ ⟨by rw [if_neg (fun q => q.elim hcan (by omega)), bh_mn_s, if_neg hc0, Nat.min_eq_right (by omega)], FF⟩
  · have hc2 : c = C := by omega
    subst hc2
    rw [if_pos (nI_le (by omega) (by omega))]
    refine ⟨G1, ?_, F1⟩
    by_cases hcan : kind = 1 ∧ R < 2
    · rw [if_pos (Or.inl hcan), if_pos hcan]
    · rw [if_neg (fun q => q.elim hcan (by omega)), if_neg hcan]
theorem bh_mn_flat {f : Nat → Nat → Nat} {m C : Nat} (hm : 0 < m) (hC : 0 < C) : bh_mn (fun j => f (j / C) (j % C)) (m * C) = bh_mn (fun i => bh_mn (f i) C) m := by
  obtain ⟨a1, i, hi, a2⟩ := bh_mn_is (f := fun i => bh_mn (f i) C) hm
  obtain ⟨b1, c, hc, b2⟩ := bh_mn_is (f := f i) hC
  refine bh_mn_u (fun j hj => ?_) ⟨i * C + c, bh_ijlt hi hc, ?_⟩
  · have h1 := a1 _ (bh_ij hj).1
    have h2 := (bh_mn_is (f := f (j / C)) hC).1 _ (bh_ij hj).2.1
    exact Nat.le_trans h1 h2
  · show f ((i * C + c) / C) ((i * C + c) % C) = _
    rw [(bh_dm hc).1, (bh_dm hc).2, b2, a2]
theorem c_fT {G : GM} {h ta kind : Nat} (hh : h = 1 ∨ h = 23) (hN : bh_HN ln C R E K m pu bb z sv cl pr) (hc : bh_CT G h ta ln C R E K m pu bb z sv cl pr cl') (hp : bh_prm (C * R * E) 1 cl') (hta : LN ta = 46) (htt : ta ≤ 70 ∨ 77 ≤ ta) (hk : kind < 3) : ∃ G', f_X9_firstTurn (nI kind) ta G = some (bh_FT C R E K m z sv cl' kind, G') ∧ bh_F bh_W7 G G' := by
  have hV := hN.2.1
  have h45 := bh_N45 hV
  have hbC := hV.1
  have hbm := hN.2.2.1
  unfold f_X9_firstTurn
  refine wl2_up (P := fun o => ∃ G', o = some (bh_FT C R E K m z sv cl' kind, G') ∧ bh_F bh_W7 G G') (I := fun i y G1 => y = (if (kind = 1 ∧ R < 2) ∨ i = 0 then (-1 : Int32) else nI (bh_mn (fun i => bh_mn (bh_tG C R E K z sv cl' kind i) C) i)) ∧ bh_F bh_W7 G G1) (N := m) (by omega) ?_ (n := FU) (i := 0) (Nat.zero_le _) ⟨by rw [if_pos (Or.inr rfl)], bh_Fr _ _⟩ (by unfold FU; omega)
  rintro kc i _ G1 hi' ⟨rfl, F1⟩ hkc
  have c1 := bh_CT_F hh hbm (by omega) hc F1
  unfold lp_X9_firstTurn_5
  rw [c1.1, c1.2.1.1.2.2.2]
  by_cases hi : i < m
  · obtain ⟨G2, e2, F2⟩ := c_fTO hh hN c1 hp hta htt hi hk
    rw [if_neg (nI_ge hi (by omega)), e2, ob_s]
    have FF := bh_Ft F1 F2
    by_cases hcan : kind = 1 ∧ R < 2
    · rw [if_pos hcan, if_pos rfl, if_pos (Or.inl hcan), nI_1]
      exact hkc hi _ _ ⟨by rw [if_pos (Or.inl hcan)], FF⟩
    · have hb : ∀ i, bh_mn (bh_tG C R E K z sv cl' kind i) C ≤ C * R * E := fun i => by
        obtain ⟨k, h1, h2⟩ := (bh_mn_is (f := bh_tG C R E K z sv cl' kind i) (n := C) (by omega)).2
        rw [← h2]; exact bh_tG_le hV hp hk hcan h1
      have hbi := hb i
      rw [if_neg hcan, if_neg (nIm1 (by omega))]
      by_cases hc0 : i = 0
      · subst hc0
        rw [if_pos (Or.inr rfl), if_pos rfl]
        unfold k_X9_firstTurn_44
        rw [nI_1]
        exact hkc hi _ _ ⟨by rw [if_neg (fun q => q.elim hcan (by omega)), bh_mn_s, if_pos rfl], FF⟩
      · obtain ⟨q1, k, q2, q3⟩ := bh_mn_is (f := fun i => bh_mn (bh_tG C R E K z sv cl' kind i) C) (n := i) (by omega)
        have hbk := hb k
        have hif : (if (kind = 1 ∧ R < 2) ∨ i = 0 then (-1 : Int32) else nI (bh_mn (fun i => bh_mn (bh_tG C R E K z sv cl' kind i) C) i)) = nI (bh_mn (fun i => bh_mn (bh_tG C R E K z sv cl' kind i) C) i) := if_neg (fun q => q.elim hcan hc0)
        rw [hif, if_neg (nIm1 (by omega))]
        by_cases hlt : bh_mn (fun i => bh_mn (bh_tG C R E K z sv cl' kind i) C) i ≤ bh_mn (bh_tG C R E K z sv cl' kind i) C
        · rw [if_pos (nI_le hlt (by omega)), nI_1]
          exact hkc hi _ _ ⟨by rw [if_neg (fun q => q.elim hcan (by omega)), bh_mn_s, if_neg hc0, Nat.min_eq_left hlt], FF⟩
        · rw [if_neg (by rw [nI_leI (by omega) (by omega)]; exact hlt)]
          unfold k_X9_firstTurn_44
          rw [nI_1]
          exact hkc hi _ _ ⟨by rw [if_neg (fun q => q.elim hcan (by omega)), bh_mn_s, if_neg hc0, Nat.min_eq_right (by omega)], FF⟩
  · have hi2 : i = m := by omega
    subst hi2
    rw [if_pos (nI_le (by omega) (by omega))]
    refine ⟨G1, ?_, F1⟩
    unfold bh_FT
    by_cases hcan : (kind = 1 ∧ R < 2) ∨ i = 0
    · rw [if_pos hcan, if_pos hcan]
    · rw [if_neg hcan, if_neg hcan, bh_mn_flat (by omega) (by omega)]
theorem c_wA {G : GM} {h ta kind : Nat} {turn : Int32} (hh : h = 1 ∨ h = 23) (hN : bh_HN ln C R E K m pu bb z sv cl pr) (hc : bh_CT G h ta ln C R E K m pu bb z sv cl pr cl') (hp : bh_prm (C * R * E) 1 cl') (hta : LN ta = 46) (htt : ta ≤ 70 ∨ 77 ≤ ta) (hk : kind < 3) : ∃ G', f_X9_winnersAt (nI kind) turn ta G = some (nI (bh_WC C R E K m z sv cl' kind turn), G') ∧ bh_F bh_W7 G G' := by
  have hV := hN.2.1
  have h45 := bh_N45 hV
  have hbC := hV.1
  have hbm := hN.2.2.1
  have hmC : m * C ≤ 24 := Nat.mul_le_mul hbm hbC.2
  unfold f_X9_winnersAt bh_WC
  refine wl2_up (P := fun o => ∃ G', o = some (nI (if turn = -1 then 0 else bh_cW C R E K z sv cl' kind turn (m * C)), G') ∧ bh_F bh_W7 G G') (I := fun i y G1 => y = nI (if turn = -1 then 0 else bh_cW C R E K z sv cl' kind turn (i * C)) ∧ bh_F bh_W7 G G1) (N := m) (by omega) ?_ (n := FU) (i := 0) (Nat.zero_le _) ⟨by rw [Nat.zero_mul]; split <;> rfl, bh_Fr _ _⟩ (by unfold FU; omega)
  rintro kc i _ G1 hi' ⟨rfl, F1⟩ hkc
  have c1 := bh_CT_F hh hbm (by omega) hc F1
  unfold lp_X9_winnersAt_6
  rw [c1.1, c1.2.1.1.2.2.2]
  by_cases hi : i < m
  · rw [if_neg (nI_ge hi (by omega))]
    by_cases ht : turn = -1
    · rw [if_pos ht, if_pos ht]
      exact ⟨G1, by rw [if_pos ht], F1⟩
    · rw [if_neg ht, if_neg ht]
      refine wl2_up (P := fun o => ∃ G', o = some (nI (if turn = -1 then 0 else bh_cW C R E K z sv cl' kind turn (m * C)), G') ∧ bh_F bh_W7 G G') (I := fun c y G2 => y = nI (bh_cW C R E K z sv cl' kind turn (i * C + c)) ∧ bh_F bh_W7 G G2) (N := C) (by omega) ?_ (n := FU) (i := 0) (Nat.zero_le _) ⟨rfl, F1⟩ (by unfold FU; omega)
      rintro kc2 c _ G2 hc' ⟨rfl, F2⟩ hk2
      have c2 := bh_CT_F hh hbm (by omega) hc F2
      unfold lp_X9_winnersAt_26
      rw [c2.1, c2.2.1.2.1.1.1]
      by_cases hcC : c < C
      · obtain ⟨G3, G4, e3, e4, F4⟩ := c_st hh hN c2 hp hta htt hi hcC hk
        rw [if_neg (nI_ge hcC (by omega)), e3, ob_s, e4, ob_s]
        have e := bh_cW_s (C := C) (R := R) (E := E) (K := K) (z := z) (sv := sv) (cl := cl') kind turn (i * C + c)
        rw [(bh_dm hcC).1, (bh_dm hcC).2] at e
        by_cases he : bh_tQ C R E K z sv cl' kind i c = turn
        · rw [if_pos he, nI_1, nI_1]
          exact hk2 hcC _ _ ⟨by rw [← Nat.add_assoc, e, if_pos he], bh_Ft F2 F4⟩
        · rw [if_neg he, nI_1]
          exact hk2 hcC _ _ ⟨by rw [← Nat.add_assoc, e, if_neg he, Nat.add_zero], bh_Ft F2 F4⟩
      · have hc2 : c = C := by omega
        subst hc2
        rw [if_pos (nI_le (by omega) (by omega)), nI_1]
        exact hkc hi _ _ ⟨by rw [if_neg ht, Nat.succ_mul], F2⟩
  · have hi2 : i = m := by omega
    subst hi2
    rw [if_pos (nI_le (by omega) (by omega))]
    exact ⟨G1, rfl, F1⟩
theorem c_hF {G : GM} {h i c kind : Nat} {turn : Int32} (hh : h = 1 ∨ h = 23) (hN : bh_HN ln C R E K m pu bb z sv cl pr) (hc : bh_CT G h (h + 21) ln C R E K m pu bb z sv cl pr cl) (hi : i < m) (hcc : c < C) (hk : kind < 3) : ∃ G', f_X9_hasFirst (nI i) (nI c) (nI kind) turn G = some (if turn ≠ -1 ∧ bh_tQ C R E K z sv cl kind i c = turn then 1 else 0, G') ∧ bh_F bh_W7 G G' := by
  unfold f_X9_hasFirst
  by_cases ht : turn = -1
  · exact ⟨G, by rw [if_pos ht, if_neg (fun q => q.1 ht)], bh_Fr _ _⟩
  · obtain ⟨G3, G4, e3, e4, F4⟩ := c_st hh hN hc hN.2.2.2.2.2.2.2 (c_LN hh).2.1 (by omega) hi hcc hk
    rw [if_neg ht, hc.1, e3, ob_s, e4, ob_s]
    refine ⟨G4, ?_, F4⟩
    by_cases he : bh_tQ C R E K z sv cl kind i c = turn
    · rw [if_pos he, if_pos ⟨ht, he⟩]
    · rw [if_neg he, if_neg (fun q => he q.2)]
end RC
