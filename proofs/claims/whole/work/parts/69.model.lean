/-! the reference's questions to a strip made -/
def bh_ME (G : GM) (w C R E K : Nat) (z cl : Nat → Nat) : Prop := bh_MO G 0 C R E K z ∧ ∀ i, i < C * R * E → gI G 197 (45 * w + i) = nI (cl i)
theorem bh_ME_of {G : GM} {ln C R E K m pu bb : Nat} {z sv cl pr : Nat → Nat} (h : bh_HM G 0 ln C R E K m pu bb z sv cl pr) : bh_ME G 0 C R E K z cl := ⟨h.2.1, h.2.2.2.2⟩
theorem bh_ME_F {W : Nat → Nat → Prop} {G G' : GM} {w C R E K : Nat} {z cl : Nat → Nat} (h : bh_ME G w C R E K z cl) (hK : K ≤ 5) (hF : bh_F W G G') (h1 : ∀ a q, (a = 193 ∨ a = 194 ∨ a = 197) → ¬ W a q) : bh_ME G' w C R E K z cl :=
  ⟨bh_MO_F h.1 hF (fun q _ _ => h1 _ q (by omega)) (fun q _ _ => h1 _ q (by omega)) hK, fun i hi => by rw [hF.1 _ _ (h1 _ _ (by omega))]; exact h.2 i hi⟩
theorem bh_SM_F {W : Nat → Nat → Prop} {G G' : GM} {b C R E K s : Nat} {z : Nat → Nat} (h : bh_SM G b C R E K z s) (hF : bh_F W G G') (hw : ∀ q, 45 * b ≤ q → q < 45 * b + 45 → ¬ W 206 q) : bh_SM G' b C R E K z s :=
  fun c r k h1 h2 h3 => by rw [hF.1 _ _ (hw _ (by omega) (by omega))]; exact h c r k h1 h2 h3
theorem m_all' {G : GM} {w C R E K : Nat} {z cl : Nat → Nat} (h : bh_ME G w C R E K z cl) : f_X10_all G = some (nI (C * R * E), G) := by
  unfold f_X10_all
  rw [show (0 : Int32) = nI 0 from rfl, bh_numOf h.1 (by omega), ob_s]
theorem m_calledIn {G : GM} {w C R E K v : Nat} {z cl : Nat → Nat} (hV : bh_VH C R E K z) (hw : w < 6) (h : bh_ME G w C R E K z cl) (hp : bh_prm (C * R * E) 1 cl) (h1 : 1 ≤ v) (h2 : v ≤ C * R * E) : f_X10_calledIn (nI w) (nI v) G = some (nI (bh_tn (C * R * E) cl v), G) := by
  have h45 := bh_N45 hV
  obtain ⟨i0, hi0, hv⟩ := hp.2.2 v h1 (by omega)
  unfold f_X10_calledIn
  refine wl1_up (P := fun o => o = some (nI (bh_tn (C * R * E) cl v), G)) (I := fun i G1 => G1 = G ∧ ∀ j, j < i → cl j ≠ v) (N := C * R * E) (by omega) ?_ (n := FU) (i := 0) (Nat.zero_le _) ⟨rfl, fun j hj => absurd hj (Nat.not_lt_zero _)⟩ (by unfold FU; omega)
  rintro kc i G1 hi' ⟨rfl, q⟩ hk
  unfold lp_X10_calledIn_2
  rw [m_all' h, ob_s]
  by_cases hi : i < C * R * E
  · have hb := (hp.1 i hi).2
    rw [if_neg (nI_ge hi (by omega)), show (45 : Int32) = nI 45 from rfl, pk_mul, nI_add, inb_n (by omega) (by omega), gd_t, nI_clamp (by omega), h.2 i hi]
    by_cases hc : cl i = v
    · rw [if_pos (by rw [hc]), nI_1, ← hc, bh_tn_cl hp hi]
    · rw [if_neg (by rw [nI_eq (by omega) (by omega)]; exact hc), nI_1]
      refine hk hi G1 ⟨rfl, fun j hj => ?_⟩
      by_cases hji : j = i
      · subst hji; exact hc
      · exact q j (by omega)
  · exact absurd hv (q i0 (by omega))
def bh_T (C R E K : Nat) (z : Nat → Nat) (s : Nat) (cl : Nat → Nat) (c r k : Nat) : Nat := bh_tn (C * R * E) cl (bh_ST C R E K z s c r k)
theorem bh_T_le {C R E K s : Nat} {z cl : Nat → Nat} (hV : bh_VH C R E K z) (hp : bh_prm (C * R * E) 1 cl) {c r k : Nat} (hc : c < C) (hr : r < R) (hk : k < K) : bh_T C R E K z s cl c r k ≤ C * R * E := bh_tn_le hp (bh_ST_N hV s hc hr hk)
theorem bh_sm_ext {f g : Nat → Nat} {m : Nat} : ∀ {n : Nat}, m ≤ n → (∀ k, k < m → f k = g k) → (∀ k, m ≤ k → k < n → g k = 0) → bh_sm g n = bh_sm f m
  | 0, h, _, _ => by
    have : m = 0 := by omega
    subst this; rfl
  | n + 1, h, h1, h2 => by
    by_cases hm : m = n + 1
    · subst hm
      exact (bh_sm_congr h1).symm
    · show bh_sm g n + g n = _
      rw [bh_sm_ext (f := f) (m := m) (by omega) h1 (fun k h3 h4 => h2 k h3 (by omega)), h2 n (by omega) (by omega)]; rfl
theorem m_at {b c r k : Nat} (G : GM) : f_X10_at (nI b) (nI c) (nI r) (nI k) G = some (nI (45 * b + 15 * c + 5 * r + k), G) := by
  unfold f_X10_at
  rw [show (45 : Int32) = nI 45 from rfl, show (15 : Int32) = nI 15 from rfl, show (5 : Int32) = nI 5 from rfl, pk_mul, pk_mul, pk_mul, nI_add, nI_add, nI_add]
theorem m_lackOf {G : GM} {w C R E K s c r n : Nat} {z cl : Nat → Nat} (hV : bh_VH C R E K z) (hw : w < 6) (h : bh_ME G w C R E K z cl) (hp : bh_prm (C * R * E) 1 cl) (hS : bh_SM G 0 C R E K z s) (hc : c < C) (hr : r < R) (hn : n ≤ 45) : f_X10_lackOf (nI w) (nI c) (nI r) (nI n) G = some (nI (bh_rL K (bh_T C R E K z s cl c) n r), G) := by
  have h45 := bh_N45 hV
  have hV' := hV
  obtain ⟨hC, hR, hE, hK, -, -, -, -⟩ := hV'
  unfold f_X10_lackOf
  refine wl2_up (P := fun o => o = some (nI (bh_rL K (bh_T C R E K z s cl c) n r), G)) (I := fun i y G1 => G1 = G ∧ y = nI (bh_sm (fun k => if k < K ∧ n < bh_T C R E K z s cl c r k then 1 else 0) i)) (N := 5) (by omega) ?_ (n := FU) (i := 0) (Nat.zero_le _) ⟨rfl, rfl⟩ (by unfold FU; omega)
  rintro kc k _ G1 hk' ⟨rfl, rfl⟩ hkc
  unfold lp_X10_lackOf_6
  rw [show (5 : Int32) = nI 5 from rfl]
  by_cases hk : k < 5
  · have e := hS c r k (by omega) (by omega) hk
    rw [if_neg (nI_ge hk (by omega)), show (0 : Int32) = nI 0 from rfl, m_at, ob_s, inb_n (by omega) (by omega), gd_t, nI_clamp (by omega)]
    have step : ∀ b : Nat, (if k < K ∧ n < bh_T C R E K z s cl c r k then 1 else 0) = b → ∃ x : Nat, bh_sm (fun k => if k < K ∧ n < bh_T C R E K z s cl c r k then 1 else 0) (k + 1) = bh_sm (fun k => if k < K ∧ n < bh_T C R E K z s cl c r k then 1 else 0) k + b := fun b hb => ⟨0, by rw [← hb]; rfl⟩
    by_cases hkK : k < K
    · rw [if_pos ⟨hc, hr, hkK⟩] at e
      rw [e]
      have hST := bh_ST_N hV s hc hr hkK
      by_cases h0 : bh_ST C R E K z s c r k = 0
      · rw [h0, if_pos (show nI 0 ≤ nI 0 from nI_le (by omega) (by omega))]
        unfold k_X10_lackOf_59 k_X10_lackOf_60
        rw [show (0 : Int32) = nI 0 from rfl, nI_add, lt_r, nI_1]
        obtain ⟨-, e2⟩ := step 0 (if_neg (by unfold bh_T; rw [h0, bh_tn_0 hp]; omega))
        exact hkc hk _ _ ⟨rfl, by rw [e2]⟩
      · rw [if_neg (by rw [nI_leI (by omega) (by omega)]; omega), m_at, ob_s, inb_n (by omega) (by omega), gd_t, nI_clamp (by omega), e, m_calledIn hV hw h hp (by omega) hST, ob_s]
        have hT := bh_tn_le hp hST
        by_cases h2 : n < bh_T C R E K z s cl c r k
        · have h3 : n < bh_tn (C * R * E) cl (bh_ST C R E K z s c r k) := h2
          rw [if_neg (by rw [nI_leI (by omega) (by omega)]; omega)]
          unfold k_X10_lackOf_60
          rw [show (1 : Int32) = nI 1 from rfl, nI_add, lt_r, nI_add]
          obtain ⟨-, e2⟩ := step 1 (if_pos ⟨hkK, h2⟩)
          exact hkc hk _ _ ⟨rfl, by rw [e2]⟩
        · have h3 : ¬ n < bh_tn (C * R * E) cl (bh_ST C R E K z s c r k) := h2
          rw [if_pos (nI_le (by omega) (by omega))]
          unfold k_X10_lackOf_59 k_X10_lackOf_60
          rw [show (0 : Int32) = nI 0 from rfl, nI_add, lt_r, nI_1]
          obtain ⟨-, e2⟩ := step 0 (if_neg (fun q => h2 q.2))
          exact hkc hk _ _ ⟨rfl, by rw [e2]⟩
    · rw [if_neg (fun q => hkK q.2.2)] at e
      rw [e, if_pos (show nI 0 ≤ nI 0 from nI_le (by omega) (by omega))]
      unfold k_X10_lackOf_59 k_X10_lackOf_60
      rw [show (0 : Int32) = nI 0 from rfl, nI_add, lt_r, nI_1]
      obtain ⟨-, e2⟩ := step 0 (if_neg (fun q => hkK q.1))
      exact hkc hk _ _ ⟨rfl, by rw [e2]⟩
  · have hk2 : k = 5 := by omega
    subst hk2
    rw [if_pos (nI_le (by omega) (by omega))]
    unfold bh_rL
    rw [bh_sm_ext (f := fun k => if n < bh_T C R E K z s cl c r k then 1 else 0) (m := K) hK.2 (fun k hk => by
      by_cases h2 : n < bh_T C R E K z s cl c r k
      · rw [if_pos h2, if_pos ⟨hk, h2⟩]
      · rw [if_neg h2, if_neg (fun q => h2 q.2)]) (fun k h1 h2 => if_neg (fun q => by omega))]
theorem m_ins {i x : Nat} {v1 v2 v3 v4 v5 v6 : Int32} {b : Nat → Nat} {kc2 : Int32 → Int32 → GM → Option (Int32 × GM)} {G : GM} {P : Option (Int32 × GM) → Prop} (hi : i < 3) (hb : ∀ j, j < i → gI G 208 j = nI (b j) ∧ b j < 2 ^ 31) (hx : x < 2 ^ 31) (hP : ∀ p G2, p ≤ i → (p = 0 ∨ b (p - 1) ≤ x) → (∀ j, p ≤ j → j < i → x < b j) → (∀ j, j ≤ i → gI G2 208 j = nI (if j < p then b j else if j = p then x else b (j - 1))) → bh_F (fun a k => a = 208 ∧ k ≤ i) G G2 → P (kc2 v6 (nI (i + 1)) G2)) : P (wl1 FU (lp_X10_lacksOf_57 v1 v2 v3 v4 v5 v6 (nI i) (nI x) kc2) (nI i) G) := by
  refine wl1_P (P := P) (I := fun y G1 => ∃ p, y = nI p ∧ p ≤ i ∧ (∀ j, j < p → gI G1 208 j = nI (b j)) ∧ (∀ j, p < j → j ≤ i → gI G1 208 j = nI (b (j - 1))) ∧ (∀ j, p ≤ j → j < i → x < b j) ∧ bh_F (fun a k => a = 208 ∧ k ≤ i) G G1) (m := fun y _ => y.toNatClampNeg) ?_ FU (nI i) G ⟨i, rfl, Nat.le_refl _, fun j hj => (hb j hj).1, fun j h1 h2 => by omega, fun j h1 h2 => by omega, bh_Fr _ _⟩ (by rw [nI_clamp (by omega)]; unfold FU; omega)
  rintro kc _ G1 ⟨p, rfl, hp, q1, q2, q3, hF⟩ hk
  have out : (p = 0 ∨ b (p - 1) ≤ x) → P (k_X10_lacksOf_98 v1 v2 v3 v4 v5 v6 (nI i) (nI x) (nI p) kc2 G1) := by
    intro h0
    unfold k_X10_lacksOf_98
    rw [inb_n (by omega) (by omega), gd_t, lt_r, nI_clamp (by omega), nI_1]
    refine hP p _ hp h0 q3 (fun j hj => ?_) (bh_FI hF ⟨rfl, hp⟩)
    rw [gI_sI]
    by_cases hjp : j = p
    · rw [if_pos ⟨rfl, hjp⟩, if_neg (by omega), if_pos hjp]
    · rw [if_neg (fun h => hjp h.2), if_neg hjp]
      by_cases hjp2 : j < p
      · rw [if_pos hjp2]; exact q1 j hjp2
      · rw [if_neg hjp2]; exact q2 j (by omega) hj
  unfold lp_X10_lacksOf_57
  by_cases hp0 : p = 0
  · subst hp0
    rw [if_pos (by decide)]
    exact out (Or.inl rfl)
  · obtain ⟨p', rfl⟩ : ∃ p', p = p' + 1 := ⟨p - 1, by omega⟩
    have hb' := hb p' (by omega)
    rw [if_neg (nI_nle (by omega) (by omega)), bh_m1, inb_n (by omega) (by omega), gd_t, nI_clamp (by omega), q1 p' (by omega)]
    by_cases hc : b p' ≤ x
    · rw [if_pos (nI_le hc (by omega))]
      exact out (Or.inr hc)
    · rw [if_neg (by rw [nI_leI hb'.2 hx]; exact hc), gd_t, inb_n (by omega) (by omega), gd_t, lt_r, nI_clamp (by omega), pk_m1]
      refine hk _ _ ⟨p', rfl, by omega, fun j hj => ?_, fun j hj hj2 => ?_, fun j hj hj2 => ?_, bh_FI hF ⟨rfl, hp⟩⟩ (by rw [nI_clamp (by omega), nI_clamp (by omega)]; omega)
      · rw [gI_sIk (by omega)]; exact q1 j (by omega)
      · rw [gI_sI]
        by_cases hjp : j = p' + 1
        · rw [if_pos ⟨rfl, hjp⟩, hjp]; rfl
        · rw [if_neg (fun h => hjp h.2)]; exact q2 j (by omega) hj2
      · by_cases hjp : j = p'
        · subst hjp; omega
        · exact q3 j (by omega) hj2
theorem m_lacksOf {G : GM} {w C R E K s c kind n : Nat} {z cl : Nat → Nat} (hV : bh_VH C R E K z) (hw : w < 6) (h : bh_ME G w C R E K z cl) (hp : bh_prm (C * R * E) 1 cl) (hS : bh_SM G 0 C R E K z s) (hc : c < C) (hkd : kind < 3) (hn : n ≤ 45) : ∃ G', f_X10_lacksOf (nI w) (nI c) (nI kind) (nI n) G = some (bh_lI K R (bh_T C R E K z s cl c) kind n, G') ∧ bh_F (fun a _ => a = 208) G G' := by
  have hV' := hV
  obtain ⟨hC, hR, hE, hK, -, -, -, -⟩ := hV'
  have e1 : gI G 193 1 = nI R := h.1.2.1
  unfold f_X10_lacksOf
  rw [show inb (1 : Int32) 48 = true from by decide, gd_t, show (1 : Int32).toNatClampNeg = 1 from by decide, e1, lt_r]
  have main : ¬ (kind = 1 ∧ R < 2) → ∃ G', k_X10_lacksOf_21 (nI w) (nI c) (nI kind) (nI n) (nI R) G = some (bh_lI K R (bh_T C R E K z s cl c) kind n, G') ∧ bh_F (fun a _ => a = 208) G G' := by
    intro hcan
    unfold k_X10_lacksOf_21
    refine wl2_up (P := fun o => ∃ G', o = some (bh_lI K R (bh_T C R E K z s cl c) kind n, G') ∧ bh_F (fun a _ => a = 208) G G') (I := fun i y G1 => y = nI (bh_sm (bh_rL K (bh_T C R E K z s cl c) n) i) ∧ (∀ j, j < i → gI G1 208 j = nI (bh_srt i (bh_rL K (bh_T C R E K z s cl c) n) j)) ∧ bh_F (fun a _ => a = 208) G G1) (N := R) (by omega) ?_ (n := FU) (i := 0) (Nat.zero_le _) ⟨rfl, fun j hj => absurd hj (Nat.not_lt_zero _), bh_Fr _ _⟩ (by unfold FU; omega)
    rintro kc r _ G1 hr' ⟨rfl, q1, F1⟩ hkc
    have h1 := bh_ME_F h hK.2 F1 (fun a q hh => by omega)
    have hS1 := bh_SM_F hS F1 (fun q _ _ => by omega)
    unfold lp_X10_lacksOf_27
    by_cases hr : r < R
    · have hle : ∀ i, bh_rL K (bh_T C R E K z s cl c) n i ≤ 5 := fun i => bh_rL_le hK.2
      rw [if_neg (nI_ge hr (by omega)), m_lackOf hV hw h1 hp hS1 hc hr hn, ob_s, nI_add, lt_r]
      refine m_ins (b := bh_srt r (bh_rL K (bh_T C R E K z s cl c) n)) (P := fun o => ∃ G', o = some (bh_lI K R (bh_T C R E K z s cl c) kind n, G') ∧ bh_F (fun a _ => a = 208) G G') (by omega) (fun j hj => ⟨q1 j hj, bh_srt_lt (by omega) hj (fun i _ => by have := hle i; omega)⟩) (by have := hle r; omega) ?_
      intro p G2 hp1 hp2 hp3 hG2 hF2
      refine hkc hr _ _ ⟨rfl, fun j hj => ?_, bh_Ft F1 (bh_Fm hF2 (fun a q hh => hh.1))⟩
      rw [hG2 j (by omega)]
      by_cases hr0 : r = 0
      · subst hr0
        have : p = 0 := by omega
        subst this
        have : j = 0 := by omega
        subst this
        simp [bh_srt]
      · rw [bh_srt_step (by omega) (by omega) hp1 hp2 hp3 (by omega)]
    · have hr2 : r = R := by omega
      subst hr2
      rw [if_pos (nI_le (by omega) (by omega))]
      refine ⟨G1, ?_, F1⟩
      unfold bh_lI bh_lO
      rw [if_neg hcan]
      by_cases h0 : kind = 0
      · subst h0
        rw [if_pos (show nI 0 = (0 : Int32) from rfl), show inb (0 : Int32) 3 = true from by decide, gd_t, show (0 : Int32).toNatClampNeg = 0 from by decide, q1 0 (by omega), if_neg (by decide)]
        simp [bh_sm]
      · rw [if_neg (nI_ne0 (by omega) (by omega))]
        by_cases h1' : kind = 1
        · subst h1'
          rw [if_pos (show nI 1 = (1 : Int32) from rfl), show inb (0 : Int32) 3 = true from by decide, gd_t, show inb (1 : Int32) 3 = true from by decide, gd_t, show (0 : Int32).toNatClampNeg = 0 from by decide, show (1 : Int32).toNatClampNeg = 1 from by decide, q1 0 (by omega), q1 1 (by omega), nI_add, if_neg (by decide)]
          simp [bh_sm]
        · have h2 : kind = 2 := by omega
          subst h2
          rw [if_neg (show ¬ nI 2 = (1 : Int32) from by decide), if_pos rfl]
  by_cases hk1 : kind = 1
  · subst hk1
    rw [if_pos (show nI 1 = (1 : Int32) from rfl)]
    by_cases hR2 : R < 2
    · rw [if_neg (by rw [show (2 : Int32) = nI 2 from rfl, nI_leI (by omega) (by omega)]; omega)]
      refine ⟨G, ?_, bh_Fr _ _⟩
      unfold bh_lI
      rw [if_pos ⟨rfl, hR2⟩]
    · rw [if_pos (show (2 : Int32) ≤ nI R from nI_le (a := 2) (by omega) (by omega))]
      exact main (fun q => hR2 q.2)
  · rw [if_neg (by rw [show (1 : Int32) = nI 1 from rfl, nI_eq (by omega) (by omega)]; exact hk1)]
    exact main (fun q => hk1 q.1)
theorem bh_rT_le {K m r : Nat} {T : Nat → Nat → Nat} (h : ∀ k, k < K → T r k ≤ m) : bh_rT K T r ≤ m := bh_mxf_le.mpr h
theorem bh_tO_le {K R kind m : Nat} {T : Nat → Nat → Nat} (hR : 1 ≤ R ∧ R ≤ 3) (hk : kind < 3) (hcan : ¬ (kind = 1 ∧ R < 2)) (h : ∀ r k, r < R → k < K → T r k ≤ m) : bh_tO K R T kind ≤ m := by
  unfold bh_tO
  have hj : (if kind = 2 then R - 1 else kind) < R := by
    by_cases h2 : kind = 2
    · rw [if_pos h2]; omega
    · rw [if_neg h2]; omega
  obtain ⟨i, hi, he⟩ := bh_srt_mem (a := bh_rT K T) hR.2 hj
  rw [he]
  exact bh_rT_le fun k hk => h i k hi hk
theorem m_doneOf {G : GM} {w C R E K s c kind : Nat} {z cl : Nat → Nat} (hV : bh_VH C R E K z) (hw : w < 6) (h : bh_ME G w C R E K z cl) (hp : bh_prm (C * R * E) 1 cl) (hS : bh_SM G 0 C R E K z s) (hc : c < C) (hkd : kind < 3) : ∃ G', f_X10_doneOf (nI w) (nI c) (nI kind) G = some (bh_tI K R (bh_T C R E K z s cl c) kind, G') ∧ bh_F (fun a _ => a = 208) G G' := by
  have h45 := bh_N45 hV
  have hV' := hV
  obtain ⟨hC, hR, hE, hK, -, -, -, -⟩ := hV'
  have hTle : ∀ r k, r < R → k < K → bh_T C R E K z s cl c r k ≤ C * R * E := fun r k hr hk => bh_T_le hV hp hc hr hk
  unfold f_X10_doneOf
  refine wl1_up (P := fun o => ∃ G', o = some (bh_tI K R (bh_T C R E K z s cl c) kind, G') ∧ bh_F (fun a _ => a = 208) G G') (I := fun i G1 => (¬ (kind = 1 ∧ R < 2) → i ≤ bh_tO K R (bh_T C R E K z s cl c) kind) ∧ bh_F (fun a _ => a = 208) G G1) (N := C * R * E + 1) (by omega) ?_ (n := FU) (i := 0) (Nat.zero_le _) ⟨fun _ => Nat.zero_le _, bh_Fr _ _⟩ (by unfold FU; omega)
  rintro kc n G1 hn' ⟨q, F1⟩ hkc
  have h1 := bh_ME_F h hK.2 F1 (fun a q hh => by omega)
  have hS1 := bh_SM_F hS F1 (fun q _ _ => by omega)
  unfold lp_X10_doneOf_3
  rw [m_all' h1, ob_s]
  by_cases hn : n < C * R * E + 1
  · rw [if_neg (nI_nlt (by omega) (by omega))]
    obtain ⟨G2, e2, F2⟩ := m_lacksOf hV hw h1 hp hS1 hc hkd (n := n) (by omega)
    rw [e2, ob_s]
    have FF2 := bh_Ft F1 F2
    by_cases hcan : kind = 1 ∧ R < 2
    · unfold bh_lI
      rw [if_pos hcan, if_neg (by decide), nI_1]
      exact hkc hn G2 ⟨fun q => absurd hcan q, FF2⟩
    · have hiff := bh_lO_tO (K := K) (n := n) (T := bh_T C R E K z s cl c) hR hkd hcan
      have hlb : bh_lO K R (bh_T C R E K z s cl c) kind n ≤ 100 := by
        unfold bh_lO
        by_cases h2 : kind = 2
        · rw [if_pos h2]
          have := bh_sm_bd (f := bh_rL K (bh_T C R E K z s cl c) n) (m := 5) (n := R) (fun i _ => bh_rL_le hK.2)
          omega
        · rw [if_neg h2]
          have := bh_sm_bd (f := bh_srt R (bh_rL K (bh_T C R E K z s cl c) n)) (m := 5) (n := kind + 1) (fun i hi => bh_srt_bd hR (by omega) (fun i _ => bh_rL_le hK.2))
          omega
      unfold bh_lI bh_tI
      rw [if_neg hcan, if_neg hcan]
      by_cases h0 : bh_lO K R (bh_T C R E K z s cl c) kind n = 0
      · rw [h0, if_pos (show nI 0 = (0 : Int32) from rfl)]
        refine ⟨G2, ?_, FF2⟩
        rw [show n = bh_tO K R (bh_T C R E K z s cl c) kind from Nat.le_antisymm (q hcan) (hiff.mp h0)]
      · rw [if_neg (nI_ne0 (by omega) (by omega)), nI_1]
        have := hkc hn G2 ⟨fun _ => by
          have := fun hh => h0 (hiff.mpr hh)
          omega, FF2⟩
        unfold bh_tI at this
        rw [if_neg hcan] at this
        exact this
  · have hn2 : n = C * R * E + 1 := by omega
    subst hn2
    rw [if_pos (nI_lt (by omega) (by omega))]
    refine ⟨G1, ?_, F1⟩
    by_cases hcan : kind = 1 ∧ R < 2
    · unfold bh_tI
      rw [if_pos hcan]
    · have h2 := q hcan
      have h3 := bh_tO_le hR hkd hcan hTle
      omega
