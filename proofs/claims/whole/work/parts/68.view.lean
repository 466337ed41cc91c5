/-! turns, and a card that is looked at: the class -/
def bh_ix (cl : Nat → Nat) (v : Nat) : Nat → Nat
  | 0 => 0
  | n + 1 => if bh_ix cl v n ≠ 0 then bh_ix cl v n else if cl n = v then n + 1 else 0
/-- behind how many calls a number is called; 0: it is not -/
def bh_tn (N : Nat) (cl : Nat → Nat) (v : Nat) : Nat := bh_ix cl v N
theorem bh_ix_is (cl : Nat → Nat) (v : Nat) : ∀ n, (bh_ix cl v n = 0 ∧ ∀ i, i < n → cl i ≠ v) ∨ ∃ i, i < n ∧ cl i = v ∧ (∀ j, j < i → cl j ≠ v) ∧ bh_ix cl v n = i + 1
  | 0 => Or.inl ⟨rfl, fun i hi => absurd hi (Nat.not_lt_zero _)⟩
  | n + 1 => by
    rcases bh_ix_is cl v n with ⟨h1, h2⟩ | ⟨i, h1, h2, h3, h4⟩
    · by_cases hc : cl n = v
      · refine Or.inr ⟨n, by omega, hc, h2, ?_⟩
        unfold bh_ix
        rw [if_neg (by omega), if_pos hc]
      · refine Or.inl ⟨?_, fun i hi => ?_⟩
        · unfold bh_ix
          rw [if_neg (by omega), if_neg hc]
        · by_cases hin : i = n
          · subst hin; exact hc
          · exact h2 i (by omega)
    · refine Or.inr ⟨i, by omega, h2, h3, ?_⟩
      unfold bh_ix
      rw [if_pos (by omega)]; exact h4
theorem bh_tn_cl {N : Nat} {cl : Nat → Nat} (h : bh_prm N 1 cl) {i : Nat} (hi : i < N) : bh_tn N cl (cl i) = i + 1 := by
  rcases bh_ix_is cl (cl i) N with ⟨-, h2⟩ | ⟨j, h1, h2, -, h4⟩
  · exact absurd rfl (h2 i hi)
  · have := h.2.1 _ _ h1 hi h2
    subst this; exact h4
theorem bh_tn_in {N : Nat} {cl : Nat → Nat} (h : bh_prm N 1 cl) {v : Nat} (h1 : 1 ≤ v) (h2 : v ≤ N) : 1 ≤ bh_tn N cl v ∧ bh_tn N cl v ≤ N ∧ cl (bh_tn N cl v - 1) = v := by
  obtain ⟨i, hi, rfl⟩ := h.2.2 v h1 (by omega)
  rw [bh_tn_cl h hi]
  exact ⟨by omega, by omega, by rw [Nat.add_sub_cancel]⟩
theorem bh_tn_0 {N : Nat} {cl : Nat → Nat} (h : bh_prm N 1 cl) : bh_tn N cl 0 = 0 := by
  rcases bh_ix_is cl 0 N with ⟨h1, -⟩ | ⟨i, h1, h2, -, -⟩
  · exact h1
  · have := (h.1 i h1).1
    omega
theorem bh_tn_le {N : Nat} {cl : Nat → Nat} (h : bh_prm N 1 cl) {v : Nat} (h2 : v ≤ N) : bh_tn N cl v ≤ N := by
  by_cases h0 : v = 0
  · subst h0; rw [bh_tn_0 h]; omega
  · exact (bh_tn_in h (by omega) h2).2.1
theorem bh_tn_pos {N : Nat} {cl : Nat → Nat} (h : bh_prm N 1 cl) {v : Nat} (h2 : v ≤ N) : 0 < bh_tn N cl v ↔ 0 < v := by
  constructor
  · intro h3
    refine Nat.pos_of_ne_zero fun h0 => ?_
    subst h0
    rw [bh_tn_0 h] at h3; omega
  · intro h3
    exact (bh_tn_in h h3 h2).1
/-- the class's row of turns -/
def bh_TA (G : GM) (ta N : Nat) (cl : Nat → Nat) : Prop := ∀ v, 1 ≤ v → v ≤ N → gI G ta v = nI (bh_tn N cl v)
theorem bh_TA_of {G : GM} {ta N : Nat} {cl : Nat → Nat} (hp : bh_prm N 1 cl) (h : ∀ i, i < N → gI G ta (cl i) = nI (i + 1)) : bh_TA G ta N cl := by
  intro v h1 h2
  obtain ⟨i, hi, rfl⟩ := hp.2.2 v h1 (by omega)
  rw [h i hi, bh_tn_cl hp hi]
/-- the view of a card -/
def bh_VW (G : GM) (R E K : Nat) (T : Nat → Nat → Nat) : Prop := gI G 71 0 = nI R ∧ gI G 71 1 = nI K ∧ gI G 71 2 = nI E ∧ ∀ r k, r < R → k < K → gI G 72 (r * K + k) = nI (T r k)
theorem bh_VW_F {W : Nat → Nat → Prop} {G G' : GM} {R E K : Nat} {T : Nat → Nat → Nat} (h : bh_VW G R E K T) (hF : bh_F W G G') (hw : ∀ a q, (a = 71 ∨ a = 72) → ¬ W a q) : bh_VW G' R E K T := by
  obtain ⟨a, b, c, d⟩ := h
  refine ⟨?_, ?_, ?_, fun r k hr hk => ?_⟩
  · rw [hF.1 _ _ (hw _ _ (by omega))]; exact a
  · rw [hF.1 _ _ (hw _ _ (by omega))]; exact b
  · rw [hF.1 _ _ (hw _ _ (by omega))]; exact c
  · rw [hF.1 _ _ (hw _ _ (by omega))]; exact d r k hr hk
theorem bh_rK {R K r k : Nat} (hR : R ≤ 3) (hK : K ≤ 5) (hr : r < R) (hk : k < K) : r * K + k < 15 := by
  have h1 := Nat.mul_le_mul_right K (show r + 1 ≤ R from hr)
  rw [Nat.succ_mul] at h1
  have h2 : R * K ≤ 15 := Nat.mul_le_mul hR hK
  omega
theorem bh_look {G : GM} {f t ta c C R E K s : Nat} {z cl : Nat → Nat} (hV : bh_VH C R E K z) (hF : bh_FO G f C R E K z) (hS : bh_SC G t C R E K z s) (hp : bh_prm (C * R * E) 1 cl) (hT : bh_TA G ta (C * R * E) cl) (hc : c < C) (ht : LN t = 45) (hta : LN ta = 46) (hf : f ≠ 71 ∧ f ≠ 72) (htt : t ≠ 71 ∧ t ≠ 72) (htta : ta ≠ 71 ∧ ta ≠ 72) : ∃ G', f_X0_look f t (nI c) ta G = some G' ∧ bh_VW G' R E K (fun r k => bh_tn (C * R * E) cl (bh_ST C R E K z s c r k)) ∧ bh_F (fun a _ => a = 71 ∨ a = 72) G G' := by
  have h45 := bh_N45 hV
  have hV' := hV
  obtain ⟨hC, hR, hE, hK, -, -, -, -⟩ := hV'
  obtain ⟨⟨f0, f1, f2, f3⟩, -⟩ := hF
  unfold f_X0_look
  rw [lt_r, lt_r, lt_r, gI_sIa (by omega), gI_sIa (by omega), gI_sIa (by omega), f1, f3, f2]
  have F0 : bh_F (fun a _ => a = 71 ∨ a = 72) G (sI (sI (sI G 71 0 (nI R)) 71 1 (nI K)) 71 2 (nI E)) := bh_FI (bh_FI (bh_FI (bh_Fr _ _) (Or.inl rfl)) (Or.inl rfl)) (Or.inl rfl)
  refine wl1_up (P := fun o => ∃ G', o = some G' ∧ bh_VW G' R E K (fun r k => bh_tn (C * R * E) cl (bh_ST C R E K z s c r k)) ∧ bh_F (fun a _ => a = 71 ∨ a = 72) G G') (I := fun r G1 => (gI G1 71 0 = nI R ∧ gI G1 71 1 = nI K ∧ gI G1 71 2 = nI E) ∧ (∀ r' k, r' < r → k < K → gI G1 72 (r' * K + k) = nI (bh_tn (C * R * E) cl (bh_ST C R E K z s c r' k))) ∧ bh_F (fun a _ => a = 71 ∨ a = 72) G G1) (N := R) (by omega) ?_ (n := FU) (i := 0) (Nat.zero_le _) ⟨⟨by rw [gI_sIk (by omega), gI_sIk (by omega), gI_sIs], by rw [gI_sIk (by omega), gI_sIs], by rw [gI_sIs]⟩, fun r k hr => absurd hr (Nat.not_lt_zero _), F0⟩ (by unfold FU; omega)
  rintro kc r G1 hr' ⟨⟨v0, v1, v2⟩, q1, F1⟩ hkc
  unfold lp_X0_look_27
  rw [v0]
  by_cases hr : r < R
  · rw [if_neg (nI_ge hr (by omega))]
    refine wl1_up (P := fun o => ∃ G', o = some G' ∧ bh_VW G' R E K (fun r k => bh_tn (C * R * E) cl (bh_ST C R E K z s c r k)) ∧ bh_F (fun a _ => a = 71 ∨ a = 72) G G') (I := fun k G2 => (∀ k', k' < k → gI G2 72 (r * K + k') = nI (bh_tn (C * R * E) cl (bh_ST C R E K z s c r k'))) ∧ bh_F (fun a q => a = 72 ∧ r * K ≤ q) G1 G2) (N := K) (by omega) ?_ (n := FU) (i := 0) (Nat.zero_le _) ⟨fun k hk => absurd hk (Nat.not_lt_zero _), bh_Fr _ _⟩ (by unfold FU; omega)
    rintro kc2 k G2 hk' ⟨q2, F2⟩ hk2
    have FF2 : bh_F (fun a _ => a = 71 ∨ a = 72) G G2 := bh_Ft F1 (bh_Fm F2 (fun a q h => Or.inr h.1))
    unfold lp_X0_look_39
    rw [F2.1 _ _ (by omega), v1]
    by_cases hk : k < K
    · have hlt := bh_at_lt hc hr hk
      have hCRK := bh_CRK hC.2 hR.2 hK.2
      have hrk := bh_rK hR.2 hK.2 hr hk
      have hN := bh_ST_N hV s hc hr hk
      rw [if_neg (nI_ge hk (by omega)), bh_placeOf (R := R) (K := K) (by rw [FF2.1 _ _ (by omega)]; exact f1) (by rw [FF2.1 _ _ (by omega)]; exact f3) hC.2 hR.2 hK.2 hc hr hk, ob_s, ht, inb_n (by omega) (by omega), gd_t, nI_clamp (by omega), FF2.1 _ _ (by omega), hS.1 c r k hc hr hk, lt_r]
      have fin : ∀ v, v = nI (bh_tn (C * R * E) cl (bh_ST C R E K z s c r k)) → ∃ G', k_X0_look_109 f t (nI c) ta (nI r) (nI k) v ((nI r * gI G2 71 1) + nI k) kc kc2 G2 = some G' ∧ bh_VW G' R E K (fun r k => bh_tn (C * R * E) cl (bh_ST C R E K z s c r k)) ∧ bh_F (fun a _ => a = 71 ∨ a = 72) G G' := by
        intro v hv
        unfold k_X0_look_109
        rw [F2.1 _ _ (by omega), v1, pk_mul, nI_add, inb_n hrk (by omega), gd_t, lt_r, nI_clamp (by omega), nI_1]
        refine hk2 hk _ ⟨fun k' hk' => ?_, bh_FI F2 ⟨rfl, by omega⟩⟩
        rw [gI_sI]
        by_cases hkk : k' = k
        · subst hkk
          rw [if_pos ⟨rfl, rfl⟩]; exact hv
        · rw [if_neg (by omega)]; exact q2 k' (by omega)
      by_cases h0 : bh_ST C R E K z s c r k = 0
      · rw [h0, if_pos (show nI 0 ≤ (0 : Int32) from by decide)]
        unfold k_X0_look_78 k_X0_look_79
        rw [if_pos rfl]
        exact fin 0 (by rw [h0, bh_tn_0 hp]; rfl)
      · rw [if_neg (nI_nle (by omega) (by omega)), oN, hta, if_neg (by rw [nI_leI (by omega) (by omega)]; omega)]
        unfold k_X0_look_79
        rw [if_neg (by decide), hta, inb_n (by omega) (by omega), gd_t, nI_clamp (by omega), FF2.1 _ _ (by omega), hT _ (by omega) hN]
        exact fin _ rfl
    · have hk2' : k = K := by omega
      subst hk2'
      rw [if_pos (nI_le (by omega) (by omega)), nI_1]
      refine hkc hr G2 ⟨⟨?_, ?_, ?_⟩, fun r' k' h1 h2 => ?_, FF2⟩
      · rw [F2.1 _ _ (by omega)]; exact v0
      · rw [F2.1 _ _ (by omega)]; exact v1
      · rw [F2.1 _ _ (by omega)]; exact v2
      · by_cases hrr : r' = r
        · subst hrr; exact q2 k' h2
        · have h3 := Nat.mul_le_mul_right k (show r' + 1 ≤ r from by omega)
          rw [Nat.succ_mul] at h3
          rw [F2.1 _ _ (by omega)]
          exact q1 r' k' (by omega) h2
  · have hr2 : r = R := by omega
    subst hr2
    rw [if_pos (nI_le (by omega) (by omega))]
    exact ⟨G1, rfl, ⟨v0, v1, v2, q1⟩, F1⟩
/-! what a card has: pure -/
def bh_mxf (f : Nat → Nat) : Nat → Nat
  | 0 => 0
  | n + 1 => max (bh_mxf f n) (f n)
def bh_rT (K : Nat) (T : Nat → Nat → Nat) (r : Nat) : Nat := bh_mxf (T r) K
def bh_rL (K : Nat) (T : Nat → Nat → Nat) (n r : Nat) : Nat := bh_sm (fun k => if n < T r k then 1 else 0) K
def bh_tO (K R : Nat) (T : Nat → Nat → Nat) (kind : Nat) : Nat := bh_srt R (bh_rT K T) (if kind = 2 then R - 1 else kind)
def bh_tI (K R : Nat) (T : Nat → Nat → Nat) (kind : Nat) : Int32 := if kind = 1 ∧ R < 2 then -1 else nI (bh_tO K R T kind)
def bh_lO (K R : Nat) (T : Nat → Nat → Nat) (kind n : Nat) : Nat := if kind = 2 then bh_sm (bh_rL K T n) R else bh_sm (bh_srt R (bh_rL K T n)) (kind + 1)
def bh_lI (K R : Nat) (T : Nat → Nat → Nat) (kind n : Nat) : Int32 := if kind = 1 ∧ R < 2 then -1 else nI (bh_lO K R T kind n)
theorem bh_mxf_le {f : Nat → Nat} {m : Nat} : ∀ {n : Nat}, (bh_mxf f n ≤ m ↔ ∀ k, k < n → f k ≤ m)
  | 0 => ⟨fun _ k hk => absurd hk (Nat.not_lt_zero _), fun _ => Nat.zero_le _⟩
  | n + 1 => by
    unfold bh_mxf
    rw [Nat.max_le, bh_mxf_le (n := n)]
    refine ⟨fun h k hk => ?_, fun h => ⟨fun k hk => h k (by omega), h n (by omega)⟩⟩
    by_cases hkn : k = n
    · subst hkn; exact h.2
    · exact h.1 k (by omega)
theorem bh_sm_0 {f : Nat → Nat} : ∀ {n : Nat}, (bh_sm f n = 0 ↔ ∀ k, k < n → f k = 0)
  | 0 => ⟨fun _ k hk => absurd hk (Nat.not_lt_zero _), fun _ => rfl⟩
  | n + 1 => by
    unfold bh_sm
    rw [Nat.add_eq_zero_iff, bh_sm_0 (n := n)]
    refine ⟨fun h k hk => ?_, fun h => ⟨fun k hk => h k (by omega), h n (by omega)⟩⟩
    by_cases hkn : k = n
    · subst hkn; exact h.2
    · exact h.1 k (by omega)
theorem bh_rL_0 {K n r : Nat} {T : Nat → Nat → Nat} : bh_rL K T n r = 0 ↔ bh_rT K T r ≤ n := by
  unfold bh_rL bh_rT
  rw [bh_sm_0, bh_mxf_le]
  refine ⟨fun h k hk => ?_, fun h k hk => ?_⟩
  · have := h k hk
    by_cases h2 : n < T r k
    · rw [if_pos h2] at this; omega
    · omega
  · exact if_neg (Nat.not_lt.mpr (h k hk))
theorem bh_lO_tO {K R kind n : Nat} {T : Nat → Nat → Nat} (hR : 1 ≤ R ∧ R ≤ 3) (hk : kind < 3) (hcan : ¬ (kind = 1 ∧ R < 2)) : bh_lO K R T kind n = 0 ↔ bh_tO K R T kind ≤ n := by
  have h0 := bh_rL_0 (K := K) (n := n) (r := 0) (T := T)
  have h1 := bh_rL_0 (K := K) (n := n) (r := 1) (T := T)
  have h2 := bh_rL_0 (K := K) (n := n) (r := 2) (T := T)
  rcases (by omega : R = 1 ∨ R = 2 ∨ R = 3) with rfl | rfl | rfl <;> rcases (by omega : kind = 0 ∨ kind = 1 ∨ kind = 2) with rfl | rfl | rfl <;> simp [bh_lO, bh_tO, bh_srt, bh_sm] at hcan ⊢ <;> omega
theorem bh_srt_bd {a : Nat → Nat} {n j m : Nat} (hn : 1 ≤ n ∧ n ≤ 3) (hj : j < 3) (h : ∀ i, i < 3 → a i ≤ m) : bh_srt n a j ≤ m := by
  have h0 := h 0 (by omega)
  have h1 := h 1 (by omega)
  have h2 := h 2 (by omega)
  rcases (by omega : n = 1 ∨ n = 2 ∨ n = 3) with rfl | rfl | rfl <;> rcases (by omega : j = 0 ∨ j = 1 ∨ j = 2) with rfl | rfl | rfl <;> simp [bh_srt] <;> omega
/-! the class's questions to the view -/
theorem jmax_n {a b : Nat} (ha : a < 2 ^ 31) (hb : b < 2 ^ 31) : jmax (nI a) (nI b) = nI (max a b) := by
  unfold jmax
  by_cases h : a < b
  · rw [if_pos (nI_lt h hb), Nat.max_eq_right (by omega)]
  · rw [if_neg (nI_nlt (by omega) ha), Nat.max_eq_left (by omega)]
theorem jmin_n {a b : Nat} (ha : a < 2 ^ 31) (hb : b < 2 ^ 31) : jmin (nI a) (nI b) = nI (min a b) := by
  unfold jmin
  by_cases h : b < a
  · rw [if_pos (nI_lt h ha), Nat.min_eq_right (by omega)]
  · rw [if_neg (nI_nlt (by omega) hb), Nat.min_eq_left (by omega)]
theorem bh_turnAt {G : GM} {R E K r k : Nat} {T : Nat → Nat → Nat} (h : bh_VW G R E K T) (hR : R ≤ 3) (hK : K ≤ 5) (hr : r < R) (hk : k < K) : f_X0_turnAt (nI r) (nI k) G = some (nI (T r k), G) := by
  have hrk := bh_rK hR hK hr hk
  unfold f_X0_turnAt
  rw [h.2.1, pk_mul, nI_add, lt_r, if_neg (nI_pos (by omega)), if_pos (by rw [show (15 : Int32) = nI 15 from rfl, nI_ltI (by omega) (by omega)]; omega), inb_n hrk (by omega), gd_t, nI_clamp (by omega), h.2.2.2 r k hr hk]
theorem bh_rowTurn {G : GM} {R E K r : Nat} {T : Nat → Nat → Nat} (h : bh_VW G R E K T) (hR : R ≤ 3) (hK : K ≤ 5) (hr : r < R) (hT : ∀ k, k < K → T r k ≤ 45) : f_X0_rowTurn (nI r) G = some (nI (bh_rT K T r), G) := by
  unfold f_X0_rowTurn
  refine wl2_up (P := fun o => o = some (nI (bh_rT K T r), G)) (I := fun i y G1 => G1 = G ∧ y = nI (bh_mxf (T r) i) ∧ bh_mxf (T r) i ≤ 45) (N := K) (by omega) ?_ (n := FU) (i := 0) (Nat.zero_le _) ⟨rfl, rfl, Nat.zero_le _⟩ (by unfold FU; omega)
  rintro kc k _ G1 hk' ⟨rfl, rfl, hb⟩ hkc
  unfold lp_X0_rowTurn_4
  rw [h.2.1]
  by_cases hk : k < K
  · have := hT k hk
    rw [if_neg (nI_ge hk (by omega)), bh_turnAt h hR hK hr hk, ob_s, jmax_n (by omega) (by omega), lt_r, nI_1]
    exact hkc hk _ _ ⟨rfl, rfl, by unfold bh_mxf; omega⟩
  · have hk2 : k = K := by omega
    subst hk2
    rw [if_pos (nI_le (by omega) (by omega))]
    rfl
theorem bh_rowLack {G : GM} {R E K r n : Nat} {T : Nat → Nat → Nat} (h : bh_VW G R E K T) (hR : R ≤ 3) (hK : K ≤ 5) (hr : r < R) (hn : n ≤ 45) (hT : ∀ k, k < K → T r k ≤ 45) : f_X0_rowLack (nI r) (nI n) G = some (nI (bh_rL K T n r), G) := by
  unfold f_X0_rowLack
  refine wl2_up (P := fun o => o = some (nI (bh_rL K T n r), G)) (I := fun i y G1 => G1 = G ∧ y = nI (bh_sm (fun k => if n < T r k then 1 else 0) i)) (N := K) (by omega) ?_ (n := FU) (i := 0) (Nat.zero_le _) ⟨rfl, rfl⟩ (by unfold FU; omega)
  rintro kc k _ G1 hk' ⟨rfl, rfl⟩ hkc
  unfold lp_X0_rowLack_5
  rw [h.2.1]
  by_cases hk : k < K
  · have := hT k hk
    rw [if_neg (nI_ge hk (by omega)), bh_turnAt h hR hK hr hk, ob_s]
    by_cases hc : n < T r k
    · rw [if_neg (by rw [nI_leI (by omega) (by omega)]; omega), nI_1, nI_1]
      exact hkc hk _ _ ⟨rfl, by show _ = nI (_ + if n < T r k then 1 else 0); rw [if_pos hc]⟩
    · rw [if_pos (nI_le (by omega) (by omega)), nI_1]
      exact hkc hk _ _ ⟨rfl, by show _ = nI (_ + if n < T r k then 1 else 0); rw [if_neg hc]; rfl⟩
  · have hk2 : k = K := by omega
    subst hk2
    rw [if_pos (nI_le (by omega) (by omega))]
    rfl
theorem bh_rL_le {K T n r} (hK : K ≤ 5) : bh_rL K T n r ≤ 5 := by
  have := bh_sm_bd (f := fun k => if n < T r k then 1 else 0) (m := 1) (n := K) (fun i _ => by split <;> omega)
  unfold bh_rL; omega
theorem bh_canHave1 {G : GM} {R E K kind : Nat} {T : Nat → Nat → Nat} (h : bh_VW G R E K T) (hR : 1 ≤ R ∧ R ≤ 3) (hk : kind < 3) (hcan : ¬ (kind = 1 ∧ R < 2)) : f_X0_canHave (nI kind) G = some (1, G) := by
  unfold f_X0_canHave k_X0_canHave_14
  rw [h.1]
  by_cases h1 : kind = 1
  · subst h1
    rw [if_pos (show nI 1 = (1 : Int32) from rfl), if_neg (by rw [show (1 : Int32) = nI 1 from rfl, nI_leI (by omega) (by omega)]; omega)]
  · rw [if_neg (by rw [show (1 : Int32) = nI 1 from rfl, nI_eq (by omega) (by omega)]; exact h1), if_neg (nI_nle (by omega) (by omega))]
theorem bh_canHave0 {G : GM} {R E K kind : Nat} {T : Nat → Nat → Nat} (h : bh_VW G R E K T) (hcan : kind = 1 ∧ R < 2) : f_X0_canHave (nI kind) G = some (0, G) := by
  unfold f_X0_canHave k_X0_canHave_14
  rw [h.1, hcan.1, if_pos (show nI 1 = (1 : Int32) from rfl), if_pos (by rw [show (1 : Int32) = nI 1 from rfl, nI_leI (by omega) (by omega)]; omega)]
theorem bh_turnOf {G : GM} {R E K kind : Nat} {T : Nat → Nat → Nat} (h : bh_VW G R E K T) (hR : 1 ≤ R ∧ R ≤ 3) (hK : K ≤ 5) (hk : kind < 3) (hT : ∀ r k, r < R → k < K → T r k ≤ 45) : ∃ G', f_X0_turnOf (nI kind) G = some (bh_tI K R T kind, G') ∧ bh_F (fun a _ => a = 73) G G' := by
  unfold f_X0_turnOf
  by_cases hcan : kind = 1 ∧ R < 2
  · refine ⟨G, ?_, bh_Fr _ _⟩
    rw [bh_canHave0 h hcan, ob_s, if_pos rfl]
    unfold bh_tI
    rw [if_pos hcan]
  · rw [bh_canHave1 h hR hk hcan, ob_s, if_neg (by decide)]
    have l73 : LN 73 = 3 := by decide
    refine wl1_up (P := fun o => ∃ G', o = some (bh_tI K R T kind, G') ∧ bh_F (fun a _ => a = 73) G G') (I := fun i G1 => (∀ r, r < i → gI G1 73 r = nI (bh_rT K T r)) ∧ bh_F (fun a _ => a = 73) G G1) (N := R) (by omega) ?_ (n := FU) (i := 0) (Nat.zero_le _) ⟨fun r hr => absurd hr (Nat.not_lt_zero _), bh_Fr _ _⟩ (by unfold FU; omega)
    rintro kc r G1 hr' ⟨q1, F1⟩ hkc
    have h1 := bh_VW_F h F1 (fun a q h => by omega)
    unfold lp_X0_turnOf_12
    rw [h1.1]
    by_cases hr : r < R
    · rw [if_neg (nI_ge hr (by omega)), bh_rowTurn h1 hR.2 hK hr (fun k hk => hT r k hr hk), ob_s, inb_n (by omega) (by omega), gd_t, lt_r, nI_clamp (by omega), nI_1]
      refine hkc hr _ ⟨fun r' hr' => ?_, bh_FI F1 rfl⟩
      rw [gI_sI]
      by_cases hrr : r' = r
      · rw [if_pos ⟨rfl, hrr⟩, hrr]
      · rw [if_neg (fun q => hrr q.2)]; exact q1 r' (by omega)
    · have hr2 : r = R := by omega
      subst hr2
      rw [if_pos (nI_le (by omega) (by omega))]
      obtain ⟨G2, e2, p2, F2⟩ := bh_sort (G := G1) (v := 73) (n := r) (a := bh_rT K T) hR.2 (by omega) (fun i hi => ⟨q1 i hi, by
        have : bh_rT K T i ≤ 45 := bh_mxf_le.mpr fun k hk => hT i k hi hk
        omega⟩)
      rw [e2, ov_s]
      have hv := bh_VW_F h1 F2 (fun a q h => by omega)
      refine ⟨G2, ?_, bh_Ft F1 (bh_Fm F2 (fun a q h => h.1))⟩
      unfold bh_tI bh_tO
      rw [if_neg hcan]
      by_cases h2 : kind = 2
      · subst h2
        obtain ⟨r', rfl⟩ : ∃ r', r = r' + 1 := ⟨r - 1, by omega⟩
        rw [if_pos (show nI 2 = (2 : Int32) from rfl), hv.1, bh_m1, inb_n (by omega) (by omega), gd_t, nI_clamp (by omega), p2 r' (by omega), if_pos rfl, Nat.add_sub_cancel]
      · rw [if_neg (by rw [show (2 : Int32) = nI 2 from rfl, nI_eq (by omega) (by omega)]; exact h2), if_neg h2]
        by_cases h3 : kind = 1
        · subst h3
          rw [if_pos (show nI 1 = (1 : Int32) from rfl), show inb (1 : Int32) 3 = true from by decide, gd_t, show (1 : Int32).toNatClampNeg = 1 from by decide, p2 1 (by omega)]
        · have h4 : kind = 0 := by omega
          subst h4
          rw [if_neg (show ¬ nI 0 = (1 : Int32) from by decide), show inb (0 : Int32) 3 = true from by decide, gd_t, show (0 : Int32).toNatClampNeg = 0 from by decide, p2 0 (by omega)]
theorem bh_lackOf {G : GM} {R E K kind n : Nat} {T : Nat → Nat → Nat} (h : bh_VW G R E K T) (hR : 1 ≤ R ∧ R ≤ 3) (hK : K ≤ 5) (hk : kind < 3) (hn : n ≤ 45) (hT : ∀ r k, r < R → k < K → T r k ≤ 45) : ∃ G', f_X0_lackOf (nI kind) (nI n) G = some (bh_lI K R T kind n, G') ∧ bh_F (fun a _ => a = 73) G G' := by
  unfold f_X0_lackOf
  by_cases hcan : kind = 1 ∧ R < 2
  · refine ⟨G, ?_, bh_Fr _ _⟩
    rw [bh_canHave0 h hcan, ob_s, if_pos rfl]
    unfold bh_lI
    rw [if_pos hcan]
  · rw [bh_canHave1 h hR hk hcan, ob_s, if_neg (by decide)]
    have l73 : LN 73 = 3 := by decide
    refine wl1_up (P := fun o => ∃ G', o = some (bh_lI K R T kind n, G') ∧ bh_F (fun a _ => a = 73) G G') (I := fun i G1 => (∀ r, r < i → gI G1 73 r = nI (bh_rL K T n r)) ∧ bh_F (fun a _ => a = 73) G G1) (N := R) (by omega) ?_ (n := FU) (i := 0) (Nat.zero_le _) ⟨fun r hr => absurd hr (Nat.not_lt_zero _), bh_Fr _ _⟩ (by unfold FU; omega)
    rintro kc r G1 hr' ⟨q1, F1⟩ hkc
    have h1 := bh_VW_F h F1 (fun a q h => by omega)
    unfold lp_X0_lackOf_12
    rw [h1.1]
    by_cases hr : r < R
    · rw [if_neg (nI_ge hr (by omega)), bh_rowLack h1 hR.2 hK hr hn (fun k hk => hT r k hr hk), ob_s, inb_n (by omega) (by omega), gd_t, lt_r, nI_clamp (by omega), nI_1]
      refine hkc hr _ ⟨fun r' hr' => ?_, bh_FI F1 rfl⟩
      rw [gI_sI]
      by_cases hrr : r' = r
      · rw [if_pos ⟨rfl, hrr⟩, hrr]
      · rw [if_neg (fun q => hrr q.2)]; exact q1 r' (by omega)
    · have hr2 : r = R := by omega
      subst hr2
      rw [if_pos (nI_le (by omega) (by omega))]
      obtain ⟨G2, e2, p2, F2⟩ := bh_sort (G := G1) (v := 73) (n := r) (a := bh_rL K T n) hR.2 (by omega) (fun i hi => ⟨q1 i hi, by
        have : bh_rL K T n i ≤ 5 := bh_rL_le hK
        omega⟩)
      rw [e2, ov_s]
      have hv := bh_VW_F h1 F2 (fun a q h => by omega)
      have FF2 : bh_F (fun a _ => a = 73) G G2 := bh_Ft F1 (bh_Fm F2 (fun a q h => h.1))
      have loop : ∀ m, m ≤ r → ∃ G', k_X0_lackOf_64 (nI kind) (nI n) (nI m) G2 = some (nI (bh_sm (bh_srt r (bh_rL K T n)) m), G') ∧ bh_F (fun a _ => a = 73) G G' := by
        intro m hm
        unfold k_X0_lackOf_64
        refine wl2_up (P := fun o => ∃ G', o = some (nI (bh_sm (bh_srt r (bh_rL K T n)) m), G') ∧ bh_F (fun a _ => a = 73) G G') (I := fun i y G3 => G3 = G2 ∧ y = nI (bh_sm (bh_srt r (bh_rL K T n)) i)) (N := m) (by omega) ?_ (n := FU) (i := 0) (Nat.zero_le _) ⟨rfl, rfl⟩ (by unfold FU; omega)
        rintro kc2 i _ G3 hi' ⟨rfl, rfl⟩ hk2
        unfold lp_X0_lackOf_71
        by_cases hi : i < m
        · rw [if_neg (nI_ge hi (by omega)), inb_n (by omega) (by omega), gd_t, nI_clamp (by omega), p2 i (by omega), nI_add, lt_r, nI_1]
          exact hk2 hi _ _ ⟨rfl, rfl⟩
        · have hi2 : i = m := by omega
          subst hi2
          rw [if_pos (nI_le (by omega) (by omega))]
          exact ⟨G3, rfl, FF2⟩
      unfold bh_lI bh_lO
      rw [if_neg hcan]
      by_cases h2 : kind = 2
      · subst h2
        rw [if_pos (show nI 2 = (2 : Int32) from rfl), hv.1, if_pos rfl]
        have hs : bh_sm (bh_srt r (bh_rL K T n)) r = bh_sm (bh_rL K T n) r := by
          rcases (by omega : r = 1 ∨ r = 2 ∨ r = 3) with rfl | rfl | rfl <;> simp [bh_srt, bh_sm] <;> omega
        rw [← hs]
        exact loop r (Nat.le_refl _)
      · rw [if_neg (by rw [show (2 : Int32) = nI 2 from rfl, nI_eq (by omega) (by omega)]; exact h2), if_neg h2, nI_1]
        exact loop (kind + 1) (by omega)
