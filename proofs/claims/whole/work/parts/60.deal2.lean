/-! hands, laid down -/
theorem bh_fill {b : Nat} (G : GM) (v : Int32) (hb : LN b < 100000) : ∃ G', f_J7_fill_53178 b v G = some G' ∧ bh_F (fun a _ => a = b) G G' ∧ ∀ i, i < LN b → gI G' b i = v := by
  unfold f_J7_fill_53178
  rw [lt_r]
  refine wl1_up (P := fun o => ∃ G', o = some G' ∧ bh_F (fun a _ => a = b) G G' ∧ ∀ i, i < LN b → gI G' b i = v) (I := fun i G1 => bh_F (fun a _ => a = b) G G1 ∧ ∀ j, j < i → gI G1 b j = v) (N := LN b) (by omega) ?_ (n := FU) (i := 0) (Nat.zero_le _) ⟨bh_Fr _ _, fun j hj => absurd hj (Nat.not_lt_zero _)⟩ (by unfold FU; omega)
  rintro kc i G1 hi ⟨h1, h2⟩ hk
  unfold lp_J7_fill_53178_5
  rw [oN]
  by_cases h : i < LN b
  · rw [if_neg (nI_ge h (by omega)), inb_n h (by omega), gd_t, lt_r, nI_clamp (by omega), nI_1]
    refine hk h _ ⟨bh_FI h1 rfl, fun j hj => ?_⟩
    rw [gI_sI]
    by_cases hji : j = i
    · rw [if_pos ⟨rfl, hji⟩]
    · rw [if_neg (fun h3 => hji h3.2)]
      exact h2 j (by omega)
  · rw [if_pos (nI_le (by omega) (by omega))]
    exact ⟨G1, rfl, h1, fun j hj => h2 j (by omega)⟩
theorem bh_ins {v i x : Nat} {n : Int32} {b : Nat → Nat} {kc2 : Int32 → GM → Option GM} {G : GM} {P : Option GM → Prop} (hi : i < LN v) (hln : LN v < 1000) (hb : ∀ j, j < i → gI G v j = nI (b j) ∧ b j < 2 ^ 31) (hx : x < 2 ^ 31) (hP : ∀ p G2, p ≤ i → (p = 0 ∨ b (p - 1) ≤ x) → (∀ j, p ≤ j → j < i → x < b j) → (∀ j, j ≤ i → gI G2 v j = nI (if j < p then b j else if j = p then x else b (j - 1))) → bh_F (fun a k => a = v ∧ k ≤ i) G G2 → P (kc2 (nI (i + 1)) G2)) : P (wl1 FU (lp_X9_sortRising_20 v n (nI i) (nI x) kc2) (nI i) G) := by
  refine wl1_P (P := P) (I := fun y G1 => ∃ p, y = nI p ∧ p ≤ i ∧ (∀ j, j < p → gI G1 v j = nI (b j)) ∧ (∀ j, p < j → j ≤ i → gI G1 v j = nI (b (j - 1))) ∧ (∀ j, p ≤ j → j < i → x < b j) ∧ bh_F (fun a k => a = v ∧ k ≤ i) G G1) (m := fun y _ => y.toNatClampNeg) ?_ FU (nI i) G ⟨i, rfl, Nat.le_refl _, fun j hj => (hb j hj).1, fun j h1 h2 => by omega, fun j h1 h2 => by omega, bh_Fr _ _⟩ (by rw [nI_clamp (by omega)]; unfold FU; omega)
  rintro kc _ G1 ⟨p, rfl, hp, q1, q2, q3, hF⟩ hk
  have out : (p = 0 ∨ b (p - 1) ≤ x) → P (k_X9_sortRising_51 v n (nI i) (nI x) (nI p) kc2 G1) := by
    intro h0
    unfold k_X9_sortRising_51
    rw [inb_n (by omega) (by omega), gd_t, lt_r, nI_clamp (by omega), nI_1]
    refine hP p _ hp h0 q3 (fun j hj => ?_) (bh_FI hF ⟨rfl, hp⟩)
    rw [gI_sI]
    by_cases hjp : j = p
    · rw [if_pos ⟨rfl, hjp⟩, if_neg (by omega), if_pos hjp]
    · rw [if_neg (fun h => hjp h.2), if_neg hjp]
      by_cases hjp2 : j < p
      · rw [if_pos hjp2]; exact q1 j hjp2
      · rw [if_neg hjp2]; exact q2 j (by omega) hj
  unfold lp_X9_sortRising_20
  by_cases hp0 : p = 0
  · subst hp0
    rw [if_pos (by decide)]
    exact out (Or.inl rfl)
  · obtain ⟨p', rfl⟩ : ∃ p', p = p' + 1 := ⟨p - 1, by omega⟩
    have hb' := hb p' (by omega)
    rw [if_neg (nI_nle (by omega) (by omega)), bh_m1, inb_n (by omega) (by omega), gd_t, nI_clamp (by omega), q1 p' (by omega)]
    by_cases hc : b p' ≤ x
    · rw [if_pos (nI_le hc (by omega))]
      exact out (Or.inr hc)
    · rw [if_neg (by rw [nI_leI hb'.2 hx]; exact hc), gd_t, inb_n (by omega) (by omega), gd_t, lt_r, nI_clamp (by omega), pk_m1]
      refine hk _ _ ⟨p', rfl, by omega, fun j hj => ?_, fun j hj hj2 => ?_, fun j hj hj2 => ?_, bh_FI hF ⟨rfl, hp⟩⟩ (by rw [nI_clamp (by omega), nI_clamp (by omega)]; omega)
      · rw [gI_sIk (by omega)]; exact q1 j (by omega)
      · rw [gI_sI]
        by_cases hjp : j = p' + 1
        · rw [if_pos ⟨rfl, hjp⟩, hjp]; rfl
        · rw [if_neg (fun h => hjp h.2)]; exact q2 j (by omega) hj2
      · by_cases hjp : j = p'
        · subst hjp; omega
        · exact q3 j (by omega) hj2
theorem bh_srt_step {a : Nat → Nat} {i p j : Nat} (h1 : 1 ≤ i) (hi : i < 3) (hp : p ≤ i) (h0 : p = 0 ∨ bh_srt i a (p - 1) ≤ a i) (h : ∀ j, p ≤ j → j < i → a i < bh_srt i a j) (hj : j ≤ i) : (if j < p then bh_srt i a j else if j = p then a i else bh_srt i a (j - 1)) = bh_srt (i + 1) a j := by
  rcases (by omega : i = 1 ∨ i = 2) with rfl | rfl
  · have g := h 0
    rcases (by omega : p = 0 ∨ p = 1) with rfl | rfl <;> rcases (by omega : j = 0 ∨ j = 1) with rfl | rfl <;> simp [bh_srt] at h0 g ⊢ <;> omega
  · have g := h 0
    have g2 := h 1
    rcases (by omega : p = 0 ∨ p = 1 ∨ p = 2) with rfl | rfl | rfl <;> rcases (by omega : j = 0 ∨ j = 1 ∨ j = 2) with rfl | rfl | rfl <;> simp [bh_srt] at h0 g g2 ⊢ <;> omega
theorem bh_srt_lt {a : Nat → Nat} {n j m : Nat} (hn : n ≤ 3) (hj : j < n) (h : ∀ i, i < n → a i < m) : bh_srt n a j < m := by
  obtain ⟨i, hi, he⟩ := bh_srt_mem (a := a) hn hj
  rw [he]; exact h i hi
theorem bh_sort {G : GM} {v n : Nat} {a : Nat → Nat} (hn : n ≤ 3) (hln : 3 ≤ LN v ∧ LN v < 1000) (ha : ∀ i, i < n → gI G v i = nI (a i) ∧ a i < 2 ^ 31) : ∃ G', f_X9_sortRising v (nI n) G = some G' ∧ (∀ i, i < n → gI G' v i = nI (bh_srt n a i)) ∧ bh_F (fun a' k => a' = v ∧ k < n) G G' := by
  unfold f_X9_sortRising
  by_cases hn1 : n ≤ 1
  · refine ⟨G, ?_, fun i hi => ?_, bh_Fr _ _⟩
    · show wl1 (99999 + 1) _ _ _ = _
      rw [wl1_s]
      unfold lp_X9_sortRising_2
      rw [if_pos (show nI n ≤ (1 : Int32) from nI_le (b := 1) hn1 (by omega))]
    · rw [(ha i hi).1]
      unfold bh_srt
      rw [if_pos hn1]
  · refine wl1_up (P := fun o => ∃ G', o = some G' ∧ (∀ i, i < n → gI G' v i = nI (bh_srt n a i)) ∧ bh_F (fun a' k => a' = v ∧ k < n) G G') (I := fun i G1 => 1 ≤ i ∧ (∀ j, j < n → gI G1 v j = nI (if j < i then bh_srt i a j else a j)) ∧ bh_F (fun a' k => a' = v ∧ k < n) G G1) (N := n) (by omega) ?_ (n := FU) (i := 1) (by omega) ⟨Nat.le_refl _, fun j hj => ?_, bh_Fr _ _⟩ (by unfold FU; omega)
    · rintro kc i G1 hi ⟨h1, h2, hF⟩ hk
      unfold lp_X9_sortRising_2
      by_cases hin : i < n
      · have e := h2 i hin
        rw [if_neg (Nat.lt_irrefl _)] at e
        rw [if_neg (nI_ge hin (by omega)), oN, if_neg (by rw [nI_leI (by omega) (by omega)]; omega), inb_n (by omega) (by omega), gd_t, lt_r, nI_clamp (by omega), e]
        refine bh_ins (b := bh_srt i a) (P := fun o => ∃ G', o = some G' ∧ (∀ i, i < n → gI G' v i = nI (bh_srt n a i)) ∧ bh_F (fun a' k => a' = v ∧ k < n) G G') (by omega) hln.2 (fun j hj => ?_) (ha i hin).2 ?_
        · have := h2 j (by omega)
          rw [if_pos hj] at this
          exact ⟨this, bh_srt_lt (by omega) hj fun q hq => (ha q (by omega)).2⟩
        · intro p G2 hp hp0 hp1 hG2 hF2
          refine hk hin G2 ⟨by omega, fun j hj => ?_, bh_Ft hF (bh_Fm hF2 (fun a k h => ⟨h.1, by omega⟩))⟩
          by_cases hji : j ≤ i
          · rw [if_pos (by omega), hG2 j hji, bh_srt_step h1 (by omega) hp hp0 hp1 hji]
          · rw [if_neg (by omega), hF2.1 _ _ (fun q => hji q.2), h2 j hj, if_neg (by omega)]
      · have hin2 : i = n := by omega
        subst hin2
        rw [if_pos (nI_le (by omega) (by omega))]
        refine ⟨G1, rfl, fun j hj => ?_, hF⟩
        rw [h2 j hj, if_pos hj]
    · rw [(ha j hj).1]
      by_cases hj1 : j < 1
      · rw [if_pos hj1]
        unfold bh_srt
        rw [if_pos (by omega)]
      · rw [if_neg hj1]
/-- the place of a card, a row, a column in a strip of the class -/
def bh_at (R K c r k : Nat) : Nat := (c * R + r) * K + k
theorem bh_mul_inj {K x k x' k' : Nat} (hk : k < K) (hk' : k' < K) (h : x * K + k = x' * K + k') : x = x' ∧ k = k' := by
  have hx : x = x' := by
    apply Classical.byContradiction
    intro hn
    rcases Nat.lt_or_gt_of_ne hn with h2 | h2
    · have := Nat.mul_le_mul_right K (show x + 1 ≤ x' from h2)
      rw [Nat.succ_mul] at this
      omega
    · have := Nat.mul_le_mul_right K (show x' + 1 ≤ x from h2)
      rw [Nat.succ_mul] at this
      omega
  subst hx
  exact ⟨rfl, by omega⟩
theorem bh_at_inj {R K c r k c' r' k' : Nat} (hr : r < R) (hr' : r' < R) (hk : k < K) (hk' : k' < K) (h : bh_at R K c r k = bh_at R K c' r' k') : c = c' ∧ r = r' ∧ k = k' := by
  obtain ⟨h1, h2⟩ := bh_mul_inj hk hk' h
  obtain ⟨h3, h4⟩ := bh_mul_inj hr hr' h1
  exact ⟨h3, h4, h2⟩
theorem bh_at_lt {C R K c r k : Nat} (hc : c < C) (hr : r < R) (hk : k < K) : bh_at R K c r k < C * R * K := by
  unfold bh_at
  have h1 := Nat.mul_le_mul_right R (show c + 1 ≤ C from hc)
  rw [Nat.succ_mul] at h1
  have h2 := Nat.mul_le_mul_right K (show c * R + r + 1 ≤ C * R from by omega)
  rw [Nat.succ_mul] at h2
  omega
theorem bh_CRK {C R K : Nat} (hC : C ≤ 3) (hR : R ≤ 3) (hK : K ≤ 5) : C * R * K ≤ 45 := Nat.mul_le_mul (Nat.mul_le_mul hC hR) hK
theorem bh_cR {C R c r : Nat} (hC : C ≤ 3) (hR : R ≤ 3) (hc : c < C) (hr : r < R) : c * R + r < 9 := by
  have h1 := Nat.mul_le_mul_right R (show c + 1 ≤ C from hc)
  rw [Nat.succ_mul] at h1
  have h2 : C * R ≤ 9 := Nat.mul_le_mul hC hR
  omega
theorem bh_placeOf {G : GM} {f C R K c r k : Nat} (h1 : gI G f 1 = nI R) (h3 : gI G f 3 = nI K) (hC : C ≤ 3) (hR : R ≤ 3) (hK : K ≤ 5) (hc : c < C) (hr : r < R) (hk : k < K) : f_X4_placeOf f (nI c) (nI r) (nI k) G = some (nI (bh_at R K c r k), G) := by
  have hlt := bh_at_lt hc hr hk
  have h45 := bh_CRK hC hR hK
  unfold bh_at at hlt
  unfold f_X4_placeOf
  rw [h1, h3, pk_mul, nI_add, pk_mul, nI_add, lt_r, if_neg (nI_pos (by omega)), if_pos (by rw [show (45 : Int32) = nI 45 from rfl, nI_ltI (by omega) (by omega)]; omega)]
  rfl
theorem bh_layDown {G : GM} {d f t C R K c k n : Nat} {y h : Nat → Nat} (f1 : gI G f 1 = nI R) (f3 : gI G f 3 = nI K) (hC : C ≤ 3) (hR : R ≤ 3) (hK : K ≤ 5) (hc : c < C) (hk : k < K) (hy : ∀ r, r < R → gI G (d + 3) (c * R + r) = nI (y r) ∧ y r < 33554432 ∧ bh_dg (y r) k ≤ 1) (hh : ∀ j, j < n → gI G (d + 5) j = nI (h j)) (hn : n ≤ 3) (hs : ∀ r, r < R → bh_dg (y r) k = 1 → bh_sm (fun r => bh_dg (y r) k) r < n) (ht : LN t = 45) (htd : t ≠ d + 3 ∧ t ≠ d + 5 ∧ t ≠ f) : ∃ G', f_X2_layDown d f (nI c) (nI k) t G = some G' ∧ (∀ r, r < R → bh_dg (y r) k = 1 → gI G' t (bh_at R K c r k) = nI (h (bh_sm (fun r => bh_dg (y r) k) r))) ∧ bh_F (fun a q => a = t ∧ ∃ r, r < R ∧ bh_dg (y r) k = 1 ∧ q = bh_at R K c r k) G G' := by
  unfold f_X2_layDown
  refine wl2_up (P := fun o => ∃ G', o = some G' ∧ (∀ r, r < R → bh_dg (y r) k = 1 → gI G' t (bh_at R K c r k) = nI (h (bh_sm (fun r => bh_dg (y r) k) r))) ∧ bh_F (fun a q => a = t ∧ ∃ r, r < R ∧ bh_dg (y r) k = 1 ∧ q = bh_at R K c r k) G G') (I := fun i w G1 => w = nI (bh_sm (fun r => bh_dg (y r) k) i) ∧ (∀ r, r < i → bh_dg (y r) k = 1 → gI G1 t (bh_at R K c r k) = nI (h (bh_sm (fun r => bh_dg (y r) k) r))) ∧ bh_F (fun a q => a = t ∧ ∃ r, r < R ∧ bh_dg (y r) k = 1 ∧ q = bh_at R K c r k) G G1) (N := R) (by omega) ?_ (n := FU) (i := 0) (Nat.zero_le _) ⟨rfl, fun r hr => absurd hr (Nat.not_lt_zero _), bh_Fr _ _⟩ (by unfold FU; omega)
  rintro kc i _ G1 hi ⟨rfl, q1, hF⟩ hkk
  have g1 : gI G1 f 1 = nI R := (hF.1 _ _ (fun q => htd.2.2 q.1.symm)).trans f1
  have g3 : gI G1 f 3 = nI K := (hF.1 _ _ (fun q => htd.2.2 q.1.symm)).trans f3
  unfold lp_X2_layDown_6
  rw [g1]
  by_cases hiR : i < R
  · obtain ⟨y1, y2, y3⟩ := hy i hiR
    have y1' : gI G1 (d + 3) (c * R + i) = nI (y i) := (hF.1 _ _ (fun q => htd.1 q.1.symm)).trans y1
    have hcR := bh_cR hC hR hc hiR
    rw [if_neg (nI_ge hiR (by omega)), pk_mul, nI_add, inb_n hcR (by omega), gd_t, nI_clamp (by omega), y1', bh_digit (by omega) (by omega), ob_s]
    by_cases hd : bh_dg (y i) k = 1
    · have hsn := hs i hiR hd
      rw [hd, if_pos (show nI 1 = (1 : Int32) from rfl), if_neg (by rw [show (3 : Int32) = nI 3 from rfl, nI_leI (by omega) (by omega)]; omega), bh_placeOf g1 g3 hC hR hK hc hiR hk, ob_s]
      have hlt := bh_at_lt hc hiR hk
      have h45 := bh_CRK hC hR hK
      rw [inb_n (by omega) (by omega), gd_t, ht, inb_n (by omega) (by omega), gd_t, lt_r, nI_clamp (by omega), nI_clamp (by omega), nI_1, nI_1]
      refine hkk hiR _ _ ⟨?_, fun r hr hdr => ?_, bh_FI hF ⟨rfl, i, hiR, hd, rfl⟩⟩
      · show _ = nI (bh_sm (fun r => bh_dg (y r) k) i + bh_dg (y i) k)
        rw [hd]
      · rw [gI_sI]
        by_cases hri : r = i
        · subst hri
          rw [if_pos ⟨rfl, rfl⟩, hF.1 _ _ (fun q => htd.2.1 q.1.symm), hh _ hsn]
        · rw [if_neg (fun q => hri (bh_at_inj (by omega) hiR hk hk q.2).2.1)]
          exact q1 r (by omega) hdr
    · rw [if_neg (by rw [show (1 : Int32) = nI 1 from rfl, nI_eq (by omega) (by omega)]; exact hd), nI_1]
      refine hkk hiR _ _ ⟨?_, fun r hr hdr => ?_, hF⟩
      · show _ = nI (bh_sm (fun r => bh_dg (y r) k) i + bh_dg (y i) k)
        rw [show bh_dg (y i) k = 0 from by omega]; rfl
      · by_cases hri : r = i
        · subst hri; exact absurd hdr hd
        · exact q1 r (by omega) hdr
  · have hiR2 : i = R := by omega
    subst hiR2
    rw [if_pos (nI_le (by omega) (by omega))]
    exact ⟨G1, rfl, q1, hF⟩
