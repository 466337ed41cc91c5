/-! the TAPE: the three calls -/
def Wm : Nat → Nat → Bool := fun a k => (Nat.beq a 191 || (Nat.beq a 186 && Nat.beq k 6)) || (Nat.beq a 186 && Nat.beq k 0)
def WTp : Nat → Nat → Bool := fun a k => W54 a k || Wm a k
theorem WTp_a (a k : Nat) (h : WTp a k = false) : W54 a k = false := (Bool.or_eq_false_iff.mp h).1
theorem WTp_m (a k : Nat) (h : WTp a k = false) : Wm a k = false := (Bool.or_eq_false_iff.mp h).2
theorem WTp_b (a k : Nat) (h : Wm a k = false) : W191 a k = false := (Bool.or_eq_false_iff.mp h).1
theorem W54_191 (i : Nat) : W54 191 i = false := rfl
theorem W191_54 (i : Nat) : W191 54 i = false := rfl
theorem feed9 (v1 v2 v3 v4 v5 : Int32) (n : Nat) (G : GM) (h1 : gI G 53 1 = nI n) (hn : n + 20 ≤ 800) : ∃ G', f_X9_feed v1 v2 v3 v4 v5 G = some (nI (n + 20), G') ∧ gI G' 53 1 = nI (n + 20) ∧ gI G' 54 = put4 (put4 (put4 (put4 (put4 (gI G 54) n v1) (n + 4) v2) (n + 8) v3) (n + 12) v4) (n + 16) v5 ∧ fr W54 G G' := by
  obtain ⟨Ga, a1, a2, a3, a4⟩ := addFour_ok v1 n G h1 (by omega)
  obtain ⟨Gb, b1, b2, b3, b4⟩ := addFour_ok v2 (n + 4) Ga a2 (by omega)
  obtain ⟨Gc, c1, c2, c3, c4⟩ := addFour_ok v3 (n + 8) Gb b2 (by omega)
  obtain ⟨Gd, d1, d2, d3, d4⟩ := addFour_ok v4 (n + 12) Gc c2 (by omega)
  obtain ⟨Ge, e1, e2, e3, e4⟩ := addFour_ok v5 (n + 16) Gd d2 (by omega)
  refine ⟨Ge, ?_, e2, ?_, fr_trans a4 (fr_trans b4 (fr_trans c4 (fr_trans d4 e4)))⟩
  · unfold f_X9_feed
    rw [h1, if_pos, a1, ov_s, b1, ov_s, c1, ov_s, d1, ov_s, e1, ov_s, e2]
    rw [show (780 : Int32) = nI 780 from rfl, nI_leI (by omega) (by omega)]
    omega
  · rw [e3, d3, c3, b3, a3]
theorem feed10 (v1 v2 v3 v4 v5 : Int32) (n : Nat) (G : GM) (h1 : gI G 186 6 = nI n) (hn : n + 20 ≤ 800) : ∃ G', f_X10_feed v1 v2 v3 v4 v5 G = some (nI (n + 20), G') ∧ gI G' 186 6 = nI (n + 20) ∧ gI G' 191 = put4 (put4 (put4 (put4 (put4 (gI G 191) n v1) (n + 4) v2) (n + 8) v3) (n + 12) v4) (n + 16) v5 ∧ fr Wm G G' := by
  have h0 : gI (sI G 186 0 0) 186 6 = nI n := by rw [gI_sIk (by decide)]; exact h1
  obtain ⟨Ga, a1, a2, a3, a4⟩ := four_ok v1 n (sI G 186 0 0) h0 (by omega)
  obtain ⟨Gb, b1, b2, b3, b4⟩ := four_ok v2 (n + 4) Ga a2 (by omega)
  obtain ⟨Gc, c1, c2, c3, c4⟩ := four_ok v3 (n + 8) Gb b2 (by omega)
  obtain ⟨Gd, d1, d2, d3, d4⟩ := four_ok v4 (n + 12) Gc c2 (by omega)
  obtain ⟨Ge, e1, e2, e3, e4⟩ := four_ok v5 (n + 16) Gd d2 (by omega)
  refine ⟨Ge, ?_, e2, ?_, fr_trans (fr_sI rfl) (fr_mono (fr_trans a4 (fr_trans b4 (fr_trans c4 (fr_trans d4 e4)))) WTp_b)⟩
  · unfold f_X10_feed
    rw [lt_r, h0, if_pos, a1, ov_s, b1, ov_s, c1, ov_s, d1, ov_s, e1, ov_s, e2]
    rw [show (800 : Int32) = nI 800 from rfl, show (20 : Int32) = nI 20 from rfl, nI_add, nI_leI (by omega) (by omega)]
    omega
  · rw [e3, d3, c3, b3, a3]
    have : gI (sI G 186 0 0) 191 = gI G 191 := by funext i; exact gI_sIa (by decide) _ _ _ _
    rw [this]
theorem feed_ok (v1 v2 v3 v4 v5 : Int32) (G : GM) (hT : RT G) : PQ WTp RT (f_X9_feed v1 v2 v3 v4 v5) (f_X10_feed v1 v2 v3 v4 v5) G := by
  obtain ⟨n, hn, h1, h2, h3⟩ := hT
  by_cases hc : n + 20 ≤ 800
  · obtain ⟨G1, a1, a2, a3, a4⟩ := feed9 v1 v2 v3 v4 v5 n G h1 hc
    obtain ⟨G2, b1, b2, b3, b4⟩ := feed10 v1 v2 v3 v4 v5 n G1 ((fr_I a4 rfl).trans h2) hc
    refine ⟨_, G1, G2, a1, b1, ⟨n + 20, hc, ?_, b2, ?_⟩, fr_trans (fr_mono a4 WTp_a) (fr_mono b4 WTp_m)⟩
    · rw [fr_I b4 rfl]; exact a2
    · have e : gI G2 54 = gI G1 54 := by funext i; exact fr_I b4 rfl
      have e2 : gI G1 191 = gI G 191 := by funext i; exact fr_I a4 rfl
      rw [b3, e, a3, e2]
      exact put4_eq v5 (put4_eq v4 (put4_eq v3 (put4_eq v2 (put4_eq v1 h3))))
  · refine ⟨-1, G, sI G 186 0 0, ?_, ?_, ⟨n, hn, ?_, ?_, ?_⟩, fr_sI rfl⟩
    · unfold f_X9_feed
      rw [h1, if_neg]
      rw [show (780 : Int32) = nI 780 from rfl, nI_leI (by omega) (by omega)]
      omega
    · unfold f_X10_feed
      rw [lt_r, gI_sIk (by decide), h2, if_neg]
      rw [show (800 : Int32) = nI 800 from rfl, show (20 : Int32) = nI 20 from rfl, nI_add, nI_leI (by omega) (by omega)]
      omega
    · rw [gI_sIa (by decide)]; exact h1
    · rw [gI_sIk (by decide)]; exact h2
    · intro i hi
      rw [gI_sIa (by decide), gI_sIa (by decide)]
      exact h3 i hi
theorem end_ok (v : Int32) (G : GM) (hT : RT G) : PQ WTp RT (f_X9_end v) (f_X10_end v) G := by
  obtain ⟨n, hn, h1, h2, h3⟩ := hT
  have hm : f_X10_in v.toInt64 0 (gI (sI G 186 0 0) 186 6).toInt64 (sI G 186 0 0) = some ((if 0 ≤ v.toInt ∧ v.toInt ≤ n then 1 else 0), sI G 186 0 0) := by
    rw [gI_sIk (by decide), h2]
    exact in_iff (l := 0) (h := n) v (by decide) (by rw [Int32.toInt_toInt64, nI_toInt (by omega)]) _
  have keep : RT (sI G 186 0 0) := ⟨n, hn, by rw [gI_sIa (by decide)]; exact h1, by rw [gI_sIk (by decide)]; exact h2, fun i hi => by rw [gI_sIa (by decide), gI_sIa (by decide)]; exact h3 i hi⟩
  by_cases hv : v < 0
  · refine ⟨-1, G, sI G 186 0 0, ?_, ?_, keep, fr_sI rfl⟩
    · unfold f_X9_end
      rw [if_pos hv]
    · unfold f_X10_end
      rw [lt_r, hm, if_neg (fun h => absurd h.1 (by have := neg_i hv; omega)), ob_s, if_pos rfl]
  obtain ⟨j, hj, rfl⟩ := nI_of hv
  rw [nI_toInt hj] at hm
  by_cases hc : j ≤ n
  · refine ⟨nI j, sI G 53 1 (nI j), sI (sI (sI G 53 1 (nI j)) 186 0 0) 186 6 (nI j), ?_, ?_, ⟨j, by omega, ?_, ?_, ?_⟩, fr_tI (fr_tI (fr_sI rfl) rfl) rfl⟩
    · unfold f_X9_end
      rw [if_neg hv, h1, if_pos (nI_le hc (by omega)), lt_r]
    · unfold f_X10_end
      have hm' : f_X10_in (nI j).toInt64 0 (gI (sI (sI G 53 1 (nI j)) 186 0 0) 186 6).toInt64 (sI (sI G 53 1 (nI j)) 186 0 0) = some (1, sI (sI G 53 1 (nI j)) 186 0 0) := by
        rw [gI_sIk (by decide), gI_sIa (by decide), h2]
        exact in_n (l := 0) (h := n) hj (by decide) (by rw [Int32.toInt_toInt64, nI_toInt (by omega)]) (by omega) hc _
      rw [lt_r, hm', ob_s, if_neg (by decide), lt_r]
    · rw [gI_sIa (by decide), gI_sIa (by decide)]; exact gI_sIs _ _ _ _
    · exact gI_sIs _ _ _ _
    · intro i hi
      rw [gI_sIa (by decide), gI_sIa (by decide), gI_sIa (by decide), gI_sIa (by decide), gI_sIa (by decide), gI_sIa (by decide)]
      exact h3 i (by omega)
  · refine ⟨-1, G, sI G 186 0 0, ?_, ?_, keep, fr_sI rfl⟩
    · unfold f_X9_end
      rw [if_neg hv, h1, if_neg]
      rw [nI_leI hj (by omega)]
      exact hc
    · unfold f_X10_end
      rw [lt_r, hm, if_neg (by omega), ob_s, if_pos rfl]
def RF (G : GM) : Prop := gI G 53 9 = gI G 186 14 ∧ gI G 53 10 = gI G 186 15
theorem fault_ok (v : Int32) (G : GM) (hF : RF G) : PQ WT RF (f_X9_fault v) (f_X10_fault v) G := by
  have keep : RF (sI G 186 0 0) := by
    unfold RF
    rw [gI_sIa (by decide), gI_sIk (by decide), gI_sIa (by decide), gI_sIk (by decide)]
    exact hF
  unfold PQ f_X9_fault f_X10_fault
  by_cases h0 : v = 0
  · refine ⟨gI G 53 9, G, sI G 186 0 0, by rw [if_pos h0], ?_, keep, fr_sI rfl⟩
    rw [lt_r, if_pos h0, gI_sIk (by decide), hF.1]
  · by_cases h1 : v = 1
    · refine ⟨gI G 53 10, G, sI G 186 0 0, by rw [if_neg h0, if_pos h1], ?_, keep, fr_sI rfl⟩
      rw [lt_r, if_neg h0, if_pos h1, gI_sIk (by decide), hF.2]
    · refine ⟨-1, G, sI G 186 0 0, by rw [if_neg h0, if_neg h1], ?_, keep, fr_sI rfl⟩
      rw [lt_r, if_neg h0, if_neg h1]
