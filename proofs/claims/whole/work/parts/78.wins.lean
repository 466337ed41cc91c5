/-! questions: winner, prize, jackpot, wins -/
theorem pD0 {α : Type} {x M : Int32} {n : Nat} {a b : α} (hM : M = nI n) (hn : n + 1 < 2 ^ 31) (hx : ¬ ∃ j, j < n + 1 ∧ x = nI j) : (if x < 0 then a else if x ≤ M then b else a) = a := by
  by_cases h0 : x < 0
  · rw [if_pos h0]
  · obtain ⟨j, hj, rfl⟩ := nI_of h0
    rw [if_neg h0, if_neg]
    rw [hM, nI_leI hj (by omega)]
    exact fun h => hx ⟨j, by omega, rfl⟩
theorem pD1 {α : Type} {j n : Nat} {M : Int32} {a b : α} (hM : M = nI n) (hj : j < n + 1) (hn : n + 1 < 2 ^ 31) : (if nI j < 0 then a else if nI j ≤ M then b else a) = b := by
  rw [if_neg (nI_pos (by omega)), if_pos (by rw [hM]; exact nI_le (by omega) (by omega))]
def bh_ea (p n : Nat) : Nat := if n = 0 then 0 else p / n
theorem bh_ea_le (p n : Nat) : bh_ea p n ≤ p := by
  unfold bh_ea
  split
  · omega
  · exact Nat.div_le_self _ _
theorem c_partOf {p n : Nat} (hp : p < 2 ^ 31) (hn : n < 2 ^ 31) (G : GM) : f_X9_partOf (nI p) (nI n) G = some (nI (bh_ea p n), G) := by
  unfold f_X9_partOf bh_ea
  by_cases h : n = 0
  · subst h
    rw [if_neg (by decide), if_pos rfl]; rfl
  · rw [if_pos (show (1 : Int32) ≤ nI n from nI_le (a := 1) (by omega) hn), gd_d (nI_ne0 (by omega) hn), if_neg h, pk_div hp (by omega) hn]
theorem m_eachOf {G : GM} {p n : Nat} (e41 : gI G 186 41 = nI n) (hp : p < 2 ^ 31) (hn : n < 2 ^ 31) : f_X10_eachOf (nI p) G = some (nI (bh_ea p n), G) := by
  unfold f_X10_eachOf bh_ea
  rw [e41]
  by_cases h : n = 0
  · subst h
    rw [if_pos (show nI 0 = (0 : Int32) from rfl), if_pos rfl]; rfl
  · rw [if_neg (nI_ne0 (by omega) hn), gd_d (nI_ne0 (by omega) hn), if_neg h, pk_div hp (by omega) hn]
section RW
variable {ln C R E K m pu bb : Nat} {z sv cl pr cl' : Nat → Nat}
def bh_aW (C R E K : Nat) (z sv cl : Nat → Nat) (kind : Nat) (turn : Int32) (j : Nat) : Nat := bh_sm (fun j => if turn ≠ -1 ∧ bh_tQ C R E K z sv cl kind (j / C) (j % C) = turn then 1 else 0) j
theorem bh_aW_s (kind : Nat) (turn : Int32) {i c : Nat} (hc : c < C) : bh_aW C R E K z sv cl kind turn (i * C + (c + 1)) = bh_aW C R E K z sv cl kind turn (i * C + c) + if turn ≠ -1 ∧ bh_tQ C R E K z sv cl kind i c = turn then 1 else 0 := by
  have e : bh_aW C R E K z sv cl kind turn (i * C + (c + 1)) = bh_aW C R E K z sv cl kind turn (i * C + c) + if turn ≠ -1 ∧ bh_tQ C R E K z sv cl kind ((i * C + c) / C) ((i * C + c) % C) = turn then 1 else 0 := rfl
  rw [e, (bh_dm hc).1, (bh_dm hc).2]
theorem c_winnerL {G : GM} {h kind q t : Nat} {turn : Int32} (hn : nw G = h) (hh : h = 1 ∨ h = 23) (hN : bh_HN ln C R E K m pu bb z sv cl pr) (hC : bh_HC G h ln C R E K m pu bb z sv cl pr) (hk : kind < 3) (hq : q < 2 ^ 31) (ht : t ≤ m * C) (h1 : ∀ i, i < t → ¬ (turn ≠ -1 ∧ bh_tQ C R E K z sv cl kind (i / C) (i % C) = turn ∧ bh_aW C R E K z sv cl kind turn i = q)) (h2 : t < m * C → turn ≠ -1 ∧ bh_tQ C R E K z sv cl kind (t / C) (t % C) = turn ∧ bh_aW C R E K z sv cl kind turn t = q) : ∃ G', wl2 FU (lp_X9_winner_54 (nI kind) (nI q) turn) (0 : Int32) (0 : Int32) G = some (if t < m * C then nI (10 * (t / C) + t % C) else -1, G') ∧ bh_F bh_W7 G G' := by
  have hV := hN.2.1
  have hbC := hV.1
  have hbm := hN.2.2.1
  have hmC : m * C ≤ 24 := Nat.mul_le_mul hbm hbC.2
  refine wl2_up (P := fun o => ∃ G', o = some (if t < m * C then nI (10 * (t / C) + t % C) else -1, G') ∧ bh_F bh_W7 G G') (I := fun i y G1 => i * C ≤ t ∧ y = nI (bh_aW C R E K z sv cl kind turn (i * C)) ∧ bh_aW C R E K z sv cl kind turn (i * C) ≤ q ∧ bh_F bh_W7 G G1) (N := m) (by omega) ?_ (n := FU) (i := 0) (Nat.zero_le _) ⟨by omega, by rw [Nat.zero_mul]; rfl, by rw [Nat.zero_mul]; exact Nat.zero_le _, bh_Fr _ _⟩ (by unfold FU; omega)
  rintro kc i _ G1 hi' ⟨it, rfl, iq, F1⟩ hkc
  have c1 := bh_CT_F hh hbm (by omega) (bh_CT_of hn hN hC) F1
  unfold lp_X9_winner_54
  rw [c1.1, c1.2.1.1.2.2.2]
  by_cases hi : i < m
  · rw [if_neg (nI_ge hi (by omega))]
    refine wl2_up (P := fun o => ∃ G', o = some (if t < m * C then nI (10 * (t / C) + t % C) else -1, G') ∧ bh_F bh_W7 G G') (I := fun c y G2 => i * C + c ≤ t ∧ y = nI (bh_aW C R E K z sv cl kind turn (i * C + c)) ∧ bh_aW C R E K z sv cl kind turn (i * C + c) ≤ q ∧ bh_F bh_W7 G G2) (N := C) (by omega) ?_ (n := FU) (i := 0) (Nat.zero_le _) ⟨it, rfl, iq, F1⟩ (by unfold FU; omega)
    rintro kc2 c _ G2 hc' ⟨ct, rfl, cq, F2⟩ hk2
    have c2 := bh_CT_F hh hbm (by omega) (bh_CT_of hn hN hC) F2
    unfold lp_X9_winner_69
    rw [c2.1, c2.2.1.2.1.1.1]
    by_cases hc : c < C
    · obtain ⟨G3, e3, F3⟩ := c_hF (kind := kind) (turn := turn) hh hN c2 hi hc hk
      have hlt := bh_ijlt hi hc
      have es := bh_aW_s (R := R) (E := E) (K := K) (z := z) (sv := sv) (cl := cl) kind turn (i := i) hc
      have hat := bh_dm (i := i) hc
      have FF := bh_Ft F2 F3
      rw [if_neg (nI_ge hc (by omega)), e3, ob_s]
      by_cases hw : turn ≠ -1 ∧ bh_tQ C R E K z sv cl kind i c = turn
      · rw [if_pos hw, if_neg (by decide)]
        rw [if_pos hw] at es
        by_cases he : bh_aW C R E K z sv cl kind turn (i * C + c) = q
        · have htt : i * C + c = t := Nat.le_antisymm ct (Nat.le_of_not_lt fun h => h1 _ h ⟨hw.1, by rw [hat.1, hat.2]; exact hw.2, he⟩)
          rw [if_pos (by rw [he]), show (10 : Int32) = nI 10 from rfl, pk_mul, nI_add, ← htt, if_pos hlt, hat.1, hat.2]
          exact ⟨G3, rfl, FF⟩
        · rw [if_neg (by rw [nI_eq (by omega) hq]; exact he), nI_1, nI_1]
          have hne : i * C + c ≠ t := fun h => he (by rw [h]; exact (h2 (by omega)).2.2)
          exact hk2 hc _ _ ⟨by omega, by rw [es], by omega, FF⟩
      · rw [if_neg hw, if_pos rfl, nI_1]
        have es : bh_aW C R E K z sv cl kind turn (i * C + (c + 1)) = bh_aW C R E K z sv cl kind turn (i * C + c) := by
          have := es
          rw [if_neg hw] at this
          omega
        have hne : i * C + c ≠ t := fun h => hw (by
          have := h2 (by omega)
          rw [← h, hat.1, hat.2] at this
          exact ⟨this.1, this.2.1⟩)
        exact hk2 hc _ _ ⟨by omega, by rw [es], by rw [es]; exact cq, FF⟩
    · have hc2 : c = C := by omega
      subst hc2
      rw [if_pos (nI_le (by omega) (by omega)), nI_1]
      rw [← Nat.succ_mul] at ct cq ⊢
      exact hkc hi _ _ ⟨ct, rfl, cq, F2⟩
  · have hi2 : i = m := by omega
    subst hi2
    rw [if_pos (nI_le (by omega) (by omega)), if_neg (by omega)]
    exact ⟨G1, rfl, F1⟩
theorem m_winnerL {G : GM} {kind q t : Nat} {turn : Int32} (x1 : Int32) (hN : bh_HN ln C R E K m pu bb z sv cl pr) (hM : bh_HM G 0 ln C R E K m pu bb z sv cl pr) (e40 : gI G 186 40 = turn) (h9 : ∀ i c, i < m → c < C → gI G 209 (3 * i + c) = bh_tQ C R E K z sv cl kind i c) (hq : q < 2 ^ 31) (ht : t ≤ m * C) (h1 : ∀ i, i < t → ¬ (turn ≠ -1 ∧ bh_tQ C R E K z sv cl kind (i / C) (i % C) = turn ∧ bh_aW C R E K z sv cl kind turn i = q)) (h2 : t < m * C → turn ≠ -1 ∧ bh_tQ C R E K z sv cl kind (t / C) (t % C) = turn ∧ bh_aW C R E K z sv cl kind turn t = q) : wl2 FU (lp_X10_winner_48 x1 (nI q)) (nI q) (0 : Int32) G = some (if t < m * C then nI (10 * (t / C) + t % C) else -1, G) := by
  have hV := hN.2.1
  have hbC := hV.1
  have hbm := hN.2.2.1
  have hmC : m * C ≤ 24 := Nat.mul_le_mul hbm hbC.2
  have e0 : gI G 193 0 = nI C := hM.2.1.1
  have e4 : gI G 193 4 = nI m := hM.1.2.1
  refine wl2_up (P := fun o => o = some (if t < m * C then nI (10 * (t / C) + t % C) else -1, G)) (I := fun i y G1 => G1 = G ∧ i * C ≤ t ∧ y = nI (q - bh_aW C R E K z sv cl kind turn (i * C)) ∧ bh_aW C R E K z sv cl kind turn (i * C) ≤ q) (N := m) (by omega) ?_ (n := FU) (i := 0) (Nat.zero_le _) ⟨rfl, by omega, by rw [Nat.zero_mul]; rfl, by rw [Nat.zero_mul]; exact Nat.zero_le _⟩ (by unfold FU; omega)
  rintro kc i _ G1 hi' ⟨rfl, it, rfl, iq⟩ hkc
  unfold lp_X10_winner_48
  rw [show inb (4 : Int32) 48 = true from by decide, gd_t, show (4 : Int32).toNatClampNeg = 4 from by decide, e4]
  by_cases hi : i < m
  · rw [if_neg (nI_ge hi (by omega))]
    refine wl2_up (P := fun o => o = some (if t < m * C then nI (10 * (t / C) + t % C) else -1, G1)) (I := fun c y G2 => G2 = G1 ∧ i * C + c ≤ t ∧ y = nI (q - bh_aW C R E K z sv cl kind turn (i * C + c)) ∧ bh_aW C R E K z sv cl kind turn (i * C + c) ≤ q) (N := C) (by omega) ?_ (n := FU) (i := 0) (Nat.zero_le _) ⟨rfl, it, rfl, iq⟩ (by unfold FU; omega)
    rintro kc2 c _ G2 hc' ⟨rfl, ct, rfl, cq⟩ hk2
    unfold lp_X10_winner_62
    rw [show inb (0 : Int32) 48 = true from by decide, gd_t, show (0 : Int32).toNatClampNeg = 0 from by decide, e0]
    by_cases hc : c < C
    · have hlt := bh_ijlt hi hc
      have es := bh_aW_s (R := R) (E := E) (K := K) (z := z) (sv := sv) (cl := cl) kind turn (i := i) hc
      have hat := bh_dm (i := i) hc
      rw [if_neg (nI_ge hc (by omega)), m_iW e40 (h9 i c hi hc) (by omega) (by omega), ob_s]
      by_cases hw : turn ≠ -1 ∧ bh_tQ C R E K z sv cl kind i c = turn
      · rw [if_pos hw, if_neg (by decide)]
        rw [if_pos hw] at es
        by_cases he : bh_aW C R E K z sv cl kind turn (i * C + c) = q
        · have htt : i * C + c = t := Nat.le_antisymm ct (Nat.le_of_not_lt fun h => h1 _ h ⟨hw.1, by rw [hat.1, hat.2]; exact hw.2, he⟩)
          rw [he, Nat.sub_self, if_pos (show nI 0 = (0 : Int32) from rfl), show (10 : Int32) = nI 10 from rfl, pk_mul, nI_add, ← htt, if_pos hlt, hat.1, hat.2]
        · obtain ⟨k, hk⟩ : ∃ k, q - bh_aW C R E K z sv cl kind turn (i * C + c) = k + 1 := ⟨q - bh_aW C R E K z sv cl kind turn (i * C + c) - 1, by omega⟩
          rw [hk, if_neg (nI_ne0 (by omega) (by omega)), pk_m1, nI_1]
          have hne : i * C + c ≠ t := fun h => he (by rw [h]; exact (h2 (by omega)).2.2)
          exact hk2 hc _ _ ⟨rfl, by omega, by rw [es]; exact congrArg nI (by omega), by omega⟩
      · rw [if_neg hw, if_pos rfl, nI_1]
        have es : bh_aW C R E K z sv cl kind turn (i * C + (c + 1)) = bh_aW C R E K z sv cl kind turn (i * C + c) := by
          have := es
          rw [if_neg hw] at this
          omega
        have hne : i * C + c ≠ t := fun h => hw (by
          have := h2 (by omega)
          rw [← h, hat.1, hat.2] at this
          exact ⟨this.1, this.2.1⟩)
        exact hk2 hc _ _ ⟨rfl, by omega, by rw [es], by rw [es]; exact cq⟩
    · have hc2 : c = C := by omega
      subst hc2
      rw [if_pos (nI_le (by omega) (by omega)), nI_1]
      rw [← Nat.succ_mul] at ct cq ⊢
      exact hkc hi _ _ ⟨rfl, ct, rfl, cq⟩
  · have hi2 : i = m := by omega
    subst hi2
    rw [if_pos (nI_le (by omega) (by omega)), if_neg (by omega)]
/-- a winner's part -/
def bh_JP (C R E K m pu bb : Nat) (z sv cl : Nat → Nat) (turn : Int32) : Nat := if turn = -1 then 0 else if turn ≤ nI bb then bh_ea pu (bh_WC C R E K m z sv cl 2 turn) else 0
theorem bh_JP_le {turn : Int32} : bh_JP C R E K m pu bb z sv cl turn ≤ pu := by
  unfold bh_JP
  split
  · omega
  · split
    · exact bh_ea_le _ _
    · omega
theorem c_jP {G : GM} {h : Nat} {turn : Int32} (hn : nw G = h) (hh : h = 1 ∨ h = 23) (hN : bh_HN ln C R E K m pu bb z sv cl pr) (hC : bh_HC G h ln C R E K m pu bb z sv cl pr) : ∃ G', f_X9_jackpotPart turn G = some (nI (bh_JP C R E K m pu bb z sv cl turn), G') ∧ bh_F bh_W7 G G' := by
  have hw := bh_WC_le (C := C) (R := R) (E := E) (K := K) (m := m) (z := z) (sv := sv) (cl := cl) (kind := 2) (turn := turn) hN.2.2.1 hN.2.1.1.2
  have hpu := hN.2.2.2.1
  unfold f_X9_jackpotPart bh_JP
  by_cases ht : turn = -1
  · exact ⟨G, by rw [if_pos ht, if_pos ht]; rfl, bh_Fr _ _⟩
  · rw [if_neg ht, hn, hC.1.2.2.1, if_neg ht]
    by_cases hle : turn ≤ nI bb
    · obtain ⟨G1, e1, F1⟩ := c_wA0 (kind := 2) (turn := turn) hn hh hN hC (by omega)
      rw [if_pos hle, show (2 : Int32) = nI 2 from rfl, e1, ob_s, hC.1.2.1, c_partOf (by omega) (by omega), ob_s, if_pos hle]
      exact ⟨G1, rfl, F1⟩
    · rw [if_neg hle, if_neg hle]
      exact ⟨G, rfl, bh_Fr _ _⟩
theorem m_jE {G : GM} {turn : Int32} (hN : bh_HN ln C R E K m pu bb z sv cl pr) (hM : bh_HM G 0 ln C R E K m pu bb z sv cl pr) (ht : turn = bh_FT C R E K m z sv cl 2) (e40 : gI G 186 40 = turn) (e41 : gI G 186 41 = nI (bh_WC C R E K m z sv cl 2 turn)) : f_X10_jackpotEach G = some (nI (bh_JP C R E K m pu bb z sv cl turn), G) := by
  have h45 := bh_N45 hN.2.1
  have hw := bh_WC_le (C := C) (R := R) (E := E) (K := K) (m := m) (z := z) (sv := sv) (cl := cl) (kind := 2) (turn := turn) hN.2.2.1 hN.2.1.1.2
  have hpu := hN.2.2.2.1
  have hbb := hN.2.2.2.2.1
  have e6 : gI G 193 6 = nI bb := hM.1.2.2.2
  have e5 : gI G 193 5 = nI pu := hM.1.2.2.1
  unfold f_X10_jackpotEach bh_JP
  rw [show inb (6 : Int32) 48 = true from by decide, gd_t, show (6 : Int32).toNatClampNeg = 6 from by decide, e6, e40]
  rcases bh_FT_is (m := m) (sv := sv) hN.2.1 hN.2.2.2.2.2.2.2 (kind := 2) (by omega) with ⟨h1, -⟩ | ⟨t, h1, h2, h3, -⟩
  · rw [← ht] at h1
    rw [if_pos h1, if_pos h1]
    split <;> rfl
  · rw [← ht] at h3
    have hn1 : ¬ turn = -1 := by rw [h3]; exact nIm1 (by omega)
    rw [if_neg hn1, if_neg hn1]
    by_cases hb0 : bb = 0
    · rw [hb0, if_pos (show nI 0 ≤ (0 : Int32) from by decide), if_neg (by rw [h3, nI_leI (by omega) (by omega)]; omega)]; rfl
    · rw [if_neg (nI_nle (by omega) (by omega)), gd_t]
      by_cases hle : turn ≤ nI bb
      · rw [if_neg (Int32.not_lt.mpr hle), show inb (5 : Int32) 48 = true from by decide, gd_t, show (5 : Int32).toNatClampNeg = 5 from by decide, e5, m_eachOf e41 (by omega) (by omega), ob_s, if_pos hle]
      · rw [if_pos (Int32.not_le.mp hle), if_neg hle]; rfl
def bh_pN (C R E K m pu bb : Nat) (z sv cl pr : Nat → Nat) (kind : Nat) : Nat := bh_ea (pr kind) (bh_WC C R E K m z sv cl kind (bh_FT C R E K m z sv cl kind)) + if kind = 2 then bh_JP C R E K m pu bb z sv cl (bh_FT C R E K m z sv cl 2) else 0
theorem c_wP {G : GM} {h kind : Nat} (hn : nw G = h) (hh : h = 1 ∨ h = 23) (hN : bh_HN ln C R E K m pu bb z sv cl pr) (hC : bh_HC G h ln C R E K m pu bb z sv cl pr) (hk : kind < 3) : ∃ G', f_X9_winnerPart (nI kind) (bh_FT C R E K m z sv cl kind) G = some (nI (bh_pN C R E K m pu bb z sv cl pr kind), G') ∧ bh_F bh_W7 G G' := by
  have hw := bh_WC_le (C := C) (R := R) (E := E) (K := K) (m := m) (z := z) (sv := sv) (cl := cl) (kind := kind) (turn := bh_FT C R E K m z sv cl kind) hN.2.2.1 hN.2.1.1.2
  have hpr := hN.2.2.2.2.2.1 kind hk
  obtain ⟨G1, e1, F1⟩ := c_wA0 (kind := kind) (turn := bh_FT C R E K m z sv cl kind) hn hh hN hC hk
  unfold f_X9_winnerPart
  rw [inb_n hk (by omega), gd_t, hn, e1, ob_s, nI_clamp (by omega), hC.2.2.1 kind hk, c_partOf (by omega) (by omega), ob_s]
  unfold bh_pN
  by_cases h2 : kind = 2
  · subst h2
    obtain ⟨G2, e2, F2⟩ := c_jP (turn := bh_FT C R E K m z sv cl 2) (F1.2.2.1.trans hn) hh hN (bh_scC hh hN hC (scrW7 F1))
    rw [if_pos (show nI 2 = (2 : Int32) from rfl), e2, ob_s, nI_add, if_pos rfl]
    exact ⟨G2, rfl, bh_Ft F1 F2⟩
  · rw [if_neg (by rw [show (2 : Int32) = nI 2 from rfl, nI_eq (by omega) (by omega)]; exact h2), if_neg h2, Nat.add_zero]
    exact ⟨G1, rfl, F1⟩
theorem m_rcW {G : GM} {kind : Nat} (hN : bh_HN ln C R E K m pu bb z sv cl pr) (hM : bh_HM G 0 ln C R E K m pu bb z sv cl pr) (hk : kind < 3) : ∃ G', f_X10_races (0 : Int32) (nI kind) G = some G' ∧ gI G' 186 40 = bh_FT C R E K m z sv cl kind ∧ gI G' 186 41 = nI (bh_WC C R E K m z sv cl kind (bh_FT C R E K m z sv cl kind)) ∧ (∀ i c, i < m → c < C → gI G' 209 (3 * i + c) = bh_tQ C R E K z sv cl kind i c) ∧ bh_HM G' 0 ln C R E K m pu bb z sv cl pr ∧ gI G' 195 kind = nI (pr kind) ∧ bh_F bh_Wr G G' := by
  obtain ⟨G', e, a1, a2, a3, F⟩ := m_rc0 hN hM hk
  have hM' := bh_scM hN hM (scrWr F)
  refine ⟨G', e, a1, a2, a3, hM', ?_, F⟩
  have := hM'.2.2.1 kind hk
  rwa [Nat.mul_zero, Nat.zero_add] at this
end RW
theorem q_winner (x1 x2 : Int32) : bh_Qy (f_X9_winner x1 x2) (f_X10_winner x1 x2) := by
  intro G hR
  have hh := bh_nwc hR
  have fT := bh_thr G
  rcases hR.2.2.2.2.1 with h0 | ⟨ln, C, R, E, K, m, pu, bb, z, sv, cl, pr, hN, hC, hM⟩
  · have h02 := bh_sc0 hh h0 fT
    exact bh_qy hR (v := (-2 : Int32)) (by unfold f_X9_winner; rw [c_isKindN rfl h0 _, ob_s, bh_i0]) (by unfold f_X10_winner; rw [lt_r, m_noHall h02, ob_s, bh_i0]) (bh_Fr _ _) (bh_thr G)
  have hM2 := bh_scM hN hM fT
  have hV := hN.2.1
  have h45 := bh_N45 hV
  have hbC := hV.1
  have hbR := hV.2.1
  have hbE := hV.2.2.1
  have hbK := hV.2.2.2.1
  have hbm := hN.2.2.1
  have hp := hN.2.2.2.2.2.2.2
  rcases bh_cls (x := x1) (p := fun j => j < 3) with ⟨k, hk, rfl⟩ | nk
  rotate_left
  · exact bh_qy hR (v := (-2 : Int32)) (by unfold f_X9_winner; rw [c_isKind0 rfl hN hC nk, ob_s, bh_i0]) (by unfold f_X10_winner; rw [lt_r, m_isHall hN hM2, ob_s, bh_i1, m_isKind0 nk _, ob_s, bh_i0]) (bh_Fr _ _) (bh_thr G)
  by_cases hx : (-1 : Int32) ≤ x2
  rotate_left
  · exact bh_qy hR (v := (-2 : Int32)) (by unfold f_X9_winner; rw [c_isKind1 rfl hN hC hk, ob_s, bh_i1, if_neg hx]) (by unfold f_X10_winner; rw [lt_r, m_isHall hN hM2, ob_s, bh_i1, m_isKind1 hk _, ob_s, bh_i1, if_neg hx]) (bh_Fr _ _) (bh_thr G)
  obtain ⟨G1, e1, F1⟩ := c_fT0 rfl hh hN hC hk
  have hC1 := bh_scC hh hN hC (scrW7 F1)
  have n1 : nw G1 = nw G := F1.2.2.1
  by_cases hx1 : x2 = (-1 : Int32)
  · obtain ⟨G3, e3, F3⟩ := c_wA0 (kind := k) (turn := bh_FT C R E K m z sv cl k) n1 hh hN hC1 hk
    have FF := bh_Ft (scrW7 F1) (scrW7 F3)
    have hM2 := bh_scM hN hM (bh_Ft FF (bh_thr _))
    obtain ⟨G2, e2, a1, a2, a3, F2⟩ := m_rc0 hN hM2 hk
    exact bh_qy hR (v := nI (bh_WC C R E K m z sv cl k (bh_FT C R E K m z sv cl k))) (G1 := G3) (G2 := G2) (by unfold f_X9_winner; rw [c_isKind1 rfl hN hC hk, ob_s, bh_i1, if_pos hx, e1, ob_s, if_pos hx1, n1, e3, ob_s]) (by unfold f_X10_winner; rw [lt_r, m_isHall hN hM2, ob_s, bh_i1, m_isKind1 hk _, ob_s, bh_i1, if_pos hx, e2, ov_s, if_pos hx1, a2]) FF (bh_Ft (bh_thr _) (scrWr F2))
  · have h0 : ¬ x2 < 0 := by
      intro h0
      rw [Int32.lt_iff_toInt_lt, show (0 : Int32).toInt = 0 from by decide] at h0
      rw [Int32.le_iff_toInt_le, show (-1 : Int32).toInt = -1 from by decide] at hx
      exact hx1 (Int32.toInt_inj.mp (by rw [show (-1 : Int32).toInt = -1 from by decide]; omega))
    obtain ⟨q, hq, rfl⟩ := nI_of h0
    obtain ⟨t, t1, t2, t3⟩ := bh_fd (fun j => ¬ (bh_FT C R E K m z sv cl k ≠ -1 ∧ bh_tQ C R E K z sv cl k (j / C) (j % C) = bh_FT C R E K m z sv cl k ∧ bh_aW C R E K z sv cl k (bh_FT C R E K m z sv cl k) j = q)) (m * C)
    have t3' := fun h => Classical.not_not.mp (t3 h)
    obtain ⟨G3, e3, F3⟩ := c_winnerL n1 hh hN hC1 hk hq t1 t2 t3'
    have FF := bh_Ft (scrW7 F1) (scrW7 F3)
    have hM2 := bh_scM hN hM (bh_Ft FF (bh_thr _))
    obtain ⟨G2, e2, a1, a2, a3, F2⟩ := m_rc0 hN hM2 hk
    have hM3 := bh_scM hN hM2 (scrWr F2)
    exact bh_qy hR (v := if t < m * C then nI (10 * (t / C) + t % C) else -1) (G1 := G3) (G2 := G2) (by unfold f_X9_winner; rw [c_isKind1 rfl hN hC hk, ob_s, bh_i1, if_pos hx, e1, ob_s, if_neg hx1, e3]) (by unfold f_X10_winner; rw [lt_r, m_isHall hN hM2, ob_s, bh_i1, m_isKind1 hk _, ob_s, bh_i1, if_pos hx, e2, ov_s, if_neg hx1, m_winnerL (nI k) hN hM3 a1 a3 hq t1 t2 t3']) FF (bh_Ft (bh_thr _) (scrWr F2))
theorem q_prize (x1 x2 : Int32) : bh_Qy (f_X9_prize x1 x2) (f_X10_prize x1 x2) := by
  intro G hR
  have hh := bh_nwc hR
  have fT := bh_thr G
  rcases hR.2.2.2.2.1 with h0 | ⟨ln, C, R, E, K, m, pu, bb, z, sv, cl, pr, hN, hC, hM⟩
  · have h02 := bh_sc0 hh h0 fT
    exact bh_qy hR (v := (-2 : Int32)) (by unfold f_X9_prize; rw [c_isKindN rfl h0 _, ob_s, bh_i0]) (by unfold f_X10_prize; rw [lt_r, m_noHall h02, ob_s, bh_i0]) (bh_Fr _ _) (bh_thr G)
  have hM2 := bh_scM hN hM fT
  have hV := hN.2.1
  have h45 := bh_N45 hV
  have hbC := hV.1
  have hbR := hV.2.1
  have hbE := hV.2.2.1
  have hbK := hV.2.2.2.1
  have hbm := hN.2.2.1
  have hp := hN.2.2.2.2.2.2.2
  rcases bh_cls (x := x1) (p := fun j => j < 3) with ⟨k, hk, rfl⟩ | nk
  rotate_left
  · exact bh_qy hR (v := (-2 : Int32)) (by unfold f_X9_prize; rw [c_isKind0 rfl hN hC nk, ob_s, bh_i0]) (by unfold f_X10_prize; rw [lt_r, m_isHall hN hM2, ob_s, bh_i1, m_isKind0 nk _, ob_s, bh_i0]) (bh_Fr _ _) (bh_thr G)
  rcases bh_cls (x := x2) (p := fun j => j < 2) with ⟨w, hw, rfl⟩ | nw2
  rotate_left
  · exact bh_qy hR (v := (-2 : Int32)) (by unfold f_X9_prize; rw [c_isKind1 rfl hN hC hk, ob_s, bh_i1, pD0 (M := 1) (n := 1) rfl (by omega) nw2]) (by unfold f_X10_prize; rw [lt_r, m_isHall hN hM2, ob_s, bh_i1, m_isKind1 hk _, ob_s, bh_i1, m_in0 (l := 0) (b := 1) (by decide) (by decide) (fun j _ _ h he => nw2 ⟨j, by omega, he⟩), ob_s, bh_i0]) (bh_Fr _ _) (bh_thr G)
  obtain ⟨G1, e1, F1⟩ := c_fT0 rfl hh hN hC hk
  have hC1 := bh_scC hh hN hC (scrW7 F1)
  have n1 : nw G1 = nw G := F1.2.2.1
  obtain ⟨G3, e3, F3⟩ := c_wA0 (kind := k) (turn := bh_FT C R E K m z sv cl k) n1 hh hN hC1 hk
  have FF := bh_Ft (scrW7 F1) (scrW7 F3)
  have hC3 := bh_scC hh hN hC FF
  have n3 : nw G3 = nw G := FF.2.2.1
  have hM2 := bh_scM hN hM (bh_Ft FF (bh_thr _))
  obtain ⟨G2, e2, a1, a2, a3, hM3, a4, F2⟩ := m_rcW hN hM2 hk
  have hw24 := bh_WC_le (C := C) (R := R) (E := E) (K := K) (m := m) (z := z) (sv := sv) (cl := cl) (kind := k) (turn := bh_FT C R E K m z sv cl k) hbm hbC.2
  have hpr := hN.2.2.2.2.2.1 k hk
  have cw : ∀ v : Int32, (if nI w = (0 : Int32) then some (nI (bh_ea (pr k) (bh_WC C R E K m z sv cl k (bh_FT C R E K m z sv cl k))), G3) else some (nI (pr k) - nI (bh_ea (pr k) (bh_WC C R E K m z sv cl k (bh_FT C R E K m z sv cl k))) * nI (bh_WC C R E K m z sv cl k (bh_FT C R E K m z sv cl k)), G3)) = some (v, G3) → f_X9_prize (nI k) (nI w) G = some (v, G3) := fun v hv => by
    unfold f_X9_prize
    rw [c_isKind1 rfl hN hC hk, ob_s, bh_i1, pD1 (M := 1) (n := 1) rfl hw (by omega), e1, ob_s, n1, e3, ob_s, inb_n hk (by omega), gd_t, nI_clamp (by omega), n3, hC3.2.2.1 k hk, c_partOf (by omega) (by omega), ob_s, gd_t, n3, hC3.2.2.1 k hk]
    exact hv
  have mw : ∀ v : Int32, (if nI w = (0 : Int32) then some (nI (bh_ea (pr k) (bh_WC C R E K m z sv cl k (bh_FT C R E K m z sv cl k))), G2) else some (nI (pr k) - nI (bh_ea (pr k) (bh_WC C R E K m z sv cl k (bh_FT C R E K m z sv cl k))) * nI (bh_WC C R E K m z sv cl k (bh_FT C R E K m z sv cl k)), G2)) = some (v, G2) → f_X10_prize (nI k) (nI w) G3 = some (v, G2) := fun v hv => by
    unfold f_X10_prize
    rw [lt_r, m_isHall hN hM2, ob_s, bh_i1, m_isKind1 hk _, ob_s, bh_i1, m_in1 (l := 0) (b := 1) (by omega) (by decide) (by decide) (by omega) (by omega), ob_s, bh_i1, e2, ov_s, inb_n (by omega) (by omega), gd_t, nI_clamp (by omega), a4, m_eachOf a2 (by omega) (by omega), ob_s, gd_t, a4, a2]
    exact hv
  by_cases hw0 : w = 0
  · subst hw0
    exact bh_qy hR (v := _) (G1 := G3) (G2 := G2) (cw _ (if_pos rfl)) (mw _ (if_pos rfl)) FF (bh_Ft (bh_thr _) (scrWr F2))
  · exact bh_qy hR (v := _) (G1 := G3) (G2 := G2) (cw _ (if_neg (nI_ne0 (by omega) (by omega)))) (mw _ (if_neg (nI_ne0 (by omega) (by omega)))) FF (bh_Ft (bh_thr _) (scrWr F2))
theorem q_jackpot (x1 : Int32) : bh_Qy (f_X9_jackpot x1) (f_X10_jackpot x1) := by
  intro G hR
  have hh := bh_nwc hR
  have fT := bh_thr G
  rcases hR.2.2.2.2.1 with h0 | ⟨ln, C, R, E, K, m, pu, bb, z, sv, cl, pr, hN, hC, hM⟩
  · have h02 := bh_sc0 hh h0 fT
    exact bh_qy hR (v := (-2 : Int32)) (by unfold f_X9_jackpot; rw [c_noHall rfl h0, ob_s, bh_i0]) (by unfold f_X10_jackpot; rw [lt_r, m_noHall h02, ob_s, bh_i0]) (bh_Fr _ _) (bh_thr G)
  have hM2 := bh_scM hN hM fT
  have hV := hN.2.1
  have h45 := bh_N45 hV
  have hbC := hV.1
  have hbR := hV.2.1
  have hbE := hV.2.2.1
  have hbK := hV.2.2.2.1
  have hbm := hN.2.2.1
  have hp := hN.2.2.2.2.2.2.2
  rcases bh_cls (x := x1) (p := fun j => j < 2) with ⟨w, hw, rfl⟩ | nw2
  rotate_left
  · exact bh_qy hR (v := (-2 : Int32)) (by unfold f_X9_jackpot; rw [c_isHall rfl hN hC, ob_s, bh_i1, pD0 (M := 1) (n := 1) rfl (by omega) nw2]) (by unfold f_X10_jackpot; rw [lt_r, m_isHall hN hM2, ob_s, bh_i1, m_in0 (l := 0) (b := 1) (by decide) (by decide) (fun j _ _ h he => nw2 ⟨j, by omega, he⟩), ob_s, bh_i0]) (bh_Fr _ _) (bh_thr G)
  obtain ⟨G1, e1, F1⟩ := c_fT0 (kind := 2) rfl hh hN hC (by omega)
  have hC1 := bh_scC hh hN hC (scrW7 F1)
  have n1 : nw G1 = nw G := F1.2.2.1
  have hbb := hN.2.2.2.2.1
  by_cases hw0 : w = 0
  · subst hw0
    obtain ⟨G4, e4, F4⟩ := c_jP (turn := bh_FT C R E K m z sv cl 2) n1 hh hN hC1
    have hC4 := bh_scC hh hN hC1 (scrW7 F4)
    have n4 : nw G4 = nw G := F4.2.2.1.trans n1
    obtain ⟨G3, e3, F3⟩ := c_wA0 (kind := 2) (turn := bh_FT C R E K m z sv cl 2) n4 hh hN hC4 (by omega)
    have FF := bh_Ft (bh_Ft (scrW7 F1) (scrW7 F4)) (scrW7 F3)
    have hM2 := bh_scM hN hM (bh_Ft FF (bh_thr _))
    obtain ⟨G2, e2, a1, a2, a3, hM3, a4, F2⟩ := m_rcW (kind := 2) hN hM2 (by omega)
    exact bh_qy hR (v := nI (bh_JP C R E K m pu bb z sv cl (bh_FT C R E K m z sv cl 2)) * nI (bh_WC C R E K m z sv cl 2 (bh_FT C R E K m z sv cl 2))) (G1 := G3) (G2 := G2) (by unfold f_X9_jackpot; rw [c_isHall rfl hN hC, ob_s, bh_i1, pD1 (M := 1) (n := 1) rfl hw (by omega), show (2 : Int32) = nI 2 from rfl, e1, ob_s, if_pos (show nI 0 = (0 : Int32) from rfl), e4, ob_s, n4, e3, ob_s]) (by unfold f_X10_jackpot; rw [lt_r, m_isHall hN hM2, ob_s, bh_i1, m_in1 (l := 0) (b := 1) (by omega) (by decide) (by decide) (by omega) (by omega), ob_s, bh_i1, show (2 : Int32) = nI 2 from rfl, e2, ov_s, if_pos (show nI 0 = (0 : Int32) from rfl), m_jE hN hM3 rfl a1 a2, ob_s, a2, Int32.mul_comm]) FF (bh_Ft (bh_thr _) (scrWr F2))
  · have hM2 := bh_scM hN hM (bh_Ft (scrW7 F1) (bh_thr _))
    obtain ⟨G2, e2, a1, a2, a3, hM3, a4, F2⟩ := m_rcW (kind := 2) hN hM2 (by omega)
    have e6 : gI G2 193 6 = nI bb := hM3.1.2.2.2
    have cw : ∀ v : Int32, (if nI bb = (0 : Int32) then some ((-1 : Int32), G1) else if bh_FT C R E K m z sv cl 2 = (-1 : Int32) then some ((-1 : Int32), G1) else some (jmax (0 : Int32) (bh_FT C R E K m z sv cl 2 - nI bb), G1)) = some (v, G1) → f_X9_jackpot (nI w) G = some (v, G1) := fun v hv => by
      unfold f_X9_jackpot
      rw [c_isHall rfl hN hC, ob_s, bh_i1, pD1 (M := 1) (n := 1) rfl hw (by omega), show (2 : Int32) = nI 2 from rfl, e1, ob_s, if_neg (nI_ne0 (by omega) (by omega)), n1, hC1.1.2.2.1]
      exact hv
    have mw : ∀ v : Int32, (if nI bb = (0 : Int32) then some ((-1 : Int32), G2) else if bh_FT C R E K m z sv cl 2 = (-1 : Int32) then some ((-1 : Int32), G2) else if bh_FT C R E K m z sv cl 2 ≤ nI bb then some ((0 : Int32), G2) else some (bh_FT C R E K m z sv cl 2 - nI bb, G2)) = some (v, G2) → f_X10_jackpot (nI w) G1 = some (v, G2) := fun v hv => by
      unfold f_X10_jackpot
      rw [lt_r, m_isHall hN hM2, ob_s, bh_i1, m_in1 (l := 0) (b := 1) (by omega) (by decide) (by decide) (by omega) (by omega), ob_s, bh_i1, show (2 : Int32) = nI 2 from rfl, e2, ov_s, if_neg (nI_ne0 (by omega) (by omega)), show inb (6 : Int32) 48 = true from by decide, gd_t, show (6 : Int32).toNatClampNeg = 6 from by decide, e6, a1, gd_t, gd_t]
      exact hv
    by_cases hb0 : bb = 0
    · rw [hb0] at cw mw
      exact bh_qy hR (v := _) (G1 := G1) (G2 := G2) (cw _ (if_pos rfl)) (mw _ (if_pos rfl)) (scrW7 F1) (bh_Ft (bh_thr _) (scrWr F2))
    · rcases bh_FT_is (m := m) (sv := sv) hV hp (kind := 2) (by omega) with ⟨h1, -⟩ | ⟨t, h1, h2, h3, -⟩
      · rw [h1] at cw mw
        exact bh_qy hR (v := (-1 : Int32)) (G1 := G1) (G2 := G2) (cw _ (by rw [if_neg (nI_ne0 (by omega) (by omega)), if_pos rfl])) (mw _ (by rw [if_neg (nI_ne0 (by omega) (by omega)), if_pos rfl])) (scrW7 F1) (bh_Ft (bh_thr _) (scrWr F2))
      · rw [h3] at cw mw
        by_cases hle : t ≤ bb
        · refine bh_qy hR (v := (0 : Int32)) (G1 := G1) (G2 := G2) (cw _ ?_) (mw _ ?_) (scrW7 F1) (bh_Ft (bh_thr _) (scrWr F2))
          · rw [if_neg (nI_ne0 (by omega) (by omega)), if_neg (nIm1 (by omega))]
            unfold jmax
            by_cases he : t = bb
            · rw [he, Int32.sub_self, if_neg (by decide)]
            · rw [if_neg]
              intro h
              exact absurd (Int32.lt_trans h (pk_sneg (by omega) (by omega))) (by decide)
          · rw [if_neg (nI_ne0 (by omega) (by omega)), if_neg (nIm1 (by omega)), if_pos (nI_le hle (by omega))]
        · refine bh_qy hR (v := nI (t - bb)) (G1 := G1) (G2 := G2) (cw _ ?_) (mw _ ?_) (scrW7 F1) (bh_Ft (bh_thr _) (scrWr F2))
          · rw [if_neg (nI_ne0 (by omega) (by omega)), if_neg (nIm1 (by omega)), pk_sub (by omega), show (0 : Int32) = nI 0 from rfl, jmax_n (by omega) (by omega), Nat.max_eq_right (by omega)]
          · rw [if_neg (nI_ne0 (by omega) (by omega)), if_neg (nIm1 (by omega)), if_neg (by rw [nI_leI (by omega) (by omega)]; omega), pk_sub (by omega)]
def bh_wI (C R E K m pu bb : Nat) (z sv cl pr : Nat → Nat) (i kind n : Nat) : Nat := bh_sm (fun c => if bh_FT C R E K m z sv cl kind ≠ -1 ∧ bh_tQ C R E K z sv cl kind i c = bh_FT C R E K m z sv cl kind then bh_pN C R E K m pu bb z sv cl pr kind else 0) n
theorem q_wins (x1 : Int32) : bh_Qy (f_X9_wins x1) (f_X10_wins x1) := by
  intro G hR
  have hh := bh_nwc hR
  have fT := bh_thr G
  rcases hR.2.2.2.2.1 with h0 | ⟨ln, C, R, E, K, m, pu, bb, z, sv, cl, pr, hN, hC, hM⟩
  · have h02 := bh_sc0 hh h0 fT
    have e4 : gI (sI G 186 0 0) 193 4 = 0 := h02.2.2.2 4 (by omega)
    exact bh_qy hR (v := (-2 : Int32)) (by unfold f_X9_wins; rw [c_isPlaceN rfl h0 _, ob_s, bh_i0]) (by unfold f_X10_wins; rw [lt_r, show inb (4 : Int32) 48 = true from by decide, gd_t, show (4 : Int32).toNatClampNeg = 4 from by decide, e4, m_in00, ob_s, bh_i0]) (bh_Fr _ _) (bh_thr G)
  have hM2 := bh_scM hN hM fT
  have hV := hN.2.1
  have h45 := bh_N45 hV
  have hbC := hV.1
  have hbR := hV.2.1
  have hbE := hV.2.2.1
  have hbK := hV.2.2.2.1
  have hbm := hN.2.2.1
  have hp := hN.2.2.2.2.2.2.2
  have e4 : gI (sI G 186 0 0) 193 4 = nI m := hM2.1.2.1
  rcases bh_cls (x := x1) (p := fun j => j < m) with ⟨i, hi, rfl⟩ | ni
  rotate_left
  · exact bh_qy hR (v := (-2 : Int32)) (by unfold f_X9_wins; rw [c_isPlace0 rfl hN hC ni, ob_s, bh_i0]) (by unfold f_X10_wins; rw [lt_r, show inb (4 : Int32) 48 = true from by decide, gd_t, show (4 : Int32).toNatClampNeg = 4 from by decide, e4, m_in0 (l := 0) (b := (m : Int) - 1) (by decide) (m1_toInt (by omega)) (fun j _ _ h he => ni ⟨j, by omega, he⟩), ob_s, bh_i0]) (bh_Fr _ _) (bh_thr G)
  have cs : ∃ G', wl2 FU (lp_X9_wins_15 (nI i)) (0 : Int32) (0 : Int32) G = some (nI (bh_sm (fun kind => bh_wI C R E K m pu bb z sv cl pr i kind C) 3), G') ∧ bh_F bh_W7 G G' := by
    refine wl2_up (P := fun o => ∃ G', o = some (nI (bh_sm (fun kind => bh_wI C R E K m pu bb z sv cl pr i kind C) 3), G') ∧ bh_F bh_W7 G G') (I := fun kind y G1 => y = nI (bh_sm (fun kind => bh_wI C R E K m pu bb z sv cl pr i kind C) kind) ∧ bh_F bh_W7 G G1) (N := 3) (by omega) ?_ (n := FU) (i := 0) (Nat.zero_le _) ⟨rfl, bh_Fr _ _⟩ (by unfold FU; omega)
    rintro kc kind _ G1 hk' ⟨rfl, F1⟩ hkc
    have hC1 := bh_scC hh hN hC (scrW7 F1)
    have n1 : nw G1 = nw G := F1.2.2.1
    unfold lp_X9_wins_15
    rw [show (3 : Int32) = nI 3 from rfl]
    by_cases hk : kind < 3
    · obtain ⟨G2, e2, F2⟩ := c_fT0 n1 hh hN hC1 hk
      have F12 := bh_Ft F1 F2
      have hC2 := bh_scC hh hN hC (scrW7 F12)
      have n2 : nw G2 = nw G := F12.2.2.1
      obtain ⟨G3, e3, F3⟩ := c_wP n2 hh hN hC2 hk
      have F13 := bh_Ft F12 F3
      rw [if_neg (nI_ge hk (by omega)), n1, e2, ob_s, e3, ob_s]
      refine wl2_up (P := fun o => ∃ G', o = some (nI (bh_sm (fun kind => bh_wI C R E K m pu bb z sv cl pr i kind C) 3), G') ∧ bh_F bh_W7 G G') (I := fun c y G4 => y = nI (bh_sm (fun kind => bh_wI C R E K m pu bb z sv cl pr i kind C) kind + bh_wI C R E K m pu bb z sv cl pr i kind c) ∧ bh_F bh_W7 G G4) (N := C) (by omega) ?_ (n := FU) (i := 0) (Nat.zero_le _) ⟨rfl, F13⟩ (by unfold FU; omega)
      rintro kc2 c _ G4 hc' ⟨rfl, F4⟩ hk2
      have hC4 := bh_scC hh hN hC (scrW7 F4)
      have n4 : nw G4 = nw G := F4.2.2.1
      unfold lp_X9_wins_46
      rw [n4, hC4.2.1.1.1]
      by_cases hc : c < C
      · obtain ⟨G5, e5, F5⟩ := c_hF (kind := kind) (turn := bh_FT C R E K m z sv cl kind) hh hN (bh_CT_of n4 hN hC4) hi hc hk
        have es : bh_wI C R E K m pu bb z sv cl pr i kind (c + 1) = bh_wI C R E K m pu bb z sv cl pr i kind c + if bh_FT C R E K m z sv cl kind ≠ -1 ∧ bh_tQ C R E K z sv cl kind i c = bh_FT C R E K m z sv cl kind then bh_pN C R E K m pu bb z sv cl pr kind else 0 := rfl
        rw [if_neg (nI_ge hc (by omega)), e5, ob_s]
        by_cases hw : bh_FT C R E K m z sv cl kind ≠ -1 ∧ bh_tQ C R E K z sv cl kind i c = bh_FT C R E K m z sv cl kind
        · rw [if_pos hw, if_neg (by decide), nI_add, lt_r, nI_1]
          exact hk2 hc _ _ ⟨by rw [es, if_pos hw, Nat.add_assoc], bh_Ft F4 F5⟩
        · rw [if_neg hw, if_pos rfl, nI_1]
          exact hk2 hc _ _ ⟨by rw [es, if_neg hw, Nat.add_zero], bh_Ft F4 F5⟩
      · have hc2 : c = C := by omega
        subst hc2
        rw [if_pos (nI_le (by omega) (by omega)), nI_1]
        exact hkc hk _ _ ⟨rfl, F4⟩
    · have hk2 : kind = 3 := by omega
      subst hk2
      rw [if_pos (nI_le (by omega) (by omega))]
      exact ⟨G1, rfl, F1⟩
  obtain ⟨G1, e1, F1⟩ := cs
  have hM2 := bh_scM hN hM (bh_Ft (scrW7 F1) (bh_thr _))
  have e4 : gI (sI G1 186 0 0) 193 4 = nI m := hM2.1.2.1
  have ms : ∃ G', wl2 FU (lp_X10_wins_30 (nI i)) (0 : Int32) (0 : Int32) (sI G1 186 0 0) = some (nI (bh_sm (fun kind => bh_wI C R E K m pu bb z sv cl pr i kind C) 3), G') ∧ bh_F bh_Wr (sI G1 186 0 0) G' := by
    refine wl2_up (P := fun o => ∃ G', o = some (nI (bh_sm (fun kind => bh_wI C R E K m pu bb z sv cl pr i kind C) 3), G') ∧ bh_F bh_Wr (sI G1 186 0 0) G') (I := fun kind y G3 => y = nI (bh_sm (fun kind => bh_wI C R E K m pu bb z sv cl pr i kind C) kind) ∧ bh_F bh_Wr (sI G1 186 0 0) G3) (N := 3) (by omega) ?_ (n := FU) (i := 0) (Nat.zero_le _) ⟨rfl, bh_Fr _ _⟩ (by unfold FU; omega)
    rintro kc kind _ G3 hk' ⟨rfl, F3⟩ hkc
    have hM3 := bh_scM hN hM2 (scrWr F3)
    unfold lp_X10_wins_30
    rw [show (3 : Int32) = nI 3 from rfl]
    by_cases hk : kind < 3
    · obtain ⟨G4, e4, a1, a2, a3, hM4, a4, F4⟩ := m_rcW hN hM3 hk
      have hw24 := bh_WC_le (C := C) (R := R) (E := E) (K := K) (m := m) (z := z) (sv := sv) (cl := cl) (kind := kind) (turn := bh_FT C R E K m z sv cl kind) hbm hbC.2
      have hpr := hN.2.2.2.2.2.1 kind hk
      have e0 : gI G4 193 0 = nI C := hM4.2.1.1
      rw [if_neg (nI_ge hk (by omega)), e4, ov_s]
      refine wl2_up (P := fun o => ∃ G', o = some (nI (bh_sm (fun kind => bh_wI C R E K m pu bb z sv cl pr i kind C) 3), G') ∧ bh_F bh_Wr (sI G1 186 0 0) G') (I := fun c y G5 => G5 = G4 ∧ y = nI (bh_sm (fun kind => bh_wI C R E K m pu bb z sv cl pr i kind C) kind + bh_wI C R E K m pu bb z sv cl pr i kind c)) (N := C) (by omega) ?_ (n := FU) (i := 0) (Nat.zero_le _) ⟨rfl, rfl⟩ (by unfold FU; omega)
      rintro kc2 c _ G5 hc' ⟨rfl, rfl⟩ hk2
      unfold lp_X10_wins_44
      rw [show inb (0 : Int32) 48 = true from by decide, gd_t, show (0 : Int32).toNatClampNeg = 0 from by decide, e0]
      by_cases hc : c < C
      · have es : bh_wI C R E K m pu bb z sv cl pr i kind (c + 1) = bh_wI C R E K m pu bb z sv cl pr i kind c + if bh_FT C R E K m z sv cl kind ≠ -1 ∧ bh_tQ C R E K z sv cl kind i c = bh_FT C R E K m z sv cl kind then bh_pN C R E K m pu bb z sv cl pr kind else 0 := rfl
        rw [if_neg (nI_ge hc (by omega)), m_iW a1 (a3 i c hi hc) (by omega) (by omega), ob_s]
        by_cases hw : bh_FT C R E K m z sv cl kind ≠ -1 ∧ bh_tQ C R E K z sv cl kind i c = bh_FT C R E K m z sv cl kind
        · rw [if_pos hw, if_neg (by decide), inb_n (by omega) (by omega), gd_t, nI_clamp (by omega), a4, m_eachOf a2 (by omega) (by omega), ob_s]
          by_cases h2 : kind = 2
          · subst h2
            rw [if_pos (show nI 2 = (2 : Int32) from rfl), m_jE hN hM4 rfl a1 a2, ob_s]
            unfold k_X10_wins_89
            rw [nI_add, nI_add, lt_r, nI_1]
            refine hk2 hc _ _ ⟨rfl, ?_⟩
            rw [es, if_pos hw]
            unfold bh_pN
            rw [if_pos rfl, Nat.add_assoc]
          · rw [if_neg (by rw [show (2 : Int32) = nI 2 from rfl, nI_eq (by omega) (by omega)]; exact h2)]
            unfold k_X10_wins_89
            rw [Int32.add_zero, nI_add, lt_r, nI_1]
            refine hk2 hc _ _ ⟨rfl, ?_⟩
            rw [es, if_pos hw]
            unfold bh_pN
            rw [if_neg h2, Nat.add_zero, Nat.add_assoc]
        · rw [if_neg hw, if_pos rfl, nI_1]
          exact hk2 hc _ _ ⟨rfl, by rw [es, if_neg hw, Nat.add_zero]⟩
      · have hc2 : c = C := by omega
        subst hc2
        rw [if_pos (nI_le (by omega) (by omega)), nI_1]
        exact hkc hk _ _ ⟨rfl, bh_Ft F3 F4⟩
    · have hk2 : kind = 3 := by omega
      subst hk2
      rw [if_pos (nI_le (by omega) (by omega))]
      exact ⟨G3, rfl, F3⟩
  obtain ⟨G2, e2, F2⟩ := ms
  exact bh_qy hR (v := nI (bh_sm (fun kind => bh_wI C R E K m pu bb z sv cl pr i kind C) 3)) (G1 := G1) (G2 := G2) (by unfold f_X9_wins; rw [c_isPlace1 rfl hN hC hi, ob_s, bh_i1, e1]) (by unfold f_X10_wins; rw [lt_r, show inb (4 : Int32) 48 = true from by decide, gd_t, show (4 : Int32).toNatClampNeg = 4 from by decide, e4, m_in1 (l := 0) (b := (m : Int) - 1) (by omega) (by decide) (m1_toInt (by omega)) (by omega) (by omega), ob_s, bh_i1, e2]) (scrW7 F1) (bh_Ft (bh_thr _) (scrWr F2))
