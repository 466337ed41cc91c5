/-! the relation between both halls -/
def bh_HN (ln C R E K m pu bb : Nat) (z sv cl pr : Nat → Nat) : Prop := (1 ≤ ln ∧ ln < 100000) ∧ bh_VH C R E K z ∧ m ≤ 8 ∧ pu ≤ 9999 ∧ bb ≤ 45 ∧ (∀ k, k < 3 → pr k ≤ 9999) ∧ (∀ i, i < m → sv i ≤ 9999) ∧ bh_prm (C * R * E) 1 cl
def bh_HC (G : GM) (h ln C R E K m pu bb : Nat) (z sv cl pr : Nat → Nat) : Prop := (gI G h 1 = nI ln ∧ gI G h 3 = nI pu ∧ gI G h 4 = nI bb ∧ gI G h 5 = nI m) ∧ bh_FO G (h + 1) C R E K z ∧ (∀ k, k < 3 → gI G (h + 9) k = nI (pr k)) ∧ (∀ i, i < m → gI G (h + 10) i = nI (sv i) ∧ bh_SC G (h + 12 + i) C R E K z (sv i)) ∧ ∀ i, i < C * R * E → gI G (h + 20) i = nI (cl i) ∧ gI G (h + 21) (cl i) = nI (i + 1)
def bh_HM (G : GM) (w ln C R E K m pu bb : Nat) (z sv cl pr : Nat → Nat) : Prop := (gI G 192 w = nI ln ∧ gI G 193 (8 * w + 4) = nI m ∧ gI G 193 (8 * w + 5) = nI pu ∧ gI G 193 (8 * w + 6) = nI bb) ∧ bh_MO G w C R E K z ∧ (∀ k, k < 3 → gI G 195 (3 * w + k) = nI (pr k)) ∧ (∀ i, i < m → gI G 196 (8 * w + i) = nI (sv i)) ∧ ∀ i, i < C * R * E → gI G 197 (45 * w + i) = nI (cl i)
/-- no hall -/
def bh_H0 (G : GM) (h w : Nat) : Prop := (gI G h 1 = 0 ∧ gI G h 3 = 0 ∧ gI G h 4 = 0 ∧ gI G h 5 = 0) ∧ (∀ k, k < 4 → gI G (h + 1) k = 0) ∧ gI G 192 w = 0 ∧ ∀ k, k < 7 → gI G 193 (8 * w + k) = 0
def bh_HR (G : GM) (h w : Nat) : Prop := bh_H0 G h w ∨ ∃ ln C R E K m pu bb z sv cl pr, bh_HN ln C R E K m pu bb z sv cl pr ∧ bh_HC G h ln C R E K m pu bb z sv cl pr ∧ bh_HM G w ln C R E K m pu bb z sv cl pr
def bh_R (G : GM) : Prop := RS G ∧ RT G ∧ RF G ∧ ((nw G = 1 ∧ nx G = 23) ∨ (nw G = 23 ∧ nx G = 1)) ∧ bh_HR G (nw G) 0 ∧ ∀ k, k < 3 → (gI G 46 k = 0 ∧ gI G 198 k = 0) ∨ (gI G 46 k = 1 ∧ gI G 198 k = 1 ∧ bh_HR G (120 + 22 * k) (1 + k))
/-- what a question may write -/
def bh_SCR (a q : Nat) : Prop := (48 ≤ a ∧ a ≤ 52) ∨ (71 ≤ a ∧ a ≤ 75) ∨ (77 ≤ a ∧ a ≤ 119) ∨ (a = 186 ∧ q ≠ 6 ∧ q ≠ 14 ∧ q ≠ 15) ∨ 199 ≤ a ∨ (a = 192 ∧ q = 5) ∨ (a = 193 ∧ 40 ≤ q) ∨ (a = 194 ∧ 25 ≤ q) ∨ (a = 195 ∧ 15 ≤ q) ∨ (a = 196 ∧ 40 ≤ q) ∨ (a = 197 ∧ 225 ≤ q)
def bh_PH (h a : Nat) : Prop := h ≤ a ∧ a ≤ h + 21
def bh_PM (w a q : Nat) : Prop := (a = 192 ∧ q = w) ∨ (a = 193 ∧ 8 * w ≤ q ∧ q < 8 * w + 8) ∨ (a = 194 ∧ 5 * w ≤ q ∧ q < 5 * w + 5) ∨ (a = 195 ∧ 3 * w ≤ q ∧ q < 3 * w + 3) ∨ (a = 196 ∧ 8 * w ≤ q ∧ q < 8 * w + 8) ∨ (a = 197 ∧ 45 * w ≤ q ∧ q < 45 * w + 45)
theorem bh_SC_F {W : Nat → Nat → Prop} {G G' : GM} {t C R E K s : Nat} {z : Nat → Nat} (h : bh_SC G t C R E K z s) (hF : bh_F W G G') (hw : ∀ q, ¬ W t q) : bh_SC G' t C R E K z s :=
  ⟨fun c r k h1 h2 h3 => by rw [hF.1 _ _ (hw _)]; exact h.1 c r k h1 h2 h3, fun q h1 h2 => by rw [hF.1 _ _ (hw _)]; exact h.2 q h1 h2⟩
theorem bh_N45 {C R E K : Nat} {z : Nat → Nat} (hV : bh_VH C R E K z) : C * R * E ≤ 45 := Nat.mul_le_mul (Nat.mul_le_mul hV.1.2 hV.2.1.2) hV.2.2.1.2
theorem bh_HC_F {W : Nat → Nat → Prop} {G G' : GM} {h ln C R E K m pu bb : Nat} {z sv cl pr : Nat → Nat} (hm : m ≤ 8) (hc : bh_HC G h ln C R E K m pu bb z sv cl pr) (hF : bh_F W G G') (hw : ∀ a q, bh_PH h a → ¬ W a q) : bh_HC G' h ln C R E K m pu bb z sv cl pr := by
  obtain ⟨⟨a1, a2, a3, a4⟩, b, c, d, e⟩ := hc
  have k : ∀ a q, h ≤ a → a ≤ h + 21 → gI G' a q = gI G a q := fun a q h1 h2 => hF.1 _ _ (hw a q ⟨h1, h2⟩)
  refine ⟨⟨?_, ?_, ?_, ?_⟩, bh_FO_F b hF (fun a q h1 h2 => hw a q ⟨by omega, by omega⟩), fun i hi => ?_, fun i hi => ⟨?_, bh_SC_F (d i hi).2 hF (fun q => hw _ q ⟨by omega, by omega⟩)⟩, fun i hi => ⟨?_, ?_⟩⟩
  · rw [k _ _ (by omega) (by omega)]; exact a1
  · rw [k _ _ (by omega) (by omega)]; exact a2
  · rw [k _ _ (by omega) (by omega)]; exact a3
  · rw [k _ _ (by omega) (by omega)]; exact a4
  · rw [k _ _ (by omega) (by omega)]; exact c i hi
  · rw [k _ _ (by omega) (by omega)]; exact (d i hi).1
  · rw [k _ _ (by omega) (by omega)]; exact (e i hi).1
  · rw [k _ _ (by omega) (by omega)]; exact (e i hi).2
theorem bh_HM_F {W : Nat → Nat → Prop} {G G' : GM} {w ln C R E K m pu bb : Nat} {z sv cl pr : Nat → Nat} (hm : m ≤ 8) (hN : C * R * E ≤ 45) (hK : K ≤ 5) (hc : bh_HM G w ln C R E K m pu bb z sv cl pr) (hF : bh_F W G G') (hw : ∀ a q, bh_PM w a q → ¬ W a q) : bh_HM G' w ln C R E K m pu bb z sv cl pr := by
  obtain ⟨⟨a1, a2, a3, a4⟩, b, c, d, e⟩ := hc
  have k : ∀ a q, bh_PM w a q → gI G' a q = gI G a q := fun a q h1 => hF.1 _ _ (hw a q h1)
  refine ⟨⟨?_, ?_, ?_, ?_⟩, bh_MO_F b hF (fun q h1 h2 => hw _ q (by unfold bh_PM; omega)) (fun q h1 h2 => hw _ q (by unfold bh_PM; omega)) hK, fun i hi => ?_, fun i hi => ?_, fun i hi => ?_⟩
  · rw [k _ _ (by unfold bh_PM; omega)]; exact a1
  · rw [k _ _ (by unfold bh_PM; omega)]; exact a2
  · rw [k _ _ (by unfold bh_PM; omega)]; exact a3
  · rw [k _ _ (by unfold bh_PM; omega)]; exact a4
  · rw [k _ _ (by unfold bh_PM; omega)]; exact c i hi
  · rw [k _ _ (by unfold bh_PM; omega)]; exact d i hi
  · rw [k _ _ (by unfold bh_PM; omega)]; exact e i hi
theorem bh_H0_F {W : Nat → Nat → Prop} {G G' : GM} {h w : Nat} (hc : bh_H0 G h w) (hF : bh_F W G G') (hw : ∀ a q, bh_PH h a → ¬ W a q) (hw2 : ∀ a q, bh_PM w a q → ¬ W a q) : bh_H0 G' h w := by
  obtain ⟨⟨a1, a2, a3, a4⟩, b, c, d⟩ := hc
  have k : ∀ a q, h ≤ a → a ≤ h + 21 → gI G' a q = gI G a q := fun a q h1 h2 => hF.1 _ _ (hw a q ⟨h1, h2⟩)
  have k2 : ∀ a q, bh_PM w a q → gI G' a q = gI G a q := fun a q h1 => hF.1 _ _ (hw2 a q h1)
  refine ⟨⟨?_, ?_, ?_, ?_⟩, fun i hi => ?_, ?_, fun i hi => ?_⟩
  · rw [k _ _ (by omega) (by omega)]; exact a1
  · rw [k _ _ (by omega) (by omega)]; exact a2
  · rw [k _ _ (by omega) (by omega)]; exact a3
  · rw [k _ _ (by omega) (by omega)]; exact a4
  · rw [k _ _ (by omega) (by omega)]; exact b i hi
  · rw [k2 _ _ (by unfold bh_PM; omega)]; exact c
  · rw [k2 _ _ (by unfold bh_PM; omega)]; exact d i hi
theorem bh_HR_F {W : Nat → Nat → Prop} {G G' : GM} {h w : Nat} (hc : bh_HR G h w) (hF : bh_F W G G') (hw : ∀ a q, bh_PH h a → ¬ W a q) (hw2 : ∀ a q, bh_PM w a q → ¬ W a q) : bh_HR G' h w := by
  rcases hc with h0 | ⟨ln, C, R, E, K, m, pu, bb, z, sv, cl, pr, hN, hC, hM⟩
  · exact Or.inl (bh_H0_F h0 hF hw hw2)
  · exact Or.inr ⟨ln, C, R, E, K, m, pu, bb, z, sv, cl, pr, hN, bh_HC_F hN.2.2.1 hC hF hw, bh_HM_F hN.2.2.1 (bh_N45 hN.2.1) hN.2.1.2.2.2.1.2 hM hF hw2⟩
theorem bh_RS_F {W : Nat → Nat → Prop} {G G' : GM} (h : RS G) (hF : bh_F W G G') (hw : ∀ a q, ((64 ≤ a ∧ a ≤ 70) ∨ (187 ≤ a ∧ a ≤ 189)) → ¬ W a q) : RS G' := by
  intro s hs
  have k : ∀ a q, ((64 ≤ a ∧ a ≤ 70) ∨ (187 ≤ a ∧ a ≤ 189)) → gI G' a q = gI G a q := fun a q h1 => hF.1 _ _ (hw a q h1)
  have kJ : ∀ a q, ((64 ≤ a ∧ a ≤ 70) ∨ (187 ≤ a ∧ a ≤ 189)) → gJ G' a q = gJ G a q := fun a q h1 => hF.2.1 _ _ (hw a q h1)
  unfold RS1
  rw [k _ _ (by omega), k _ _ (by omega), k _ _ (by omega), k _ _ (by omega), k _ _ (by omega)]
  rcases h s hs with h1 | ⟨h1, w, n, h2, h3, h4, h5, h6, h7, h8⟩
  · exact Or.inl h1
  · refine Or.inr ⟨h1, w, n, h2, h3, h4, h5, h6, h7, fun i hi => ?_⟩
    rw [kJ _ _ (by omega), kJ _ _ (by omega)]
    exact h8 i hi
theorem bh_RT_F {W : Nat → Nat → Prop} {G G' : GM} (h : RT G) (hF : bh_F W G G') (hw : ∀ a q, ((a = 53 ∧ q = 1) ∨ a = 54 ∨ a = 191 ∨ (a = 186 ∧ q = 6)) → ¬ W a q) : RT G' := by
  obtain ⟨n, h1, h2, h3, h4⟩ := h
  have k : ∀ a q, ((a = 53 ∧ q = 1) ∨ a = 54 ∨ a = 191 ∨ (a = 186 ∧ q = 6)) → gI G' a q = gI G a q := fun a q h1 => hF.1 _ _ (hw a q h1)
  refine ⟨n, h1, ?_, ?_, fun i hi => ?_⟩
  · rw [k _ _ (by omega)]; exact h2
  · rw [k _ _ (by omega)]; exact h3
  · rw [k _ _ (by omega), k _ _ (by omega)]; exact h4 i hi
theorem bh_RF_F {W : Nat → Nat → Prop} {G G' : GM} (h : RF G) (hF : bh_F W G G') (hw : ∀ a q, ((a = 53 ∧ 9 ≤ q ∧ q ≤ 10) ∨ (a = 186 ∧ 14 ≤ q ∧ q ≤ 15)) → ¬ W a q) : RF G' := by
  have k : ∀ a q, ((a = 53 ∧ 9 ≤ q ∧ q ≤ 10) ∨ (a = 186 ∧ 14 ≤ q ∧ q ≤ 15)) → gI G' a q = gI G a q := fun a q h1 => hF.1 _ _ (hw a q h1)
  unfold RF
  rw [k _ _ (by omega), k _ _ (by omega), k _ _ (by omega), k _ _ (by omega)]
  exact h
theorem bh_R_F {G G' : GM} (h : bh_R G) (hF : bh_F bh_SCR G G') : bh_R G' := by
  obtain ⟨h1, h2, h3, h4, h5, h6⟩ := h
  refine ⟨bh_RS_F h1 hF (fun a q h => by unfold bh_SCR; omega), bh_RT_F h2 hF (fun a q h => by unfold bh_SCR; omega), bh_RF_F h3 hF (fun a q h => by unfold bh_SCR; omega), ?_, ?_, fun k hk => ?_⟩
  · rw [hF.2.2.1, hF.2.2.2]; exact h4
  · rw [hF.2.2.1]
    exact bh_HR_F h5 hF (fun a q h => by unfold bh_PH at h; unfold bh_SCR; omega) (fun a q h => by unfold bh_PM at h; unfold bh_SCR; omega)
  · rw [hF.1 46 k (by unfold bh_SCR; omega), hF.1 198 k (by unfold bh_SCR; omega)]
    rcases h6 k hk with h | ⟨g1, g2, g3⟩
    · exact Or.inl h
    · exact Or.inr ⟨g1, g2, bh_HR_F g3 hF (fun a q h => by unfold bh_PH at h; unfold bh_SCR; omega) (fun a q h => by unfold bh_PM at h; unfold bh_SCR; omega)⟩
/-- a question answers alike on both sides, and nothing that lasts changes -/
def bh_Qy {V : Type} (f g : GM → Option (V × GM)) : Prop := ∀ G, bh_R G → ∃ v G1 G2, f G = some (v, G1) ∧ g G1 = some (v, G2) ∧ bh_R G2
theorem bh_qy {V : Type} {f g : GM → Option (V × GM)} {G G1 G2 : GM} {v : V} (hR : bh_R G) (h1 : f G = some (v, G1)) (h2 : g G1 = some (v, G2)) (f1 : bh_F bh_SCR G G1) (f2 : bh_F bh_SCR G1 G2) : ∃ v G1 G2, f G = some (v, G1) ∧ g G1 = some (v, G2) ∧ bh_R G2 := ⟨v, G1, G2, h1, h2, bh_R_F hR (bh_Ft f1 f2)⟩
/-! ifs on machine numbers -/
theorem bh_i0 {α : Type} (a b : α) : (if (0 : Int32) = 0 then a else b) = a := if_pos rfl
theorem bh_i1 {α : Type} (a b : α) : (if (1 : Int32) = 0 then a else b) = b := if_neg (by decide)
theorem pA0 {α : Type} {x : Int32} {n : Nat} {a b : α} (hn : n < 2 ^ 31) (hx : ¬ ∃ j, j < n ∧ x = nI j) : (if x < 0 then a else if nI n ≤ x then a else b) = a := by
  rcases pk_ix x (n := n) hn with h | h | h
  · rw [if_pos h]
  · by_cases h0 : x < 0
    · rw [if_pos h0]
    · rw [if_neg h0, if_pos h]
  · exact absurd h hx
theorem pA1 {α : Type} {j n : Nat} {a b : α} (hj : j < n) (hn : n < 2 ^ 31) : (if nI j < 0 then a else if nI n ≤ nI j then a else b) = b := by
  rw [if_neg (nI_pos (by omega)), if_neg (nI_ge hj hn)]
theorem pB0 {α : Type} {x : Int32} {n : Nat} {a b : α} (hn : n + 1 < 2 ^ 31) (hx : ¬ ∃ j, j < n + 1 ∧ x = nI j) : (if x < 0 then a else if nI n < x then a else b) = a := by
  rcases pk_ix x (n := n + 1) hn with h | h | h
  · rw [if_pos h]
  · by_cases h0 : x < 0
    · rw [if_pos h0]
    · rw [if_neg h0]
      obtain ⟨j, hj, rfl⟩ := nI_of h0
      rw [if_pos]
      rw [nI_leI hn hj] at h
      exact nI_lt (by omega) hj
  · exact absurd h hx
theorem pB1 {α : Type} {j n : Nat} {a b : α} (hj : j < n + 1) (hn : n + 1 < 2 ^ 31) : (if nI j < 0 then a else if nI n < nI j then a else b) = b := by
  rw [if_neg (nI_pos (by omega)), if_neg (nI_nlt (by omega) (by omega))]
theorem pC0 {α : Type} {x : Int32} {n : Nat} {a b : α} (hn : n + 1 < 2 ^ 31) (hx : ¬ ∃ j, 1 ≤ j ∧ j < n + 1 ∧ x = nI j) : (if x < (1 : Int32) then a else if nI n < x then a else b) = a := by
  by_cases h1 : x < (1 : Int32)
  · rw [if_pos h1]
  · rw [if_neg h1, if_pos]
    have h0 : ¬ x < 0 := fun h => h1 (Int32.lt_trans h (by decide))
    obtain ⟨j, hj, rfl⟩ := nI_of h0
    have hj1 : 1 ≤ j := by
      rw [show (1 : Int32) = nI 1 from rfl, nI_ltI hj (by omega)] at h1; omega
    refine nI_lt ?_ hj
    exact Nat.lt_of_not_le fun h => hx ⟨j, hj1, by omega, rfl⟩
theorem pC1 {α : Type} {j n : Nat} {a b : α} (h1 : 1 ≤ j) (hj : j < n + 1) (hn : n + 1 < 2 ^ 31) : (if nI j < (1 : Int32) then a else if nI n < nI j then a else b) = b := by
  rw [if_neg (show ¬ nI j < (1 : Int32) from nI_nlt (b := 1) h1 (by omega)), if_neg (nI_nlt (by omega) (by omega))]
theorem m_in1 {lo hi : Int64} {l j : Nat} {b : Int} (hj : j < 2 ^ 31) (hl : lo.toInt = l) (hb : hi.toInt = b) (h1 : l ≤ j) (h2 : (j : Int) ≤ b) (G : GM) : f_X10_in (nI j).toInt64 lo hi G = some (1, G) := by
  rw [in_iff (nI j) hl hb, nI_toInt hj, if_pos ⟨by omega, h2⟩]
theorem m_in0 {x : Int32} {lo hi : Int64} {l : Nat} {b : Int} (hl : lo.toInt = l) (hb : hi.toInt = b) (hx : ∀ j, j < 2 ^ 31 → l ≤ j → (j : Int) ≤ b → x ≠ nI j) (G : GM) : f_X10_in x.toInt64 lo hi G = some (0, G) := by
  rw [in_iff x hl hb, if_neg]
  rintro ⟨h1, h2⟩
  have h3 := Int32.toInt_lt x
  refine hx x.toInt.toNat (by omega) (by omega) (by omega) ?_
  apply Int32.toInt_inj.mp
  rw [nI_toInt (by omega)]
  omega
theorem nI_64 {n : Nat} (h : n < 2 ^ 31) : (nI n).toInt64.toInt = (n : Int) := by rw [Int32.toInt_toInt64, nI_toInt h]
