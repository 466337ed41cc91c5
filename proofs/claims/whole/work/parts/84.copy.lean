/-! IMAGES: halls copied -/
theorem m_copyRow {G : GM} {row M a b L : Nat} (hL : LN row = L) (ha : M * a + M ≤ L) (hb : M * b + M ≤ L) (hab : M * a + M ≤ M * b ∨ M * b + M ≤ M * a) (hl : L < 1000) : ∃ G', f_X10_copyRow row (nI M) (nI a) (nI b) G = some G' ∧ (∀ k, k < M → gI G' row (M * b + k) = gI G row (M * a + k)) ∧ bh_F (fun x q => x = row ∧ M * b ≤ q ∧ q < M * b + M) G G' := by
  unfold f_X10_copyRow
  refine wl1_up (P := fun o => ∃ G', o = some G' ∧ (∀ k, k < M → gI G' row (M * b + k) = gI G row (M * a + k)) ∧ bh_F (fun x q => x = row ∧ M * b ≤ q ∧ q < M * b + M) G G') (I := fun i G1 => (∀ k, k < i → gI G1 row (M * b + k) = gI G row (M * a + k)) ∧ bh_F (fun x q => x = row ∧ M * b ≤ q ∧ q < M * b + M) G G1) (N := M) (by omega) ?_ (n := FU) (i := 0) (Nat.zero_le _) ⟨fun k hk => absurd hk (Nat.not_lt_zero _), bh_Fr _ _⟩ (by unfold FU; omega)
  rintro kc i G1 hi' ⟨q1, F1⟩ hk
  unfold lp_X10_copyRow_3
  by_cases hi : i < M
  · rw [if_neg (nI_ge hi (by omega)), pk_mul, nI_add, hL, inb_n (by omega) (by omega), gd_t, pk_mul, nI_add, inb_n (by omega) (by omega), gd_t, nI_clamp (by omega), nI_clamp (by omega), lt_r, nI_1, F1.1 _ _ (by omega)]
    refine hk hi _ ⟨fun k hk => ?_, bh_FI F1 (by omega)⟩
    rw [gI_sI]
    by_cases hki : k = i
    · rw [hki, if_pos ⟨rfl, rfl⟩]
    · rw [if_neg (fun q => hki (by omega))]; exact q1 k (by omega)
  · have hi2 : i = M := by omega
    subst hi2
    rw [if_pos (nI_le (by omega) (by omega))]
    exact ⟨G1, rfl, q1, F1⟩
theorem pE0 {α : Type} {x M : Int32} {n : Nat} {a b : α} (hM : M = nI n) (hn : n < 2 ^ 31) (hx : ¬ ∃ j, j < n ∧ x = nI j) : (if x < 0 then a else if x < M then b else a) = a := by
  by_cases h0 : x < 0
  · rw [if_pos h0]
  · obtain ⟨j, hj, rfl⟩ := nI_of h0
    rw [if_neg h0, if_neg]
    rw [hM, nI_ltI hj hn]
    exact fun h => hx ⟨j, h, rfl⟩
/-- one of the reference's halls as another was -/
def bh_cpd (G G' : GM) (a b : Nat) : Prop := gI G' 192 b = gI G 192 a ∧ (∀ k, k < 8 → gI G' 193 (8 * b + k) = gI G 193 (8 * a + k)) ∧ (∀ k, k < 5 → gI G' 194 (5 * b + k) = gI G 194 (5 * a + k)) ∧ (∀ k, k < 3 → gI G' 195 (3 * b + k) = gI G 195 (3 * a + k)) ∧ (∀ k, k < 8 → gI G' 196 (8 * b + k) = gI G 196 (8 * a + k)) ∧ ∀ k, k < 45 → gI G' 197 (45 * b + k) = gI G 197 (45 * a + k)
theorem m_copyHall {G : GM} {a b : Nat} (ha : a < 6) (hb : b < 6) (hab : a ≠ b) : ∃ G', f_X10_copyHall (nI a) (nI b) G = some G' ∧ bh_cpd G G' a b ∧ bh_F (bh_PM b) G G' := by
  obtain ⟨G1, e1, a1, F1⟩ := m_copyRow (G := G) (row := 192) (M := 1) (a := a) (b := b) (L := 6) (by decide +kernel) (by omega) (by omega) (by omega) (by omega)
  obtain ⟨G2, e2, a2, F2⟩ := m_copyRow (G := G1) (row := 193) (M := 8) (a := a) (b := b) (L := 48) (by decide +kernel) (by omega) (by omega) (by omega) (by omega)
  obtain ⟨G3, e3, a3, F3⟩ := m_copyRow (G := G2) (row := 194) (M := 5) (a := a) (b := b) (L := 30) (by decide +kernel) (by omega) (by omega) (by omega) (by omega)
  obtain ⟨G4, e4, a4, F4⟩ := m_copyRow (G := G3) (row := 195) (M := 3) (a := a) (b := b) (L := 18) (by decide +kernel) (by omega) (by omega) (by omega) (by omega)
  obtain ⟨G5, e5, a5, F5⟩ := m_copyRow (G := G4) (row := 196) (M := 8) (a := a) (b := b) (L := 48) (by decide +kernel) (by omega) (by omega) (by omega) (by omega)
  obtain ⟨G6, e6, a6, F6⟩ := m_copyRow (G := G5) (row := 197) (M := 45) (a := a) (b := b) (L := 270) (by decide +kernel) (by omega) (by omega) (by omega) (by omega)
  refine ⟨G6, ?_, ⟨?_, fun k hk => ?_, fun k hk => ?_, fun k hk => ?_, fun k hk => ?_, fun k hk => ?_⟩, ?_⟩
  · unfold f_X10_copyHall
    rw [show (1 : Int32) = nI 1 from rfl, e1, ov_s, show (8 : Int32) = nI 8 from rfl, e2, ov_s, show (5 : Int32) = nI 5 from rfl, e3, ov_s, show (3 : Int32) = nI 3 from rfl, e4, ov_s, e5, ov_s, show (45 : Int32) = nI 45 from rfl, e6, ov_s]
  · have := a1 0 (by omega)
    rw [Nat.one_mul, Nat.one_mul, Nat.add_zero, Nat.add_zero] at this
    rw [F6.1 _ _ (by omega), F5.1 _ _ (by omega), F4.1 _ _ (by omega), F3.1 _ _ (by omega), F2.1 _ _ (by omega)]; exact this
  · rw [F6.1 _ _ (by omega), F5.1 _ _ (by omega), F4.1 _ _ (by omega), F3.1 _ _ (by omega), a2 k hk, F1.1 _ _ (by omega)]
  · rw [F6.1 _ _ (by omega), F5.1 _ _ (by omega), F4.1 _ _ (by omega), a3 k hk, F2.1 _ _ (by omega), F1.1 _ _ (by omega)]
  · rw [F6.1 _ _ (by omega), F5.1 _ _ (by omega), a4 k hk, F3.1 _ _ (by omega), F2.1 _ _ (by omega), F1.1 _ _ (by omega)]
  · rw [F6.1 _ _ (by omega), a5 k hk, F4.1 _ _ (by omega), F3.1 _ _ (by omega), F2.1 _ _ (by omega), F1.1 _ _ (by omega)]
  · rw [a6 k hk, F5.1 _ _ (by omega), F4.1 _ _ (by omega), F3.1 _ _ (by omega), F2.1 _ _ (by omega), F1.1 _ _ (by omega)]
  · exact bh_Ft (bh_Ft (bh_Ft (bh_Ft (bh_Ft (bh_Fm F1 (fun x q h => by unfold bh_PM; omega)) (bh_Fm F2 (fun x q h => by unfold bh_PM; omega))) (bh_Fm F3 (fun x q h => by unfold bh_PM; omega))) (bh_Fm F4 (fun x q h => by unfold bh_PM; omega))) (bh_Fm F5 (fun x q h => by unfold bh_PM; omega))) (bh_Fm F6 (fun x q h => by unfold bh_PM; omega))
section CP
variable {ln C R E K m pu bb : Nat} {z sv cl pr cl' : Nat → Nat}
theorem bh_HM_cp {G G' : GM} {a b : Nat} (hm : m ≤ 8) (hN : C * R * E ≤ 45) (hK : K ≤ 5) (h : bh_HM G a ln C R E K m pu bb z sv cl pr) (hc : bh_cpd G G' a b) : bh_HM G' b ln C R E K m pu bb z sv cl pr := by
  obtain ⟨c1, c2, c3, c4, c5, c6⟩ := hc
  obtain ⟨⟨a1, a2, a3, a4⟩, ⟨b0, b1, b2, b3, b4⟩, c, d, e⟩ := h
  refine ⟨⟨c1.trans a1, (c2 4 (by omega)).trans a2, (c2 5 (by omega)).trans a3, (c2 6 (by omega)).trans a4⟩, ⟨(c2 0 (by omega)).trans b0, (c2 1 (by omega)).trans b1, (c2 2 (by omega)).trans b2, (c2 3 (by omega)).trans b3, fun k hk => (c3 k (by omega)).trans (b4 k hk)⟩, fun k hk => (c4 k hk).trans (c k hk), fun i hi => (c5 i (by omega)).trans (d i hi), fun i hi => (c6 i (by omega)).trans (e i hi)⟩
/-- the class's form is copied -/
theorem c_copyForm {G : GM} {f f' : Nat} {z : Nat → Nat} (hdis : f + 7 < f' ∨ f' + 7 < f) (hC : C ≤ 3) (hR : R ≤ 3) (hRK : 1 ≤ R ∨ K = 0) (hE : E ≤ 5) (hK : K ≤ 5) (hz : ∀ k, k < K → z k ≤ 15) (g0 : gI G f 0 = nI C) (g1 : gI G f 1 = nI R) (g2 : gI G f 2 = nI E) (g3 : gI G f 3 = nI K) (gz : ∀ k, k < K → gI G (f + 1) k = nI (z k)) : ∃ G', f_X4_copyFrom f' f G = some G' ∧ bh_FO G' f' C R E K z ∧ bh_F (fun a _ => f' ≤ a ∧ a ≤ f' + 7) G G' := by
  unfold f_X4_copyFrom
  have st : ∀ (G' : GM) a q (v : Int32), gI (sI G' f' q v) a q = if a = f' then v else gI G' a q := fun G' a q v => by
    rw [gI_sI]
    by_cases h : a = f'
    · rw [if_pos ⟨h, rfl⟩, if_pos h]
    · rw [if_neg (fun q => h q.1), if_neg h]
  rw [lt_r, g0, gI_sIa (by omega), g1, lt_r, gI_sIa (by omega), gI_sIa (by omega), g2, lt_r, gI_sIa (by omega), gI_sIa (by omega), gI_sIa (by omega), g3, lt_r, show acp (0 : Int32) 0 5 5 5 = true from by decide, gd_t, lt_r, show (0 : Int32).toNatClampNeg = 0 from by decide, show (5 : Int32).toNatClampNeg = 5 from by decide]
  have FA : bh_F (fun a _ => f' ≤ a ∧ a ≤ f' + 7) G (sI (sI (sI (sI G f' 0 (nI C)) f' 1 (nI R)) f' 2 (nI E)) f' 3 (nI K)) := bh_FI (bh_FI (bh_FI (bh_FI (bh_Fr _ _) (by omega)) (by omega)) (by omega)) (by omega)
  have b0 : gI (sI (sI (sI (sI G f' 0 (nI C)) f' 1 (nI R)) f' 2 (nI E)) f' 3 (nI K)) f' 0 = nI C := by rw [gI_sIk (by omega), gI_sIk (by omega), gI_sIk (by omega), gI_sIs]
  have b1 : gI (sI (sI (sI (sI G f' 0 (nI C)) f' 1 (nI R)) f' 2 (nI E)) f' 3 (nI K)) f' 1 = nI R := by rw [gI_sIk (by omega), gI_sIk (by omega), gI_sIs]
  have b2 : gI (sI (sI (sI (sI G f' 0 (nI C)) f' 1 (nI R)) f' 2 (nI E)) f' 3 (nI K)) f' 2 = nI E := by rw [gI_sIk (by omega), gI_sIs]
  have b3 : gI (sI (sI (sI (sI G f' 0 (nI C)) f' 1 (nI R)) f' 2 (nI E)) f' 3 (nI K)) f' 3 = nI K := gI_sIs _ _ _ _
  generalize (sI (sI (sI (sI G f' 0 (nI C)) f' 1 (nI R)) f' 2 (nI E)) f' 3 (nI K)) = GA at FA b0 b1 b2 b3 ⊢
  have FB : bh_F (fun a _ => f' ≤ a ∧ a ≤ f' + 7) G (cpI GA (f + 1) 0 (f' + 1) 0 5) := bh_Fc FA (fun k _ => by omega)
  have n0 : ∀ q, gI (cpI GA (f + 1) 0 (f' + 1) 0 5) f' q = gI GA f' q := fun q => by rw [gI_cpI, if_neg (by omega)]
  obtain ⟨G', e, p, F⟩ := bh_settle (G := cpI GA (f + 1) 0 (f' + 1) 0 5) (f := f') (z := z) hC hR hRK hE hK hz ((n0 0).trans b0) ((n0 1).trans b1) ((n0 2).trans b2) ((n0 3).trans b3) (fun k hk => by rw [gI_cpI, if_pos ⟨rfl, by omega⟩, FA.1 _ _ (by omega)]; exact gz k hk)
  rw [e, ov_s]
  exact ⟨G', rfl, p, bh_Ft FB (bh_Fm F (fun a q h => by unfold bh_WF at h; omega))⟩
/-- all of the class's hall but its form -/
theorem c_copyRest {G : GM} {h h' mm : Nat} (hdis : h + 21 < h' ∨ h' + 21 < h) (hmm : mm ≤ 8) (e5 : gI G h 5 = nI mm) {Gf : GM} (ef : f_X4_copyFrom (h' + 1) (h + 1) G = some Gf) (Ff : bh_F (fun a _ => h' + 1 ≤ a ∧ a ≤ h' + 8) G Gf) : ∃ G', f_X5_copyFrom h' h G = some G' ∧ gI G' h' 1 = gI G h 1 ∧ gI G' h' 3 = gI G h 3 ∧ gI G' h' 4 = gI G h 4 ∧ gI G' h' 5 = gI G h 5 ∧ (∀ k, k < 3 → gI G' (h' + 9) k = gI G (h + 9) k) ∧ (∀ k, k < 8 → gI G' (h' + 10) k = gI G (h + 10) k) ∧ (∀ i k, i < mm → k < 45 → gI G' (h' + 12 + i) k = gI G (h + 12 + i) k) ∧ (∀ k, k < 45 → gI G' (h' + 20) k = gI G (h + 20) k) ∧ (∀ k, k < 46 → gI G' (h' + 21) k = gI G (h + 21) k) ∧ bh_F (fun a q => a = h' ∨ (h' + 9 ≤ a ∧ a ≤ h' + 21)) Gf G' := by
  have src : ∀ {G1 : GM}, bh_F (fun a _ => h' ≤ a ∧ a ≤ h' + 21) G G1 → ∀ a q, h ≤ a → a ≤ h + 21 → gI G1 a q = gI G a q := fun F a q h1 h2 => F.1 _ _ (by omega)
  have c0 : (0 : Int32).toNatClampNeg = 0 := by decide
  unfold f_X5_copyFrom
  rw [ef, ov_s, lt_r, show acp (0 : Int32) 0 3 3 3 = true from by decide, gd_t, lt_r, lt_r, lt_r, lt_r, show acp (0 : Int32) 0 8 8 8 = true from by decide, gd_t, lt_r, c0, show (3 : Int32).toNatClampNeg = 3 from by decide, show (8 : Int32).toNatClampNeg = 8 from by decide]
  obtain ⟨G1, g1⟩ : ∃ G1, G1 = sI Gf h' 1 (gI Gf h 1) := ⟨_, rfl⟩
  rw [← g1]
  obtain ⟨G2, g2⟩ : ∃ G2, G2 = cpI G1 (h + 9) 0 (h' + 9) 0 3 := ⟨_, rfl⟩
  rw [← g2]
  obtain ⟨G3, g3⟩ : ∃ G3, G3 = sI G2 h' 3 (gI G2 h 3) := ⟨_, rfl⟩
  rw [← g3]
  obtain ⟨G4, g4⟩ : ∃ G4, G4 = sI G3 h' 4 (gI G3 h 4) := ⟨_, rfl⟩
  rw [← g4]
  obtain ⟨G5, g5⟩ : ∃ G5, G5 = sI G4 h' 5 (gI G4 h 5) := ⟨_, rfl⟩
  rw [← g5]
  obtain ⟨G6, g6⟩ : ∃ G6, G6 = cpI G5 (h + 10) 0 (h' + 10) 0 8 := ⟨_, rfl⟩
  rw [← g6]
  have Ff' : bh_F (fun a _ => h' ≤ a ∧ a ≤ h' + 21) G Gf := bh_Fm Ff (fun a q hh => by omega)
  have W1 : bh_F (fun a _ => a = h' ∨ (h' + 9 ≤ a ∧ a ≤ h' + 21)) Gf G1 := by rw [g1]; exact bh_FI (bh_Fr _ _) (Or.inl rfl)
  have W2 : bh_F (fun a _ => a = h' ∨ (h' + 9 ≤ a ∧ a ≤ h' + 21)) Gf G2 := by rw [g2]; exact bh_Fc W1 (fun k _ => by omega)
  have W3 : bh_F (fun a _ => a = h' ∨ (h' + 9 ≤ a ∧ a ≤ h' + 21)) Gf G3 := by rw [g3]; exact bh_FI W2 (Or.inl rfl)
  have W4 : bh_F (fun a _ => a = h' ∨ (h' + 9 ≤ a ∧ a ≤ h' + 21)) Gf G4 := by rw [g4]; exact bh_FI W3 (Or.inl rfl)
  have W5 : bh_F (fun a _ => a = h' ∨ (h' + 9 ≤ a ∧ a ≤ h' + 21)) Gf G5 := by rw [g5]; exact bh_FI W4 (Or.inl rfl)
  have W6 : bh_F (fun a _ => a = h' ∨ (h' + 9 ≤ a ∧ a ≤ h' + 21)) Gf G6 := by rw [g6]; exact bh_Fc W5 (fun k _ => by omega)
  have up : ∀ {Gx : GM}, bh_F (fun a _ => a = h' ∨ (h' + 9 ≤ a ∧ a ≤ h' + 21)) Gf Gx → bh_F (fun a _ => h' ≤ a ∧ a ≤ h' + 21) G Gx := fun F => bh_Ft Ff' (bh_Fm F (fun a q hh => by omega))
  have v1 : gI G6 h' 1 = gI G h 1 := by
    rw [g6, gI_cpI, if_neg (by omega), g5, gI_sIk (by omega), g4, gI_sIk (by omega), g3, gI_sIk (by omega), g2, gI_cpI, if_neg (by omega), g1, gI_sIs, src Ff' _ _ (by omega) (by omega)]
  have v3 : gI G6 h' 3 = gI G h 3 := by
    rw [g6, gI_cpI, if_neg (by omega), g5, gI_sIk (by omega), g4, gI_sIk (by omega), g3, gI_sIs, src (up W2) _ _ (by omega) (by omega)]
  have v4 : gI G6 h' 4 = gI G h 4 := by
    rw [g6, gI_cpI, if_neg (by omega), g5, gI_sIk (by omega), g4, gI_sIs, src (up W3) _ _ (by omega) (by omega)]
  have v5 : gI G6 h' 5 = gI G h 5 := by
    rw [g6, gI_cpI, if_neg (by omega), g5, gI_sIs, src (up W4) _ _ (by omega) (by omega)]
  have v9 : ∀ k, k < 3 → gI G6 (h' + 9) k = gI G (h + 9) k := fun k hk => by
    rw [g6, gI_cpI, if_neg (by omega), g5, gI_sIa (by omega), g4, gI_sIa (by omega), g3, gI_sIa (by omega), g2, gI_cpI, if_pos ⟨rfl, hk⟩, src (up W1) _ _ (by omega) (by omega)]
  have v10 : ∀ k, k < 8 → gI G6 (h' + 10) k = gI G (h + 10) k := fun k hk => by
    rw [g6, gI_cpI, if_pos ⟨rfl, hk⟩, src (up W5) _ _ (by omega) (by omega)]
  clear g1 g2 g3 g4 g5 g6 W1 W2 W3 W4 W5
  refine wl1_up (P := fun o => ∃ G', o = some G' ∧ gI G' h' 1 = gI G h 1 ∧ gI G' h' 3 = gI G h 3 ∧ gI G' h' 4 = gI G h 4 ∧ gI G' h' 5 = gI G h 5 ∧ (∀ k, k < 3 → gI G' (h' + 9) k = gI G (h + 9) k) ∧ (∀ k, k < 8 → gI G' (h' + 10) k = gI G (h + 10) k) ∧ (∀ i k, i < mm → k < 45 → gI G' (h' + 12 + i) k = gI G (h + 12 + i) k) ∧ (∀ k, k < 45 → gI G' (h' + 20) k = gI G (h + 20) k) ∧ (∀ k, k < 46 → gI G' (h' + 21) k = gI G (h + 21) k) ∧ bh_F (fun a q => a = h' ∨ (h' + 9 ≤ a ∧ a ≤ h' + 21)) Gf G') (I := fun i G7 => (∀ j k, j < i → k < 45 → gI G7 (h' + 12 + j) k = gI G (h + 12 + j) k) ∧ bh_F (fun a _ => h' + 12 ≤ a ∧ a < h' + 12 + mm) G6 G7) (N := mm) (by omega) ?_ (n := FU) (i := 0) (Nat.zero_le _) ⟨fun j k hj => absurd hj (Nat.not_lt_zero _), bh_Fr _ _⟩ (by unfold FU; omega)
  rintro kc i G7 hi' ⟨q7, F7⟩ hk
  have F7' : bh_F (fun a _ => a = h' ∨ (h' + 9 ≤ a ∧ a ≤ h' + 21)) Gf G7 := bh_Ft W6 (bh_Fm F7 (fun a q hh => by omega))
  unfold lp_X5_copyFrom_74
  have ev5 : gI G7 h' 5 = nI mm := by rw [F7.1 _ _ (by omega), v5, e5]
  rw [ev5]
  by_cases hi : i < mm
  · rw [if_neg (nI_ge hi (by omega)), inb_n (by omega) (by omega), gd_t, gd_t, show acp (0 : Int32) 0 45 45 45 = true from by decide, gd_t, lt_r, nI_clamp (by omega), c0, show (45 : Int32).toNatClampNeg = 45 from by decide, nI_1]
    refine hk hi _ ⟨fun j k hj hk => ?_, bh_Fc (b := h' + 12 + i) F7 (fun k _ => (by omega : h' + 12 ≤ h' + 12 + i ∧ h' + 12 + i < h' + 12 + mm))⟩
    rw [gI_cpI]
    by_cases hji : j = i
    · rw [hji, if_pos ⟨rfl, hk⟩, src (up F7') _ _ (by omega) (by omega)]
    · rw [if_neg (fun q => hji (by omega))]; exact q7 j k (by omega) hk
  · have hi2 : i = mm := by omega
    subst hi2
    rw [if_pos (nI_le (by omega) (by omega)), show acp (0 : Int32) 0 45 45 45 = true from by decide, gd_t, lt_r, show acp (0 : Int32) 0 46 46 46 = true from by decide, gd_t, lt_r, c0, show (45 : Int32).toNatClampNeg = 45 from by decide, show (46 : Int32).toNatClampNeg = 46 from by decide]
    have F8 : bh_F (fun a _ => a = h' ∨ (h' + 9 ≤ a ∧ a ≤ h' + 21)) Gf (cpI G7 (h + 20) 0 (h' + 20) 0 45) := bh_Fc F7' (fun k _ => by omega)
    have k9 : ∀ a q, a ≤ h' + 19 → gI (cpI (cpI G7 (h + 20) 0 (h' + 20) 0 45) (h + 21) 0 (h' + 21) 0 46) a q = gI G7 a q := fun a q ha => by rw [gI_cpI, if_neg (by omega), gI_cpI, if_neg (by omega)]
    refine ⟨_, rfl, ?_, ?_, ?_, ?_, fun k hk => ?_, fun k hk => ?_, fun j k hj hk => ?_, fun k hk => ?_, fun k hk => ?_, bh_Fc F8 (fun k _ => by omega)⟩
    · rw [k9 _ _ (by omega), F7.1 _ _ (by omega), v1]
    · rw [k9 _ _ (by omega), F7.1 _ _ (by omega), v3]
    · rw [k9 _ _ (by omega), F7.1 _ _ (by omega), v4]
    · rw [k9 _ _ (by omega), F7.1 _ _ (by omega), v5]
    · rw [k9 _ _ (by omega), F7.1 _ _ (by omega), v9 k hk]
    · rw [k9 _ _ (by omega), F7.1 _ _ (by omega), v10 k hk]
    · rw [k9 _ _ (by omega)]; exact q7 j k hj hk
    · rw [gI_cpI, if_neg (by omega), gI_cpI, if_pos ⟨rfl, hk⟩, src (up F7') _ _ (by omega) (by omega)]
    · rw [gI_cpI, if_pos ⟨rfl, hk⟩, src (up F8) _ _ (by omega) (by omega)]
theorem c_cpN {G : GM} {h h' : Nat} (hdis : h + 21 < h' ∨ h' + 21 < h) (hN : bh_HN ln C R E K m pu bb z sv cl pr) (hC : bh_HC G h ln C R E K m pu bb z sv cl pr) : ∃ G', f_X5_copyFrom h' h G = some G' ∧ bh_HC G' h' ln C R E K m pu bb z sv cl pr ∧ bh_F (fun a _ => bh_PH h' a) G G' := by
  have hV := hN.2.1
  have h45 := bh_N45 hV
  have hp := hN.2.2.2.2.2.2.2
  obtain ⟨⟨a1, a3, a4, a5⟩, fo, c, d, e⟩ := hC
  obtain ⟨Gf, ef, pf, Ff⟩ := c_copyForm (f := h + 1) (f' := h' + 1) (z := z) (by omega) hV.1.2 hV.2.1.2 (Or.inl hV.2.1.1) hV.2.2.1.2 hV.2.2.2.1.2 (fun k hk => (hV.2.2.2.2.2.1 k hk).2) fo.1.1 fo.1.2.1 fo.1.2.2.1 fo.1.2.2.2 (fun k hk => (fo.2.2.1 k hk).1)
  obtain ⟨G', e', b1, b3, b4, b5, b9, b10, b12, b20, b21, F'⟩ := c_copyRest hdis hN.2.2.1 a5 ef (bh_Fm Ff (fun a q hh => by omega))
  refine ⟨G', e', ⟨⟨b1.trans a1, b3.trans a3, b4.trans a4, b5.trans a5⟩, bh_FO_F pf F' (fun a q h1 h2 => by omega), fun k hk => (b9 k hk).trans (c k hk), fun i hi => ⟨(b10 i (by have := hN.2.2.1; omega)).trans (d i hi).1, bh_SC_of hV (d i hi).2 (fun k hk => b12 i k hi hk)⟩, fun i hi => ⟨(b20 i (by omega)).trans (e i hi).1, (b21 _ (by have := (hp.1 i hi).2; omega)).trans (e i hi).2⟩⟩, bh_Ft (bh_Fm Ff (fun a q hh => by unfold bh_PH; omega)) (bh_Fm F' (fun a q hh => by unfold bh_PH; omega))⟩
theorem c_cp0 {G : GM} {h h' : Nat} (hdis : h + 21 < h' ∨ h' + 21 < h) (h1 : gI G h 1 = 0 ∧ gI G h 3 = 0 ∧ gI G h 4 = 0 ∧ gI G h 5 = 0) (h2 : ∀ k, k < 4 → gI G (h + 1) k = 0) : ∃ G', f_X5_copyFrom h' h G = some G' ∧ (gI G' h' 1 = 0 ∧ gI G' h' 3 = 0 ∧ gI G' h' 4 = 0 ∧ gI G' h' 5 = 0) ∧ (∀ k, k < 4 → gI G' (h' + 1) k = 0) ∧ bh_F (fun a _ => bh_PH h' a) G G' := by
  obtain ⟨Gf, ef, pf, Ff⟩ := c_copyForm (G := G) (f := h + 1) (f' := h' + 1) (C := 0) (R := 0) (E := 0) (K := 0) (z := fun _ => 0) (by omega) (by omega) (by omega) (Or.inr rfl) (by omega) (by omega) (fun k hk => absurd hk (Nat.not_lt_zero _)) (h2 0 (by omega)) (h2 1 (by omega)) (h2 2 (by omega)) (h2 3 (by omega)) (fun k hk => absurd hk (Nat.not_lt_zero _))
  obtain ⟨G', e', b1, b3, b4, b5, b9, b10, b12, b20, b21, F'⟩ := c_copyRest (mm := 0) hdis (by omega) h1.2.2.2 ef (bh_Fm Ff (fun a q hh => by omega))
  refine ⟨G', e', ⟨b1.trans h1.1, b3.trans h1.2.1, b4.trans h1.2.2.1, b5.trans h1.2.2.2⟩, fun k hk => ?_, bh_Ft (bh_Fm Ff (fun a q hh => by unfold bh_PH; omega)) (bh_Fm F' (fun a q hh => by unfold bh_PH; omega))⟩
  rw [F'.1 _ _ (by omega)]
  rcases (by omega : k = 0 ∨ k = 1 ∨ k = 2 ∨ k = 3) with rfl | rfl | rfl | rfl
  · exact pf.1.1
  · exact pf.1.2.1
  · exact pf.1.2.2.1
  · exact pf.1.2.2.2
/-- a hall is copied on both sides -/
theorem bh_HR_cp {G : GM} {h h' a b : Nat} (hdis : h + 21 < h' ∨ h' + 21 < h) (hh : h + 21 < 186) (hh' : h' + 21 < 186) (ha : a < 6) (hb : b < 6) (hab : a ≠ b) (hH : bh_HR G h a) : ∃ G1, f_X5_copyFrom h' h G = some G1 ∧ bh_F (fun a _ => bh_PH h' a) G G1 ∧ ∀ G1', bh_F (fun a q => (a = 186 ∧ q = 0) ∨ a = 46) G1 G1' → (46 < h' ∨ h' + 21 < 46) → ∃ G2, f_X10_copyHall (nI a) (nI b) G1' = some G2 ∧ bh_HR G2 h' b ∧ bh_F (bh_PM b) G1' G2 := by
  rcases hH with h0 | ⟨ln, C, R, E, K, m, pu, bb, z, sv, cl, pr, hN, hC, hM⟩
  · obtain ⟨G1, e1, p1, p2, F1⟩ := c_cp0 hdis h0.1 h0.2.1
    refine ⟨G1, e1, F1, fun G1' F1' hne => ?_⟩
    obtain ⟨G2, e2, c2, F2⟩ := m_copyHall (G := G1') ha hb hab
    have kc : ∀ x q, h' ≤ x → x ≤ h' + 21 → gI G2 x q = gI G1 x q := fun x q h1 h2 => by rw [F2.1 _ _ (by unfold bh_PM; omega), F1'.1 _ _ (by omega)]
    have km : ∀ x q, bh_PM a x q → gI G1' x q = gI G x q := fun x q h1 => by unfold bh_PM at h1; rw [F1'.1 _ _ (by omega), F1.1 _ _ (by unfold bh_PH; omega)]
    refine ⟨G2, e2, Or.inl ⟨⟨?_, ?_, ?_, ?_⟩, fun k hk => ?_, ?_, fun k hk => ?_⟩, F2⟩
    · rw [kc _ _ (by omega) (by omega)]; exact p1.1
    · rw [kc _ _ (by omega) (by omega)]; exact p1.2.1
    · rw [kc _ _ (by omega) (by omega)]; exact p1.2.2.1
    · rw [kc _ _ (by omega) (by omega)]; exact p1.2.2.2
    · rw [kc _ _ (by omega) (by omega)]; exact p2 k hk
    · rw [c2.1, km _ _ (by unfold bh_PM; omega)]; exact h0.2.2.1
    · rw [c2.2.1 k (by omega), km _ _ (by unfold bh_PM; omega)]; exact h0.2.2.2 k hk
  · have h45 := bh_N45 hN.2.1
    have hK := hN.2.1.2.2.2.1.2
    obtain ⟨G1, e1, p1, F1⟩ := c_cpN hdis hN hC
    refine ⟨G1, e1, F1, fun G1' F1' hne => ?_⟩
    obtain ⟨G2, e2, c2, F2⟩ := m_copyHall (G := G1') ha hb hab
    have hM1 : bh_HM G1' a ln C R E K m pu bb z sv cl pr := bh_HM_F hN.2.2.1 h45 hK hM (bh_Ft (bh_Fm (W' := fun x q => x < 186 ∨ (x = 186 ∧ q = 0)) F1 (fun x q h => by unfold bh_PH at h; omega)) (bh_Fm F1' (fun x q h => by omega))) (fun x q h => by unfold bh_PM at h; omega)
    have hC1 : bh_HC G2 h' ln C R E K m pu bb z sv cl pr := bh_HC_F hN.2.2.1 p1 (bh_Ft (bh_Fm (W' := fun x q => x = 46 ∨ 186 ≤ x) F1' (fun x q h => by omega)) (bh_Fm F2 (fun x q h => by unfold bh_PM at h; omega))) (fun x q h => by unfold bh_PH at h; omega)
    exact ⟨G2, e2, Or.inr ⟨ln, C, R, E, K, m, pu, bb, z, sv, cl, pr, hN, hC1, bh_HM_cp hN.2.2.1 h45 hK hM1 c2⟩, F2⟩
end CP
/-- what keep writes -/
def bh_WI (k a q : Nat) : Prop := bh_SCR a q ∨ bh_PH (120 + 22 * k) a ∨ bh_PM (1 + k) a q ∨ (a = 46 ∧ q = k) ∨ (a = 198 ∧ q = k)
theorem bh_R_I {G G' : GM} {k0 : Nat} (hk0 : k0 < 3) (h : bh_R G) (hF : bh_F (bh_WI k0) G G') (a46 : gI G' 46 k0 = 1) (a198 : gI G' 198 k0 = 1) (hH : bh_HR G' (120 + 22 * k0) (1 + k0)) : bh_R G' := by
  have hh := bh_nwc h
  obtain ⟨h1, h2, h3, h4, h5, h6⟩ := h
  refine ⟨bh_RS_F h1 hF (fun a q h => by unfold bh_WI bh_SCR bh_PH bh_PM; omega), bh_RT_F h2 hF (fun a q h => by unfold bh_WI bh_SCR bh_PH bh_PM; omega), bh_RF_F h3 hF (fun a q h => by unfold bh_WI bh_SCR bh_PH bh_PM; omega), ?_, ?_, fun k hk => ?_⟩
  · rw [hF.2.2.1, hF.2.2.2]; exact h4
  · rw [hF.2.2.1]
    exact bh_HR_F h5 hF (fun a q h => by unfold bh_PH at h; unfold bh_WI bh_SCR bh_PH bh_PM; omega) (fun a q h => by unfold bh_PM at h; unfold bh_WI bh_SCR bh_PH bh_PM; omega)
  · by_cases hkk : k = k0
    · subst hkk
      exact Or.inr ⟨a46, a198, hH⟩
    · rw [hF.1 46 k (by unfold bh_WI bh_SCR bh_PH bh_PM; omega), hF.1 198 k (by unfold bh_WI bh_SCR bh_PH bh_PM; omega)]
      rcases h6 k hk with h | ⟨g1, g2, g3⟩
      · exact Or.inl h
      · exact Or.inr ⟨g1, g2, bh_HR_F g3 hF (fun a q h => by unfold bh_PH at h; unfold bh_WI bh_SCR bh_PH bh_PM; omega) (fun a q h => by unfold bh_PM at h; unfold bh_WI bh_SCR bh_PH bh_PM; omega)⟩
theorem q_keep (x1 : Int32) : bh_Qy (f_X9_keep x1) (f_X10_keep x1) := by
  intro G hR
  have hh := bh_nwc hR
  rcases bh_cls (x := x1) (p := fun j => j < 3) with ⟨k, hk, rfl⟩ | nk
  rotate_left
  · exact bh_qy hR (v := (-2 : Int32)) (by unfold f_X9_keep; rw [pE0 (M := 3) (n := 3) rfl (by omega) nk]) (by unfold f_X10_keep; rw [lt_r, m_in0 (l := 0) (b := 2) (by decide) (by decide) (fun j _ _ h he => nk ⟨j, by omega, he⟩), ob_s, bh_i0]) (bh_Fr _ _) (bh_thr G)
  obtain ⟨G1, e1, F1, cont⟩ := bh_HR_cp (h := nw G) (h' := 120 + 22 * k) (a := 0) (b := 1 + k) (by omega) (by omega) (by omega) (by omega) (by omega) (by omega) hR.2.2.2.2.1
  obtain ⟨G2, e2, H2, F2⟩ := cont (sI (sI G1 46 k 1) 186 0 0) (bh_FI (bh_FI (bh_Fr _ _) (Or.inr rfl)) (Or.inl ⟨rfl, rfl⟩)) (by omega)
  have FA : bh_F (bh_WI k) G (sI G2 198 k 1) := bh_FI (bh_Ft (bh_FI (bh_FI (bh_Fm F1 (fun a q h => Or.inr (Or.inl h))) (Or.inr (Or.inr (Or.inr (Or.inl ⟨rfl, rfl⟩))))) (Or.inl (scr_d (by omega)))) (bh_Fm F2 (fun a q h => Or.inr (Or.inr (Or.inl h))))) (Or.inr (Or.inr (Or.inr (Or.inr ⟨rfl, rfl⟩))))
  have vb : vp_nar .boolean (1 : Int32) = 1 := by decide
  refine ⟨(0 : Int32), sI G1 46 k 1, sI G2 198 k 1, ?_, ?_, bh_R_I hk hR FA ?_ (gI_sIs _ _ _ _) ?_⟩
  · unfold f_X9_keep
    rw [if_neg (nI_pos (by omega)), show (3 : Int32) = nI 3 from rfl, if_pos (nI_lt hk (by omega)), inb_n hk (by omega), gd_t, nI_clamp (by omega), e1, ov_s, gd_t, vb, lt_r]
  · unfold f_X10_keep
    rw [lt_r, m_in1 (l := 0) (b := 2) (by omega) (by decide) (by decide) (by omega) (by omega), ob_s, bh_i1, show (1 : Int32) + nI k = nI (1 + k) from nI_add 1 k, show f_X10_copyHall (0 : Int32) (nI (1 + k)) (sI (sI G1 46 k 1) 186 0 0) = _ from e2, ov_s, inb_n hk (by omega), gd_t, nI_clamp (by omega), vb, lt_r]
  · rw [gI_sIa (by omega), F2.1 _ _ (by unfold bh_PM; omega), gI_sIa (by omega), gI_sIs]
  · exact bh_HR_F H2 (W := fun a q => a = 198) (bh_FI (bh_Fr _ _) rfl) (fun a q h => by unfold bh_PH at h; omega) (fun a q h => by unfold bh_PM at h; omega)
theorem q_back (x1 : Int32) : bh_Qy (f_X9_back x1) (f_X10_back x1) := by
  intro G hR
  have hh := bh_nwc hR
  rcases bh_cls (x := x1) (p := fun j => j < 3) with ⟨k, hk, rfl⟩ | nk
  rotate_left
  · exact bh_qy hR (v := (-2 : Int32)) (by unfold f_X9_back; rw [pE0 (M := 3) (n := 3) rfl (by omega) nk]) (by unfold f_X10_back; rw [lt_r, m_in0 (l := 0) (b := 2) (by decide) (by decide) (fun j _ _ h he => nk ⟨j, by omega, he⟩), ob_s, bh_i0]) (bh_Fr _ _) (bh_thr G)
  rcases hR.2.2.2.2.2 k hk with ⟨g1, g2⟩ | ⟨g1, g2, g3⟩
  · exact bh_qy hR (v := (-6 : Int32)) (by unfold f_X9_back; rw [if_neg (nI_pos (by omega)), show (3 : Int32) = nI 3 from rfl, if_pos (nI_lt hk (by omega)), inb_n hk (by omega), gd_t, nI_clamp (by omega), g1, if_pos rfl]) (by unfold f_X10_back; rw [lt_r, m_in1 (l := 0) (b := 2) (by omega) (by decide) (by decide) (by omega) (by omega), ob_s, bh_i1, inb_n hk (by omega), gd_t, nI_clamp (by omega), gI_sIa (by omega), g2, if_pos rfl]) (bh_Fr _ _) (bh_thr G)
  obtain ⟨G1, e1, F1, cont⟩ := bh_HR_cp (h := 120 + 22 * k) (h' := nw G) (a := 1 + k) (b := 0) (by omega) (by omega) (by omega) (by omega) (by omega) (by omega) g3
  obtain ⟨G2, e2, H2, F2⟩ := cont (sI G1 186 0 0) (bh_FI (bh_Fr _ _) (Or.inl ⟨rfl, rfl⟩)) (by omega)
  have FA : bh_F (bh_WN (nw G)) G G2 := bh_Ft (bh_FI (bh_Fm F1 (fun a q h => Or.inr (Or.inl h))) (Or.inl (scr_d (by omega)))) (bh_Fm F2 (fun a q h => Or.inr (Or.inr h)))
  have g2' : gI (sI G1 186 0 0) 198 k = 1 := by rw [gI_sIa (by omega), F1.1 _ _ (by unfold bh_PH; omega)]; exact g2
  refine ⟨(0 : Int32), G1, G2, ?_, ?_, bh_R_N hR FA H2⟩
  · unfold f_X9_back
    rw [if_neg (nI_pos (by omega)), show (3 : Int32) = nI 3 from rfl, if_pos (nI_lt hk (by omega)), inb_n hk (by omega), gd_t, nI_clamp (by omega), g1, if_neg (by decide), gd_t, e1, ov_s]
  · unfold f_X10_back
    rw [lt_r, m_in1 (l := 0) (b := 2) (by omega) (by decide) (by decide) (by omega) (by omega), ob_s, bh_i1, inb_n hk (by omega), gd_t, nI_clamp (by omega), g2', if_neg (by decide), show (1 : Int32) + nI k = nI (1 + k) from nI_add 1 k, show f_X10_copyHall (nI (1 + k)) (0 : Int32) (sI G1 186 0 0) = _ from e2, ov_s]
