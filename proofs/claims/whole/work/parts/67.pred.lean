/-! what there is: the class's and the reference's tests of arguments -/
theorem c_isHall {G : GM} {h ln C R E K m pu bb : Nat} {z sv cl pr : Nat → Nat} (hn : nw G = h) (hN : bh_HN ln C R E K m pu bb z sv cl pr) (hc : bh_HC G h ln C R E K m pu bb z sv cl pr) : f_X9_isHall G = some (1, G) := by
  have h1 := hN.1
  unfold f_X9_isHall
  rw [hn, hc.1.1, if_neg (nI_nle (by omega) (by omega))]
theorem c_noHall {G : GM} {h w : Nat} (hn : nw G = h) (h0 : bh_H0 G h w) : f_X9_isHall G = some (0, G) := by
  unfold f_X9_isHall
  rw [hn, h0.1.1, if_pos (by decide)]
theorem m_isHall {G : GM} {ln C R E K m pu bb : Nat} {z sv cl pr : Nat → Nat} (hN : bh_HN ln C R E K m pu bb z sv cl pr) (hc : bh_HM G 0 ln C R E K m pu bb z sv cl pr) : f_X10_isHall G = some (1, G) := by
  have h1 := hN.1
  unfold f_X10_isHall
  rw [show inb (0 : Int32) 6 = true from by decide, gd_t, show (0 : Int32).toNatClampNeg = 0 from by decide, hc.1.1, if_neg (nI_nle (by omega) (by omega))]
theorem m_noHall {G : GM} {h : Nat} (h0 : bh_H0 G h 0) : f_X10_isHall G = some (0, G) := by
  unfold f_X10_isHall
  rw [show inb (0 : Int32) 6 = true from by decide, gd_t, show (0 : Int32).toNatClampNeg = 0 from by decide, h0.2.2.1, if_pos (by decide)]
theorem c_isSerial1 {G : GM} {h ln C R E K m pu bb : Nat} {z sv cl pr : Nat → Nat} (hn : nw G = h) (hN : bh_HN ln C R E K m pu bb z sv cl pr) (hc : bh_HC G h ln C R E K m pu bb z sv cl pr) {j : Nat} (hj : j < 10000) : f_X9_isSerial (nI j) G = some (1, G) := by
  have hV := hN.2.1
  have h45 := bh_N45 hV
  obtain ⟨hC, hR, hE, hK, -, -, -, -⟩ := hV
  have hm := hN.2.2.1
  unfold f_X9_isSerial
  rw [c_isHall hn hN hc, ob_s, bh_i1, show (9999 : Int32) = nI 9999 from rfl]
  exact pB1 (by omega) (by omega)
theorem c_isSerial0 {G : GM} {h ln C R E K m pu bb : Nat} {z sv cl pr : Nat → Nat} (hn : nw G = h) (hN : bh_HN ln C R E K m pu bb z sv cl pr) (hc : bh_HC G h ln C R E K m pu bb z sv cl pr) {x : Int32} (hx : ¬ ∃ j, j < 10000 ∧ x = nI j) : f_X9_isSerial x G = some (0, G) := by
  have hV := hN.2.1
  have h45 := bh_N45 hV
  obtain ⟨hC, hR, hE, hK, -, -, -, -⟩ := hV
  have hm := hN.2.2.1
  unfold f_X9_isSerial
  rw [c_isHall hn hN hc, ob_s, bh_i1, show (9999 : Int32) = nI 9999 from rfl]
  exact pB0 (by omega) (by simpa using hx)
theorem c_isSerialN {G : GM} {h w : Nat} (hn : nw G = h) (h0 : bh_H0 G h w) (x : Int32) : f_X9_isSerial x G = some (0, G) := by
  unfold f_X9_isSerial
  rw [c_noHall hn h0, ob_s, bh_i0]
theorem c_isCard1 {G : GM} {h ln C R E K m pu bb : Nat} {z sv cl pr : Nat → Nat} (hn : nw G = h) (hN : bh_HN ln C R E K m pu bb z sv cl pr) (hc : bh_HC G h ln C R E K m pu bb z sv cl pr) {j : Nat} (hj : j < C) : f_X9_isCard (nI j) G = some (1, G) := by
  have hV := hN.2.1
  have h45 := bh_N45 hV
  obtain ⟨hC, hR, hE, hK, -, -, -, -⟩ := hV
  have hm := hN.2.2.1
  unfold f_X9_isCard
  rw [c_isHall hn hN hc, ob_s, bh_i1, hn, hc.2.1.1.1]
  exact pA1 hj (by omega)
theorem c_isCard0 {G : GM} {h ln C R E K m pu bb : Nat} {z sv cl pr : Nat → Nat} (hn : nw G = h) (hN : bh_HN ln C R E K m pu bb z sv cl pr) (hc : bh_HC G h ln C R E K m pu bb z sv cl pr) {x : Int32} (hx : ¬ ∃ j, j < C ∧ x = nI j) : f_X9_isCard x G = some (0, G) := by
  have hV := hN.2.1
  have h45 := bh_N45 hV
  obtain ⟨hC, hR, hE, hK, -, -, -, -⟩ := hV
  have hm := hN.2.2.1
  unfold f_X9_isCard
  rw [c_isHall hn hN hc, ob_s, bh_i1, hn, hc.2.1.1.1]
  exact pA0 (by omega) hx
theorem c_isCardN {G : GM} {h w : Nat} (hn : nw G = h) (h0 : bh_H0 G h w) (x : Int32) : f_X9_isCard x G = some (0, G) := by
  unfold f_X9_isCard
  rw [c_noHall hn h0, ob_s, bh_i0]
theorem c_isColumn1 {G : GM} {h ln C R E K m pu bb : Nat} {z sv cl pr : Nat → Nat} (hn : nw G = h) (hN : bh_HN ln C R E K m pu bb z sv cl pr) (hc : bh_HC G h ln C R E K m pu bb z sv cl pr) {j : Nat} (hj : j < K) : f_X9_isColumn (nI j) G = some (1, G) := by
  have hV := hN.2.1
  have h45 := bh_N45 hV
  obtain ⟨hC, hR, hE, hK, -, -, -, -⟩ := hV
  have hm := hN.2.2.1
  unfold f_X9_isColumn
  rw [c_isHall hn hN hc, ob_s, bh_i1, hn, hc.2.1.1.2.2.2]
  exact pA1 hj (by omega)
theorem c_isColumn0 {G : GM} {h ln C R E K m pu bb : Nat} {z sv cl pr : Nat → Nat} (hn : nw G = h) (hN : bh_HN ln C R E K m pu bb z sv cl pr) (hc : bh_HC G h ln C R E K m pu bb z sv cl pr) {x : Int32} (hx : ¬ ∃ j, j < K ∧ x = nI j) : f_X9_isColumn x G = some (0, G) := by
  have hV := hN.2.1
  have h45 := bh_N45 hV
  obtain ⟨hC, hR, hE, hK, -, -, -, -⟩ := hV
  have hm := hN.2.2.1
  unfold f_X9_isColumn
  rw [c_isHall hn hN hc, ob_s, bh_i1, hn, hc.2.1.1.2.2.2]
  exact pA0 (by omega) hx
theorem c_isColumnN {G : GM} {h w : Nat} (hn : nw G = h) (h0 : bh_H0 G h w) (x : Int32) : f_X9_isColumn x G = some (0, G) := by
  unfold f_X9_isColumn
  rw [c_noHall hn h0, ob_s, bh_i0]
theorem c_isKind1 {G : GM} {h ln C R E K m pu bb : Nat} {z sv cl pr : Nat → Nat} (hn : nw G = h) (hN : bh_HN ln C R E K m pu bb z sv cl pr) (hc : bh_HC G h ln C R E K m pu bb z sv cl pr) {j : Nat} (hj : j < 3) : f_X9_isKind (nI j) G = some (1, G) := by
  have hV := hN.2.1
  have h45 := bh_N45 hV
  obtain ⟨hC, hR, hE, hK, -, -, -, -⟩ := hV
  have hm := hN.2.2.1
  unfold f_X9_isKind
  rw [c_isHall hn hN hc, ob_s, bh_i1, show (3 : Int32) = nI 3 from rfl]
  exact pA1 hj (by omega)
theorem c_isKind0 {G : GM} {h ln C R E K m pu bb : Nat} {z sv cl pr : Nat → Nat} (hn : nw G = h) (hN : bh_HN ln C R E K m pu bb z sv cl pr) (hc : bh_HC G h ln C R E K m pu bb z sv cl pr) {x : Int32} (hx : ¬ ∃ j, j < 3 ∧ x = nI j) : f_X9_isKind x G = some (0, G) := by
  have hV := hN.2.1
  have h45 := bh_N45 hV
  obtain ⟨hC, hR, hE, hK, -, -, -, -⟩ := hV
  have hm := hN.2.2.1
  unfold f_X9_isKind
  rw [c_isHall hn hN hc, ob_s, bh_i1, show (3 : Int32) = nI 3 from rfl]
  exact pA0 (by omega) hx
theorem c_isKindN {G : GM} {h w : Nat} (hn : nw G = h) (h0 : bh_H0 G h w) (x : Int32) : f_X9_isKind x G = some (0, G) := by
  unfold f_X9_isKind
  rw [c_noHall hn h0, ob_s, bh_i0]
theorem c_isPlace1 {G : GM} {h ln C R E K m pu bb : Nat} {z sv cl pr : Nat → Nat} (hn : nw G = h) (hN : bh_HN ln C R E K m pu bb z sv cl pr) (hc : bh_HC G h ln C R E K m pu bb z sv cl pr) {j : Nat} (hj : j < m) : f_X9_isPlace (nI j) G = some (1, G) := by
  have hV := hN.2.1
  have h45 := bh_N45 hV
  obtain ⟨hC, hR, hE, hK, -, -, -, -⟩ := hV
  have hm := hN.2.2.1
  unfold f_X9_isPlace
  rw [c_isHall hn hN hc, ob_s, bh_i1, hn, hc.1.2.2.2]
  exact pA1 hj (by omega)
theorem c_isPlace0 {G : GM} {h ln C R E K m pu bb : Nat} {z sv cl pr : Nat → Nat} (hn : nw G = h) (hN : bh_HN ln C R E K m pu bb z sv cl pr) (hc : bh_HC G h ln C R E K m pu bb z sv cl pr) {x : Int32} (hx : ¬ ∃ j, j < m ∧ x = nI j) : f_X9_isPlace x G = some (0, G) := by
  have hV := hN.2.1
  have h45 := bh_N45 hV
  obtain ⟨hC, hR, hE, hK, -, -, -, -⟩ := hV
  have hm := hN.2.2.1
  unfold f_X9_isPlace
  rw [c_isHall hn hN hc, ob_s, bh_i1, hn, hc.1.2.2.2]
  exact pA0 (by omega) hx
theorem c_isPlaceN {G : GM} {h w : Nat} (hn : nw G = h) (h0 : bh_H0 G h w) (x : Int32) : f_X9_isPlace x G = some (0, G) := by
  unfold f_X9_isPlace
  rw [c_noHall hn h0, ob_s, bh_i0]
theorem c_isTime1 {G : GM} {h ln C R E K m pu bb : Nat} {z sv cl pr : Nat → Nat} (hn : nw G = h) (hN : bh_HN ln C R E K m pu bb z sv cl pr) (hc : bh_HC G h ln C R E K m pu bb z sv cl pr) {j : Nat} (hj : j < C * R * E + 1) : f_X9_isTime (nI j) G = some (1, G) := by
  have hV := hN.2.1
  have h45 := bh_N45 hV
  obtain ⟨hC, hR, hE, hK, -, -, -, -⟩ := hV
  have hm := hN.2.2.1
  unfold f_X9_isTime
  rw [c_isHall hn hN hc, ob_s, bh_i1, hn, hc.2.1.2.1.1, hN.2.1.2.2.2.2.2.2.1]
  exact pB1 hj (by omega)
theorem c_isTime0 {G : GM} {h ln C R E K m pu bb : Nat} {z sv cl pr : Nat → Nat} (hn : nw G = h) (hN : bh_HN ln C R E K m pu bb z sv cl pr) (hc : bh_HC G h ln C R E K m pu bb z sv cl pr) {x : Int32} (hx : ¬ ∃ j, j < C * R * E + 1 ∧ x = nI j) : f_X9_isTime x G = some (0, G) := by
  have hV := hN.2.1
  have h45 := bh_N45 hV
  obtain ⟨hC, hR, hE, hK, -, -, -, -⟩ := hV
  have hm := hN.2.2.1
  unfold f_X9_isTime
  rw [c_isHall hn hN hc, ob_s, bh_i1, hn, hc.2.1.2.1.1, hN.2.1.2.2.2.2.2.2.1]
  exact pB0 (by omega) hx
theorem c_isTimeN {G : GM} {h w : Nat} (hn : nw G = h) (h0 : bh_H0 G h w) (x : Int32) : f_X9_isTime x G = some (0, G) := by
  unfold f_X9_isTime
  rw [c_noHall hn h0, ob_s, bh_i0]
theorem c_isNumber1 {G : GM} {h ln C R E K m pu bb : Nat} {z sv cl pr : Nat → Nat} (hn : nw G = h) (hN : bh_HN ln C R E K m pu bb z sv cl pr) (hc : bh_HC G h ln C R E K m pu bb z sv cl pr) {j : Nat} (hj : 1 ≤ j ∧ j < C * R * E + 1) : f_X9_isNumber (nI j) G = some (1, G) := by
  have hV := hN.2.1
  have h45 := bh_N45 hV
  obtain ⟨hC, hR, hE, hK, -, -, -, -⟩ := hV
  have hm := hN.2.2.1
  unfold f_X9_isNumber
  rw [c_isHall hn hN hc, ob_s, bh_i1, hn, hc.2.1.2.1.1, hN.2.1.2.2.2.2.2.2.1]
  exact pC1 hj.1 hj.2 (by omega)
theorem c_isNumber0 {G : GM} {h ln C R E K m pu bb : Nat} {z sv cl pr : Nat → Nat} (hn : nw G = h) (hN : bh_HN ln C R E K m pu bb z sv cl pr) (hc : bh_HC G h ln C R E K m pu bb z sv cl pr) {x : Int32} (hx : ¬ ∃ j, (1 ≤ j ∧ j < C * R * E + 1) ∧ x = nI j) : f_X9_isNumber x G = some (0, G) := by
  have hV := hN.2.1
  have h45 := bh_N45 hV
  obtain ⟨hC, hR, hE, hK, -, -, -, -⟩ := hV
  have hm := hN.2.2.1
  unfold f_X9_isNumber
  rw [c_isHall hn hN hc, ob_s, bh_i1, hn, hc.2.1.2.1.1, hN.2.1.2.2.2.2.2.2.1]
  exact pC0 (by omega) (fun ⟨j, a, b, c⟩ => hx ⟨j, ⟨a, b⟩, c⟩)
theorem c_isNumberN {G : GM} {h w : Nat} (hn : nw G = h) (h0 : bh_H0 G h w) (x : Int32) : f_X9_isNumber x G = some (0, G) := by
  unfold f_X9_isNumber
  rw [c_noHall hn h0, ob_s, bh_i0]
theorem m_all {G : GM} {ln C R E K m pu bb : Nat} {z sv cl pr : Nat → Nat} (hN : bh_HN ln C R E K m pu bb z sv cl pr) (hc : bh_HM G 0 ln C R E K m pu bb z sv cl pr) : f_X10_all G = some (nI (C * R * E), G) := by
  unfold f_X10_all
  rw [show (0 : Int32) = nI 0 from rfl, bh_numOf hc.2.1 (by omega), ob_s]
theorem m_isSerial1 {G : GM} {ln C R E K m pu bb : Nat} {z sv cl pr : Nat → Nat} (hN : bh_HN ln C R E K m pu bb z sv cl pr) (hc : bh_HM G 0 ln C R E K m pu bb z sv cl pr) {j : Nat} (hj : j < 10000) : f_X10_isSerial (nI j) G = some (1, G) := by
  unfold f_X10_isSerial
  rw [m_isHall hN hc, ob_s, bh_i1, m_in1 (l := 0) (b := 9999) (by omega) (by decide) (by decide) (by omega) (by omega), ob_s, bh_i1]
theorem m_isSerial0 {G : GM} {ln C R E K m pu bb : Nat} {z sv cl pr : Nat → Nat} (hN : bh_HN ln C R E K m pu bb z sv cl pr) (hc : bh_HM G 0 ln C R E K m pu bb z sv cl pr) {x : Int32} (hx : ¬ ∃ j, j < 10000 ∧ x = nI j) : f_X10_isSerial x G = some (0, G) := by
  unfold f_X10_isSerial
  rw [m_isHall hN hc, ob_s, bh_i1, m_in0 (l := 0) (b := 9999) (by decide) (by decide) (fun j _ _ h he => hx ⟨j, by omega, he⟩), ob_s, bh_i0]
theorem m_isSerialN {G : GM} {h : Nat} (h0 : bh_H0 G h 0) (x : Int32) : f_X10_isSerial x G = some (0, G) := by
  unfold f_X10_isSerial
  rw [m_noHall h0, ob_s, bh_i0]
theorem m_gd0 {α : Type} (p : Option α) : gd (decide ((0 : Int32) = 0 ∨ (0 : Int32) = 1)) p = p := gd_d (Or.inl rfl) p
theorem m_gd1 {α : Type} (p : Option α) : gd (decide ((1 : Int32) = 0 ∨ (1 : Int32) = 1)) p = p := gd_d (Or.inr rfl) p
theorem m_c (k : Nat) (hk : k < 48) : inb (nI k) 48 = true ∧ (nI k).toNatClampNeg = k := ⟨inb_n hk (by omega), nI_clamp (by omega)⟩
theorem m_isCard1 {G : GM} {ln C R E K m pu bb : Nat} {z sv cl pr : Nat → Nat} (hN : bh_HN ln C R E K m pu bb z sv cl pr) (hc : bh_HM G 0 ln C R E K m pu bb z sv cl pr) {j : Nat} (hj : j < C) : f_X10_isCard (nI j) G = some (1, G) := by
  have hV := hN.2.1.1
  have e : gI G 193 0 = nI C := hc.2.1.1
  unfold f_X10_isCard
  rw [show inb (0 : Int32) 48 = true from by decide, gd_t, show (0 : Int32).toNatClampNeg = 0 from by decide, e, m_in1 (l := 0) (b := (C : Int) - 1) (by omega) (by decide) (m1_toInt (by omega)) (by omega) (by omega), ob_s, m_gd1]
theorem m_isCard0 {G : GM} {ln C R E K m pu bb : Nat} {z sv cl pr : Nat → Nat} (hN : bh_HN ln C R E K m pu bb z sv cl pr) (hc : bh_HM G 0 ln C R E K m pu bb z sv cl pr) {x : Int32} (hx : ¬ ∃ j, j < C ∧ x = nI j) : f_X10_isCard x G = some (0, G) := by
  have hV := hN.2.1.1
  have e : gI G 193 0 = nI C := hc.2.1.1
  unfold f_X10_isCard
  rw [show inb (0 : Int32) 48 = true from by decide, gd_t, show (0 : Int32).toNatClampNeg = 0 from by decide, e, m_in0 (l := 0) (b := (C : Int) - 1) (by decide) (m1_toInt (by omega)) (fun j _ _ h he => hx ⟨j, by omega, he⟩), ob_s, m_gd0]
theorem m_isCardN {G : GM} {h : Nat} (h0 : bh_H0 G h 0) (x : Int32) : f_X10_isCard x G = some (0, G) := by
  have e : gI G 193 0 = nI 0 := h0.2.2.2 0 (by omega)
  unfold f_X10_isCard
  rw [show inb (0 : Int32) 48 = true from by decide, gd_t, show (0 : Int32).toNatClampNeg = 0 from by decide, e, m_in0 (l := 0) (b := -1) (by decide) (by decide) (fun j _ _ h he => absurd h (by omega)), ob_s, m_gd0]
theorem m_isColumn1 {G : GM} {ln C R E K m pu bb : Nat} {z sv cl pr : Nat → Nat} (hN : bh_HN ln C R E K m pu bb z sv cl pr) (hc : bh_HM G 0 ln C R E K m pu bb z sv cl pr) {j : Nat} (hj : j < K) : f_X10_isColumn (nI j) G = some (1, G) := by
  have hV := hN.2.1.2.2.2.1
  have e : gI G 193 3 = nI K := hc.2.1.2.2.2.1
  unfold f_X10_isColumn
  rw [show inb (3 : Int32) 48 = true from by decide, gd_t, show (3 : Int32).toNatClampNeg = 3 from by decide, e, m_in1 (l := 0) (b := (K : Int) - 1) (by omega) (by decide) (m1_toInt (by omega)) (by omega) (by omega), ob_s, m_gd1]
theorem m_isColumn0 {G : GM} {ln C R E K m pu bb : Nat} {z sv cl pr : Nat → Nat} (hN : bh_HN ln C R E K m pu bb z sv cl pr) (hc : bh_HM G 0 ln C R E K m pu bb z sv cl pr) {x : Int32} (hx : ¬ ∃ j, j < K ∧ x = nI j) : f_X10_isColumn x G = some (0, G) := by
  have hV := hN.2.1.2.2.2.1
  have e : gI G 193 3 = nI K := hc.2.1.2.2.2.1
  unfold f_X10_isColumn
  rw [show inb (3 : Int32) 48 = true from by decide, gd_t, show (3 : Int32).toNatClampNeg = 3 from by decide, e, m_in0 (l := 0) (b := (K : Int) - 1) (by decide) (m1_toInt (by omega)) (fun j _ _ h he => hx ⟨j, by omega, he⟩), ob_s, m_gd0]
theorem m_isColumnN {G : GM} {h : Nat} (h0 : bh_H0 G h 0) (x : Int32) : f_X10_isColumn x G = some (0, G) := by
  have e : gI G 193 3 = nI 0 := h0.2.2.2 3 (by omega)
  unfold f_X10_isColumn
  rw [show inb (3 : Int32) 48 = true from by decide, gd_t, show (3 : Int32).toNatClampNeg = 3 from by decide, e, m_in0 (l := 0) (b := -1) (by decide) (by decide) (fun j _ _ h he => absurd h (by omega)), ob_s, m_gd0]
theorem m_isKind1 {j : Nat} (hj : j < 3) (G : GM) : f_X10_isKind (nI j) G = some (1, G) := by
  unfold f_X10_isKind
  rw [m_in1 (l := 0) (b := 2) (by omega) (by decide) (by decide) (by omega) (by omega), ob_s, m_gd1]
theorem m_isKind0 {x : Int32} (hx : ¬ ∃ j, j < 3 ∧ x = nI j) (G : GM) : f_X10_isKind x G = some (0, G) := by
  unfold f_X10_isKind
  rw [m_in0 (l := 0) (b := 2) (by decide) (by decide) (fun j _ _ h he => hx ⟨j, by omega, he⟩), ob_s, m_gd0]
theorem m_isNumber1 {G : GM} {ln C R E K m pu bb : Nat} {z sv cl pr : Nat → Nat} (hN : bh_HN ln C R E K m pu bb z sv cl pr) (hc : bh_HM G 0 ln C R E K m pu bb z sv cl pr) {j : Nat} (hj : 1 ≤ j ∧ j < C * R * E + 1) : f_X10_isNumber (nI j).toInt64 G = some (1, G) := by
  have h45 := bh_N45 hN.2.1
  unfold f_X10_isNumber
  rw [m_isHall hN hc, ob_s, bh_i1, m_all hN hc, ob_s, m_in1 (l := 1) (b := (C * R * E : Nat)) (by omega) (by decide) (nI_64 (by omega)) (by omega) (by omega), ob_s, bh_i1]
theorem m_isNumber0 {G : GM} {ln C R E K m pu bb : Nat} {z sv cl pr : Nat → Nat} (hN : bh_HN ln C R E K m pu bb z sv cl pr) (hc : bh_HM G 0 ln C R E K m pu bb z sv cl pr) {x : Int32} (hx : ¬ ∃ j, (1 ≤ j ∧ j < C * R * E + 1) ∧ x = nI j) : f_X10_isNumber x.toInt64 G = some (0, G) := by
  have h45 := bh_N45 hN.2.1
  unfold f_X10_isNumber
  rw [m_isHall hN hc, ob_s, bh_i1, m_all hN hc, ob_s, m_in0 (l := 1) (b := (C * R * E : Nat)) (by decide) (nI_64 (by omega)) (fun j _ h1 h he => hx ⟨j, by omega, he⟩), ob_s, bh_i0]
theorem m_isNumberN {G : GM} {h : Nat} (h0 : bh_H0 G h 0) (x : Int64) : f_X10_isNumber x G = some (0, G) := by
  unfold f_X10_isNumber
  rw [m_noHall h0, ob_s, bh_i0]
theorem m_time1 {G : GM} {ln C R E K m pu bb : Nat} {z sv cl pr : Nat → Nat} (hN : bh_HN ln C R E K m pu bb z sv cl pr) (hc : bh_HM G 0 ln C R E K m pu bb z sv cl pr) {j : Nat} (hj : j < C * R * E + 1) : f_X10_in (nI j).toInt64 0 (nI (C * R * E)).toInt64 G = some (1, G) := by
  have h45 := bh_N45 hN.2.1
  exact m_in1 (l := 0) (b := (C * R * E : Nat)) (by omega) (by decide) (nI_64 (by omega)) (by omega) (by omega) G
theorem m_time0 {G : GM} {ln C R E K m pu bb : Nat} {z sv cl pr : Nat → Nat} (hN : bh_HN ln C R E K m pu bb z sv cl pr) (hc : bh_HM G 0 ln C R E K m pu bb z sv cl pr) {x : Int32} (hx : ¬ ∃ j, j < C * R * E + 1 ∧ x = nI j) : f_X10_in x.toInt64 0 (nI (C * R * E)).toInt64 G = some (0, G) := by
  have h45 := bh_N45 hN.2.1
  exact m_in0 (l := 0) (b := (C * R * E : Nat)) (by decide) (nI_64 (by omega)) (fun j _ h1 h he => hx ⟨j, by omega, he⟩) G
theorem m_isAsked1 {G : GM} {ln C R E K m pu bb : Nat} {z sv cl pr : Nat → Nat} (hN : bh_HN ln C R E K m pu bb z sv cl pr) (hc : bh_HM G 0 ln C R E K m pu bb z sv cl pr) {s c n : Nat} (hs : s < 10000) (hcc : c < C) (hn : n < C * R * E + 1) : f_X10_isAsked (nI s) (nI c) (nI n) G = some (1, G) := by
  unfold f_X10_isAsked
  rw [m_isSerial1 hN hc hs, ob_s, bh_i1, m_isCard1 hN hc hcc, ob_s, bh_i1, m_all hN hc, ob_s, m_time1 hN hc hn, ob_s, bh_i1]
theorem m_isAsked0 {G : GM} {ln C R E K m pu bb : Nat} {z sv cl pr : Nat → Nat} (hN : bh_HN ln C R E K m pu bb z sv cl pr) (hc : bh_HM G 0 ln C R E K m pu bb z sv cl pr) {x y t : Int32} (hx : ¬ ((∃ j, j < 10000 ∧ x = nI j) ∧ (∃ j, j < C ∧ y = nI j) ∧ ∃ j, j < C * R * E + 1 ∧ t = nI j)) : f_X10_isAsked x y t G = some (0, G) := by
  unfold f_X10_isAsked
  by_cases h1 : ∃ j, j < 10000 ∧ x = nI j
  · obtain ⟨j, hj, rfl⟩ := h1
    rw [m_isSerial1 hN hc hj, ob_s, bh_i1]
    by_cases h2 : ∃ j, j < C ∧ y = nI j
    · obtain ⟨c, hcc, rfl⟩ := h2
      rw [m_isCard1 hN hc hcc, ob_s, bh_i1, m_all hN hc, ob_s, m_time0 hN hc (fun h3 => hx ⟨⟨j, hj, rfl⟩, ⟨c, hcc, rfl⟩, h3⟩), ob_s, bh_i0]
    · rw [m_isCard0 hN hc h2, ob_s, bh_i0]
  · rw [m_isSerial0 hN hc h1, ob_s, bh_i0]
theorem m_isAskedN {G : GM} {h : Nat} (h0 : bh_H0 G h 0) (x y t : Int32) : f_X10_isAsked x y t G = some (0, G) := by
  unfold f_X10_isAsked
  rw [m_isSerialN h0, ob_s, bh_i0]
theorem m_isBy1 {G : GM} {ln C R E K m pu bb : Nat} {z sv cl pr : Nat → Nat} (hN : bh_HN ln C R E K m pu bb z sv cl pr) (hc : bh_HM G 0 ln C R E K m pu bb z sv cl pr) {k n : Nat} (hk : k < 3) (hn : n < C * R * E + 1) : f_X10_isBy (nI k) (nI n) G = some (1, G) := by
  unfold f_X10_isBy
  rw [m_isHall hN hc, ob_s, bh_i1, m_isKind1 hk, ob_s, bh_i1, m_all hN hc, ob_s, m_time1 hN hc hn, ob_s, bh_i1]
theorem m_isBy0 {G : GM} {ln C R E K m pu bb : Nat} {z sv cl pr : Nat → Nat} (hN : bh_HN ln C R E K m pu bb z sv cl pr) (hc : bh_HM G 0 ln C R E K m pu bb z sv cl pr) {x t : Int32} (hx : ¬ ((∃ j, j < 3 ∧ x = nI j) ∧ ∃ j, j < C * R * E + 1 ∧ t = nI j)) : f_X10_isBy x t G = some (0, G) := by
  unfold f_X10_isBy
  rw [m_isHall hN hc, ob_s, bh_i1]
  by_cases h1 : ∃ j, j < 3 ∧ x = nI j
  · obtain ⟨j, hj, rfl⟩ := h1
    rw [m_isKind1 hj, ob_s, bh_i1, m_all hN hc, ob_s, m_time0 hN hc (fun h3 => hx ⟨⟨j, hj, rfl⟩, h3⟩), ob_s, bh_i0]
  · rw [m_isKind0 h1, ob_s, bh_i0]
theorem m_isByN {G : GM} {h : Nat} (h0 : bh_H0 G h 0) (x t : Int32) : f_X10_isBy x t G = some (0, G) := by
  unfold f_X10_isBy
  rw [m_noHall h0, ob_s, bh_i0]
theorem bh_thr (G : GM) : bh_F bh_SCR G (sI G 186 0 0) := bh_FI (bh_Fr _ _) (by unfold bh_SCR; omega)
theorem bh_cls {x : Int32} {p : Nat → Prop} : (∃ j, p j ∧ x = nI j) ∨ ¬ ∃ j, p j ∧ x = nI j := Classical.em _
