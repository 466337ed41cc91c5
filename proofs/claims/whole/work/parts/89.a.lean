/-! CHANCES: choices, sets of calls, fractions -/
def bh_chL (n : Nat) : Nat → Nat
  | 0 => 1
  | i + 1 => bh_chL n i * (n - i) / (i + 1)
def bh_ch (n k : Nat) : Nat := if k ≤ n then bh_chL n k else 0
theorem bh_chL_bd : ∀ n, n < 46 → ∀ i, i < 46 → bh_chL n i < 8796093022208 := by decide +kernel
theorem c_choose {n k : Nat} (hn : n ≤ 45) (hk : k < 2 ^ 31) (G : GM) : f_X1_choose (nI n) (nI k) G = some (lN (bh_ch n k), G) := by
  unfold f_X1_choose bh_ch
  rw [if_neg (nI_pos hk)]
  by_cases hkn : k ≤ n
  · rw [if_pos (nI_le hkn (by omega)), if_pos hkn]
    refine wl2_up (P := fun o => o = some (lN (bh_chL n k), G)) (I := fun i y G' => G' = G ∧ y = lN (bh_chL n i)) (N := k) (by omega) ?_ (n := FU) (i := 0) (Nat.zero_le _) ⟨rfl, rfl⟩ (by unfold FU; omega)
    rintro kc i _ G' hi' ⟨rfl, rfl⟩ hkc
    unfold lp_X1_choose_16
    by_cases hi : i < k
    · have hb := bh_chL_bd n (by omega) i (by omega)
      have hm : bh_chL n i * (n - i) ≤ 8796093022208 * 45 := Nat.mul_le_mul (by omega) (by omega)
      have hne : ¬ lN (i + 1) = 0 := fun h => absurd ((pk_lEQ (b := 0) (by omega) (by omega)).mp h) (by omega)
      rw [if_neg (nI_ge hi (by omega)), nI_1, nI_l (by omega), gd_d hne, pk_sub (by omega), nI_l (by omega), lN_mul, pk_lDiv (by omega) (by omega) (by omega), lt_r]
      exact hkc hi _ _ ⟨rfl, rfl⟩
    · have hi2 : i = k := by omega
      subst hi2
      rw [if_pos (nI_le (by omega) (by omega))]
  · rw [if_neg (by rw [nI_leI hk (by omega)]; exact hkn), if_neg hkn]; rfl
theorem bh_chE : f_X10_choose = f_X1_choose := rfl
/-- .. of what is left -/
def bh_c2 (N n J : Nat) : Nat := if J ≤ n then bh_ch (N - J) (n - J) else 0
theorem c_choose2 {N n J : Nat} (hN : N ≤ 45) (hn : n ≤ N) (hJ : J < 1000) (G : GM) : f_X1_choose (nI N - nI J) (nI n - nI J) G = some (lN (bh_c2 N n J), G) := by
  unfold bh_c2
  by_cases h : J ≤ n
  · rw [pk_sub (by omega), pk_sub h, if_pos h, c_choose (by omega) (by omega)]
  · rw [if_neg h]
    unfold f_X1_choose
    rw [if_pos (pk_sneg (by omega) (by omega))]; rfl
def lI (x : Int) : Int64 := Int64.ofInt x
theorem lI_n (n : Nat) : lN n = lI (n : Int) := Int64.ofInt_eq_ofNat.symm
def bh_drT (N n g s l j : Nat) : Nat := bh_ch (l + j - 1) (l - 1) * (bh_ch g (l + j) * bh_c2 N n ((l + j) * s))
def bh_drL (N n g s l : Nat) : Nat → Int
  | 0 => 0
  | j + 1 => bh_drL N n g s l j + if j % 2 = 0 then (bh_drT N n g s l j : Int) else -(bh_drT N n g s l j : Int)
def bh_dr (N n g s l : Nat) : Int := bh_drL N n g s l (g + 1 - l)
theorem bh_rem2 {a : Nat} (ha : a < 2 ^ 31) : (nI a - nI a / (2 : Int32) * (2 : Int32) = 0) ↔ a % 2 = 0 := by
  rw [show nI a - nI a / (2 : Int32) * (2 : Int32) = nI (a % 2) from pk_rem (d := 2) ha (by omega) (by omega)]
  exact nI_eq (b := 0) (by omega) (by omega)
theorem c_draws {N n g s l : Nat} (hN : N ≤ 45) (hn : n ≤ N) (hg : g ≤ 9) (hs : s ≤ 45) (hl : 1 ≤ l ∧ l ≤ 2) (G : GM) : f_X1_drawsWith (nI N) (nI n) (nI g) (nI s) (nI l) G = some (lI (bh_dr N n g s l), G) := by
  unfold f_X1_drawsWith
  refine wl2_up (P := fun o => o = some (lI (bh_dr N n g s l), G)) (I := fun w y G' => G' = G ∧ l ≤ w ∧ w ≤ max l (g + 1) ∧ y = lI (bh_drL N n g s l (w - l))) (N := max l (g + 1)) (by omega) ?_ (n := FU) (i := l) (by omega) ⟨rfl, Nat.le_refl _, by omega, by rw [Nat.sub_self]; rfl⟩ (by unfold FU; omega)
  rintro kc w _ G' hw' ⟨rfl, h1, h2, rfl⟩ hkc
  obtain ⟨j, rfl⟩ : ∃ j, w = l + j := ⟨w - l, by omega⟩
  rw [Nat.add_sub_cancel_left] at *
  unfold lp_X1_drawsWith_7
  by_cases hw : l + j ≤ g
  · have hJ : (l + j) * s ≤ 9 * 45 := Nat.mul_le_mul (by omega) hs
    have hm1 : ∀ a : Nat, 1 ≤ a → nI a - (1 : Int32) = nI (a - 1) := fun a ha => pk_sub (b := 1) ha
    rw [if_neg (nI_nlt hw (by omega)), c_choose (by omega) (by omega), ob_s, pk_mul, c_choose2 hN hn (by omega), ob_s, lN_mul, lt_r, hm1 _ (by omega), hm1 _ (by omega), c_choose (by omega) (by omega), ob_s, lN_mul, lt_r, pk_sub (by omega), Nat.add_sub_cancel_left]
    have es : bh_drL N n g s l (j + 1) = bh_drL N n g s l j + if j % 2 = 0 then (bh_drT N n g s l j : Int) else -(bh_drT N n g s l j : Int) := rfl
    have et : bh_ch (l + j - 1) (l - 1) * (bh_ch g (l + j) * bh_c2 N n ((l + j) * s)) = bh_drT N n g s l j := rfl
    rw [et]
    by_cases hp : j % 2 = 0
    · rw [if_pos ((bh_rem2 (by omega)).mpr hp)]
      rw [if_pos hp] at es
      unfold k_X1_drawsWith_73
      rw [lI_n, lt_r, nI_1]
      refine hkc (by omega) _ _ ⟨rfl, by omega, by omega, ?_⟩
      rw [show l + j + 1 - l = j + 1 from by omega, es]
      exact (Int64.ofInt_add _ _).symm
    · rw [if_neg (fun h => hp ((bh_rem2 (by omega)).mp h))]
      rw [if_neg hp] at es
      unfold k_X1_drawsWith_73
      rw [lI_n, lt_r, nI_1]
      refine hkc (by omega) _ _ ⟨rfl, by omega, by omega, ?_⟩
      rw [show l + j + 1 - l = j + 1 from by omega, es]
      show Int64.ofInt _ + -(Int64.ofInt _) = Int64.ofInt _
      rw [← Int64.ofInt_neg, Int64.ofInt_add]
  · rw [if_pos (nI_lt (by omega) (by omega))]
    unfold bh_dr
    by_cases hlg : l ≤ g
    · rw [show g + 1 - l = j from by omega]
    · rw [show g + 1 - l = j from by omega]
theorem m_setsOf {G : GM} {C R E K n g s l : Nat} {z cl : Nat → Nat} (hV : bh_VH C R E K z) (hE : bh_ME G 0 C R E K z cl) (hn : n ≤ C * R * E) (hg : g ≤ 9) (hs : s ≤ 45) (hl : 1 ≤ l ∧ l ≤ 2) : f_X10_setsOf (nI g) (nI s) (nI l) (nI n) G = some (lI (bh_dr (C * R * E) n g s l), G) := by
  have h45 := bh_N45 hV
  have ea := m_all' hE
  unfold f_X10_setsOf
  refine wl2_up (P := fun o => o = some (lI (bh_dr (C * R * E) n g s l), G)) (I := fun w y G' => G' = G ∧ l ≤ w ∧ w ≤ max l (g + 1) ∧ y = lI (bh_drL (C * R * E) n g s l (w - l))) (N := max l (g + 1)) (by omega) ?_ (n := FU) (i := l) (by omega) ⟨rfl, Nat.le_refl _, by omega, by rw [Nat.sub_self]; rfl⟩ (by unfold FU; omega)
  rintro kc w _ G' hw' ⟨rfl, h1, h2, rfl⟩ hkc
  obtain ⟨j, rfl⟩ : ∃ j, w = l + j := ⟨w - l, by omega⟩
  rw [Nat.add_sub_cancel_left] at *
  unfold lp_X10_setsOf_6
  by_cases hw : l + j ≤ g
  · have hJ : (l + j) * s ≤ 9 * 45 := Nat.mul_le_mul (by omega) hs
    have hm1 : ∀ a : Nat, 1 ≤ a → nI a - (1 : Int32) = nI (a - 1) := fun a ha => pk_sub (b := 1) ha
    have es : bh_drL (C * R * E) n g s l (j + 1) = bh_drL (C * R * E) n g s l j + if j % 2 = 0 then (bh_drT (C * R * E) n g s l j : Int) else -(bh_drT (C * R * E) n g s l j : Int) := rfl
    have et : bh_ch (l + j - 1) (l - 1) * (bh_ch g (l + j) * bh_c2 (C * R * E) n ((l + j) * s)) = bh_drT (C * R * E) n g s l j := rfl
    rw [if_neg (nI_nlt hw (by omega)), pk_sub (by omega), Nat.add_sub_cancel_left]
    have go : ∀ s0 : Int64, ∃ v, v = lI (bh_drL (C * R * E) n g s l j) + s0 * lN (bh_drT (C * R * E) n g s l j) ∧ k_X10_setsOf_28 (nI g) (nI s) (nI l) (nI n) (lI (bh_drL (C * R * E) n g s l j)) (nI (l + j)) s0 kc G' = kc v (nI (l + j + 1)) G' := fun s0 => by
      refine ⟨_, rfl, ?_⟩
      unfold k_X10_setsOf_28
      rw [bh_chE, hm1 _ (by omega), hm1 _ (by omega), c_choose (by omega) (by omega), ob_s, c_choose (by omega) (by omega), ob_s, ea, ob_s, pk_mul, c_choose2 h45 hn (by omega), ob_s, lt_r, nI_1, ← et, ← lN_mul, ← lN_mul, Int64.mul_assoc, Int64.mul_assoc]
    by_cases hp : j % 2 = 0
    · rw [if_pos ((bh_rem2 (by omega)).mpr hp)]
      rw [if_pos hp] at es
      obtain ⟨v, hv, e⟩ := go 1
      rw [e]
      refine hkc (by omega) _ _ ⟨rfl, by omega, by omega, ?_⟩
      rw [show l + j + 1 - l = j + 1 from by omega, es, hv, Int64.one_mul, lI_n]
      exact (Int64.ofInt_add _ _).symm
    · rw [if_neg (fun h => hp ((bh_rem2 (by omega)).mp h))]
      rw [if_neg hp] at es
      obtain ⟨v, hv, e⟩ := go (-1)
      rw [e]
      refine hkc (by omega) _ _ ⟨rfl, by omega, by omega, ?_⟩
      rw [show l + j + 1 - l = j + 1 from by omega, es, hv, Int64.neg_mul, Int64.one_mul, lI_n]
      show Int64.ofInt _ + -(Int64.ofInt _) = Int64.ofInt _
      rw [← Int64.ofInt_neg, Int64.ofInt_add]
  · rw [if_pos (nI_lt (by omega) (by omega))]
    unfold bh_dr
    rw [show g + 1 - l = j from by omega]
/-! the greatest common divisor, both ways -/
theorem bh_eu {x y j : Nat} (hyx : y < x) (hy : y ≠ 0) (h : x * y < 2 ^ (j + 1)) : x % y < y ∧ y * (x % y) < 2 ^ j := by
  have h1 := Nat.mod_lt x (Nat.pos_of_ne_zero hy)
  have h2 : 2 * (x % y) ≤ x := by
    have h3 := Nat.div_add_mod x y
    have h4 : 1 ≤ x / y := (Nat.one_le_div_iff (Nat.pos_of_ne_zero hy)).mpr (by omega)
    have h5 : y * 1 ≤ y * (x / y) := Nat.mul_le_mul_left y h4
    omega
  refine ⟨h1, ?_⟩
  have h3 : y * (2 * (x % y)) ≤ y * x := Nat.mul_le_mul_left y h2
  rw [Nat.mul_comm y x] at h3
  have h4 : y * (2 * (x % y)) = 2 * (y * (x % y)) := by rw [← Nat.mul_assoc, Nat.mul_comm y 2, Nat.mul_assoc]
  rw [Nat.pow_succ] at h
  omega
theorem m_eu {a b : Int64} {G : GM} : ∀ (j n x y : Nat), y < x → x < 2 ^ 63 → x * y < 2 ^ j → j + 1 ≤ n → wl2 n (lp_X10_common_6 a b) (lN x) (lN y) G = some (lN (Nat.gcd x y), G)
  | j, 0, x, y, _, _, _, h => absurd h (by omega)
  | j, n + 1, x, y, h1, h2, h3, h4 => by
    show (if lg_cmp (lN y) 0 = 0 then some (lN x, G) else gd (decide (¬ lN y = 0)) (lt (lN x - lN x / lN y * lN y) fun x18 => wl2 n (lp_X10_common_6 a b) (lN y) x18 G)) = _
    by_cases hy : y = 0
    · subst hy
      rw [if_pos ((lg_eq0 (lN 0) 0).mpr rfl), Nat.gcd_zero_right]
    · have hne : ¬ lN y = 0 := fun h => hy ((pk_lEQ (b := 0) (by omega) (by omega)).mp h)
      rw [if_neg (fun h => hne ((lg_eq0 _ _).mp h)), gd_d hne, pk_lRem h2 (by omega) (by omega), lt_r]
      have hx1 : 1 ≤ x * y := Nat.mul_pos (by omega) (Nat.pos_of_ne_zero hy)
      obtain ⟨j', rfl⟩ : ∃ j', j = j' + 1 := ⟨j - 1, by
        cases j with
        | zero => rw [Nat.pow_zero] at h3; omega
        | succ j => omega⟩
      obtain ⟨g1, g2⟩ := bh_eu h1 hy h3
      rw [m_eu j' n y (x % y) g1 (by omega) g2 (by omega), Nat.gcd_comm y, ← Nat.gcd_rec, Nat.gcd_comm]
theorem c_eu {a b : Int64} {G : GM} : ∀ (j n x y k : Nat), y < x → x < 2 ^ 63 → x * y < 2 ^ j → j + 1 ≤ n → k + j < 999 → wl3 n (lp_X1_commonDivisor_9 a b) (lN x) (lN y) (nI k) G = some (lN (Nat.gcd x y), G)
  | j, 0, x, y, k, _, _, _, h, _ => absurd h (by omega)
  | j, n + 1, x, y, k, h1, h2, h3, h4, h5 => by
    show (if (1000 : Int32) ≤ nI k then some (lN x, G) else if lg_cmp (lN y) 0 = 0 then some (lN x, G) else gd (decide (¬ lN y = 0)) (lt (lN x - lN x / lN y * lN y) fun x29 => wl3 n (lp_X1_commonDivisor_9 a b) (lN y) x29 (nI k + (1 : Int32)) G)) = _
    rw [show (1000 : Int32) = nI 1000 from rfl, if_neg (nI_ge (by omega) (by omega))]
    by_cases hy : y = 0
    · subst hy
      rw [if_pos ((lg_eq0 (lN 0) 0).mpr rfl), Nat.gcd_zero_right]
    · have hne : ¬ lN y = 0 := fun h => hy ((pk_lEQ (b := 0) (by omega) (by omega)).mp h)
      rw [if_neg (fun h => hne ((lg_eq0 _ _).mp h)), gd_d hne, pk_lRem h2 (by omega) (by omega), lt_r, nI_1]
      have hx1 : 1 ≤ x * y := Nat.mul_pos (by omega) (Nat.pos_of_ne_zero hy)
      obtain ⟨j', rfl⟩ : ∃ j', j = j' + 1 := ⟨j - 1, by
        cases j with
        | zero => rw [Nat.pow_zero] at h3; omega
        | succ j => omega⟩
      obtain ⟨g1, g2⟩ := bh_eu h1 hy h3
      rw [c_eu j' n y (x % y) (k + 1) g1 (by omega) g2 (by omega) (by omega), Nat.gcd_comm y, ← Nat.gcd_rec, Nat.gcd_comm]
theorem bh_eu0 {a b : Nat} (ha : a < 2 ^ 62) (hb : 1 ≤ b) (hb2 : b < 2 ^ 62) : a % b < b ∧ b * (a % b) < 2 ^ 124 := by
  have h1 := Nat.mod_lt a (show 0 < b from hb)
  refine ⟨h1, ?_⟩
  have h2 : b * (a % b) ≤ (2 ^ 62 - 1) * (2 ^ 62 - 1) := Nat.mul_le_mul (by omega) (by omega)
  omega
theorem bh_told {a b : Nat} (ha : a < 2 ^ 62) (hb : 1 ≤ b) (hb2 : b < 2 ^ 62) (w : Int32) : ∃ v, (∀ G, f_X1_told (lN a) (lN b) w G = some (v, G)) ∧ ∀ G, f_X10_told (lN a) (lN b) w G = some (v, G) := by
  obtain ⟨e1, e2⟩ := bh_eu0 ha hb hb2
  have hne : ¬ lN b = 0 := fun h => absurd ((pk_lEQ (b := 0) (by omega) (by omega)).mp h) (by omega)
  have hg1 : 1 ≤ Nat.gcd a b := Nat.gcd_pos_of_pos_right a hb
  have hgb : Nat.gcd a b ≤ b := Nat.gcd_le_right a hb
  have hgne : ¬ lN (Nat.gcd a b) = 0 := fun h => absurd ((pk_lEQ (b := 0) (by omega) (by omega)).mp h) (by omega)
  have h1g : (1 : Int64) ≤ lN (Nat.gcd a b) := (pk_lLE (a := 1) (by omega) (by omega)).mpr hg1
  have hgr : Nat.gcd b (a % b) = Nat.gcd a b := by rw [Nat.gcd_comm b, ← Nat.gcd_rec, Nat.gcd_comm]
  have cg : ∀ G, f_X1_commonDivisor (lN a) (lN b) G = some (lN (Nat.gcd a b), G) := fun G => by
    unfold f_X1_commonDivisor
    show (if (1000 : Int32) ≤ 0 then some (lN a, G) else if lg_cmp (lN b) 0 = 0 then some (lN a, G) else gd (decide (¬ lN b = 0)) (lt (lN a - lN a / lN b * lN b) fun x29 => wl3 99999 (lp_X1_commonDivisor_9 (lN a) (lN b)) (lN b) x29 ((0 : Int32) + (1 : Int32)) G)) = _
    rw [if_neg (by decide), if_neg (fun h => hne ((lg_eq0 _ _).mp h)), gd_d hne, pk_lRem (by omega) hb (by omega), lt_r, show (0 : Int32) + 1 = nI 1 from rfl]
    have := c_eu (a := lN a) (b := lN b) (G := G) 124 99999 b (a % b) 1 e1 (by omega) e2 (by omega) (by omega)
    rw [this, hgr]
  have mg : ∀ G, f_X10_common (lN a) (lN b) G = some (lN (Nat.gcd a b), G) := fun G => by
    unfold f_X10_common
    show (if lg_cmp (lN b) 0 = 0 then some (lN a, G) else gd (decide (¬ lN b = 0)) (lt (lN a - lN a / lN b * lN b) fun x18 => wl2 99999 (lp_X10_common_6 (lN a) (lN b)) (lN b) x18 G)) = _
    rw [if_neg (fun h => hne ((lg_eq0 _ _).mp h)), gd_d hne, pk_lRem (by omega) hb (by omega), lt_r]
    have := m_eu (a := lN a) (b := lN b) (G := G) 124 99999 b (a % b) e1 (by omega) e2 (by omega)
    rw [this, hgr]
  by_cases hw : w = 0
  · refine ⟨lN a / lN (Nat.gcd a b), fun G => ?_, fun G => ?_⟩
    · unfold f_X1_told
      rw [cg, ob_s, if_pos ((lg_ge0 _ _).mpr h1g), if_pos hw, gd_d hgne]
    · unfold f_X10_told k_X10_told_10
      rw [if_pos hw, mg, ob_s, gd_d hgne]
  · refine ⟨lN b / lN (Nat.gcd a b), fun G => ?_, fun G => ?_⟩
    · unfold f_X1_told
      rw [cg, ob_s, if_pos ((lg_ge0 _ _).mpr h1g), if_neg hw, gd_d hgne]
    · unfold f_X10_told k_X10_told_10
      rw [if_neg hw, mg, ob_s, gd_d hgne]
/-! what is counted is not below nothing -/
def bh_okD (x : Int) : Bool := decide (0 ≤ x) && decide (x < 1152921504606846976)
def bh_okN (C R E n : Nat) : Bool := bh_okD (bh_dr (C * R * E) n 1 (R * E) 1) && (bh_okD (bh_dr (C * R * E) n R E 1) && (bh_okD (bh_dr (C * R * E) n R E 2) && (bh_okD (bh_dr (C * R * E) n C (R * E) 1) && (bh_okD (bh_dr (C * R * E) n (C * R) E 1) && (Nat.ble 1 (bh_ch (C * R * E) n) && Nat.blt (bh_ch (C * R * E) n) 8796093022208)))))
def bh_okJ (C R E n : Nat) : Bool := bh_okD (bh_dr (C * R * E) n C (R * E) 1 * (n : Int) - bh_dr (C * R * E) (n - 1) C (R * E) 1 * ((C * R * E - n + 1 : Nat) : Int)) && bh_okD (bh_dr (C * R * E) n (C * R) E 1 * (n : Int) - bh_dr (C * R * E) (n - 1) (C * R) E 1 * ((C * R * E - n + 1 : Nat) : Int))
def bh_okA (C R E : Nat) : Bool := bh_al (fun n => bh_okN C R E n && (Nat.beq n 0 || bh_okJ C R E n)) (C * R * E + 1)
theorem bh_okA1 : ∀ R, R < 4 → ∀ E, E < 6 → 1 ≤ R → 1 ≤ E → bh_okA 1 R E = true := by decide +kernel
theorem bh_okA2 : ∀ R, R < 4 → ∀ E, E < 6 → 1 ≤ R → 1 ≤ E → bh_okA 2 R E = true := by decide +kernel
theorem bh_okA3 : ∀ R, R < 4 → ∀ E, E < 6 → 1 ≤ R → 1 ≤ E → bh_okA 3 R E = true := by decide +kernel
theorem bh_okC {C R E K : Nat} {z : Nat → Nat} (hV : bh_VH C R E K z) {n : Nat} (hn : n ≤ C * R * E) : bh_okN C R E n = true ∧ (n ≠ 0 → bh_okJ C R E n = true) := by
  obtain ⟨hC, hR, hE, -⟩ := id hV
  have h : bh_okA C R E = true := by
    rcases (by omega : C = 1 ∨ C = 2 ∨ C = 3) with rfl | rfl | rfl
    · exact bh_okA1 R (by omega) E (by omega) hR.1 hE.1
    · exact bh_okA2 R (by omega) E (by omega) hR.1 hE.1
    · exact bh_okA3 R (by omega) E (by omega) hR.1 hE.1
  unfold bh_okA at h
  have := bh_al_iff.mp h n (by omega)
  rw [Bool.and_eq_true, Bool.or_eq_true] at this
  exact ⟨this.1, fun h0 => this.2.resolve_left (fun q => h0 (Nat.eq_of_beq_eq_true q))⟩
theorem bh_okD_n {x : Int} (h : bh_okD x = true) : ∃ a : Nat, x = (a : Int) ∧ a < 2 ^ 60 := by
  unfold bh_okD at h
  rw [Bool.and_eq_true] at h
  have h1 := of_decide_eq_true h.1
  have h2 := of_decide_eq_true h.2
  exact ⟨x.toNat, by omega, by omega⟩
