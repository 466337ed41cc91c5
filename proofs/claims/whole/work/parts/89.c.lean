/-! READING: bytes and tokens -/
/-- a byte of the tape, 0 to 255 -/
def rd_y (x : Int32) : Nat := if x < 0 then (256 + x.toInt).toNat else x.toInt.toNat
theorem rd_yc : ∀ j : Fin 256, (Int32.ofInt ((j.val : Int) - 128) &&& 255 = nI (rd_y (Int32.ofInt ((j.val : Int) - 128)))) ∧ rd_y (Int32.ofInt ((j.val : Int) - 128)) < 256 ∧ (rd_y (Int32.ofInt ((j.val : Int) - 128)) < 128 → Int32.ofInt ((j.val : Int) - 128) = nI (rd_y (Int32.ofInt ((j.val : Int) - 128)))) ∧ (128 ≤ rd_y (Int32.ofInt ((j.val : Int) - 128)) → Int32.ofInt ((j.val : Int) - 128) < 0) := by decide +kernel
theorem rd_yb {x : Int32} (h : isB x) : x &&& 255 = nI (rd_y x) ∧ rd_y x < 256 ∧ (rd_y x < 128 → x = nI (rd_y x)) ∧ (128 ≤ rd_y x → x < 0) := by
  obtain ⟨h1, h2⟩ := h
  have e : x = Int32.ofInt (((⟨(x.toInt + 128).toNat, by omega⟩ : Fin 256).val : Int) - 128) := by
    apply Int32.toInt_inj.mp
    rw [Int32.toInt_ofInt_of_le (by show -2147483648 ≤ _; simp only []; omega) (by simp only []; omega)]
    simp only []
    omega
  have := rd_yc ⟨(x.toInt + 128).toNat, by omega⟩
  rw [← e] at this
  exact this
/-- both tapes are one -/
def rd_T (n : Nat) (G H : GM) : Prop := n ≤ 800 ∧ gI G 53 1 = nI n ∧ gI H 186 6 = nI n ∧ ∀ i, i < n → gI G 54 i = gI H 191 i ∧ isB (gI G 54 i)
def rd_Y (H : GM) (i : Nat) : Nat := rd_y (gI H 191 i)
def rd_WC (a q : Nat) : Prop := a = 53 ∧ 4 ≤ q
def rd_WM (a q : Nat) : Prop := a = 186 ∧ 7 ≤ q
theorem rd_T_F {W W' : Nat → Nat → Prop} {n : Nat} {G H G' H' : GM} (h : rd_T n G H) (hF : bh_F W G G') (hw : ∀ a q, (a = 53 ∧ q = 1) ∨ a = 54 → ¬ W a q) (hF' : bh_F W' H H') (hw' : ∀ a q, (a = 186 ∧ q = 6) ∨ a = 191 → ¬ W' a q) : rd_T n G' H' := by
  obtain ⟨h1, h2, h3, h4⟩ := h
  refine ⟨h1, ?_, ?_, fun i hi => ?_⟩
  · rw [hF.1 _ _ (hw _ _ (Or.inl ⟨rfl, rfl⟩))]; exact h2
  · rw [hF'.1 _ _ (hw' _ _ (Or.inl ⟨rfl, rfl⟩))]; exact h3
  · rw [hF.1 _ _ (hw _ _ (Or.inr rfl)), hF'.1 _ _ (hw' _ _ (Or.inr rfl))]; exact h4 i hi
theorem rd_Y_F {W : Nat → Nat → Prop} {H H' : GM} (hF : bh_F W H H') (hw : ∀ q, ¬ W 191 q) (i : Nat) : rd_Y H' i = rd_Y H i := by
  unfold rd_Y
  rw [hF.1 _ _ (hw i)]
theorem rd_byte {n a : Nat} {G H : GM} (hT : rd_T n G H) (ha : a < n) : f_X7_byteAt (nI a) G = some (nI (rd_Y H a), G) ∧ rd_Y H a < 256 := by
  obtain ⟨h1, h2, h3, h4⟩ := hT
  obtain ⟨e, hb⟩ := h4 a ha
  obtain ⟨b1, b2, -, -⟩ := rd_yb hb
  rw [e] at b1 b2
  refine ⟨?_, b2⟩
  unfold f_X7_byteAt
  rw [if_neg (nI_pos (by omega)), h2, if_pos (nI_lt ha (by omega)), inb_n (by omega) (by omega), gd_t, nI_clamp (by omega), e, b1]
  rfl
theorem rd_byteE {n : Nat} {G H : GM} (hT : rd_T n G H) : f_X7_byteAt (nI n) G = some (-1, G) := by
  obtain ⟨h1, h2, h3, h4⟩ := hT
  unfold f_X7_byteAt
  rw [if_neg (nI_pos (by omega)), h2, if_neg (nI_nlt (by omega) (by omega))]
theorem rd_isB {n a lo hi : Nat} {G H : GM} (hT : rd_T n G H) (ha : a < n) (hh : hi < 128) (hlh : lo ≤ hi) : f_X10_isByte (nI a) (nI lo) (nI hi) H = some ((if lo ≤ rd_Y H a ∧ rd_Y H a ≤ hi then 1 else 0), H) := by
  obtain ⟨h1, h2, h3, h4⟩ := hT
  obtain ⟨e, hb⟩ := h4 a ha
  obtain ⟨-, b2, b3, b4⟩ := rd_yb hb
  unfold f_X10_isByte
  rw [h3, if_neg (nI_ge ha (by omega)), inb_n (by omega) (by omega), gd_t, gd_t, nI_clamp (by omega)]
  unfold rd_Y
  rw [e] at b2 b3 b4
  by_cases hy : rd_y (gI H 191 a) < 128
  · have b3' := b3 hy
    generalize rd_y (gI H 191 a) = y at *
    rw [b3']
    by_cases c1 : y < lo
    · rw [if_pos (nI_lt c1 (by omega)), if_neg (by omega)]
    · by_cases c2 : hi < y
      · rw [if_neg (nI_nlt (by omega) (by omega)), if_pos (nI_lt c2 (by omega)), if_neg (by omega)]
      · rw [if_neg (nI_nlt (by omega) (by omega)), if_neg (nI_nlt (by omega) (by omega)), if_pos (by omega)]
  · have hneg := b4 (by omega)
    rw [if_pos, if_neg (by omega)]
    rw [Int32.lt_iff_toInt_lt] at hneg ⊢
    rw [nI_toInt (by omega)]
    have : (0 : Int32).toInt = 0 := by decide
    omega
theorem rd_isBE {n : Nat} {G H : GM} (hT : rd_T n G H) (lo hi : Int32) : f_X10_isByte (nI n) lo hi H = some (0, H) := by
  obtain ⟨h1, h2, h3, h4⟩ := hT
  unfold f_X10_isByte
  rw [h3, if_pos (nI_le (by omega) (by omega))]
theorem rd_blank {y : Nat} (hy : y < 256) (G : GM) : f_X7_isBlank (nI y) G = some ((if y = 32 ∨ y = 10 then 1 else 0), G) := by
  unfold f_X7_isBlank
  rw [show (32 : Int32) = nI 32 from rfl, show (10 : Int32) = nI 10 from rfl]
  by_cases c1 : y = 32
  · rw [if_pos (by rw [c1]), if_pos (by omega)]
  · rw [if_neg (by rw [nI_eq (by omega) (by omega)]; exact c1)]
    by_cases c2 : y = 10
    · rw [if_pos (by rw [c2]), if_pos (by omega)]
    · rw [if_neg (by rw [nI_eq (by omega) (by omega)]; exact c2), if_neg (by omega)]
theorem rd_digit {y : Nat} (hy : y < 256) (G : GM) : f_X7_isDigit (nI y) G = some ((if 48 ≤ y ∧ y ≤ 57 then 1 else 0), G) := by
  unfold f_X7_isDigit
  rw [show (48 : Int32) = nI 48 from rfl, show (57 : Int32) = nI 57 from rfl]
  by_cases c1 : y < 48
  · rw [if_pos (nI_lt c1 (by omega)), if_neg (by omega)]
  · by_cases c2 : 57 < y
    · rw [if_neg (nI_nlt (by omega) (by omega)), if_pos (nI_lt c2 (by omega)), if_neg (by omega)]
    · rw [if_neg (nI_nlt (by omega) (by omega)), if_neg (nI_nlt (by omega) (by omega)), if_pos (by omega)]
theorem rd_letter {y : Nat} (hy : y < 256) (G : GM) : f_X7_isLetter (nI y) G = some ((if 97 ≤ y ∧ y ≤ 122 then 1 else 0), G) := by
  unfold f_X7_isLetter
  rw [show (97 : Int32) = nI 97 from rfl, show (122 : Int32) = nI 122 from rfl]
  by_cases c1 : y < 97
  · rw [if_pos (nI_lt c1 (by omega)), if_neg (by omega)]
  · by_cases c2 : 122 < y
    · rw [if_neg (nI_nlt (by omega) (by omega)), if_pos (nI_lt c2 (by omega)), if_neg (by omega)]
    · rw [if_neg (nI_nlt (by omega) (by omega)), if_neg (nI_nlt (by omega) (by omega)), if_pos (by omega)]
/-- a word as a number: its letters are the digits 1 to 26 of a number to the base 27 -/
def rd_w (d : Nat → Nat) : Nat → Nat
  | 0 => 0
  | k + 1 => 27 * rd_w d k + d k
theorem rd_w_lt {d : Nat → Nat} : ∀ {k : Nat}, (∀ j, j < k → d j ≤ 26) → rd_w d k < 27 ^ k
  | 0, _ => Nat.zero_lt_one
  | k + 1, h => by
    have := rd_w_lt (k := k) (fun j hj => h j (by omega))
    have h2 := h k (by omega)
    show 27 * rd_w d k + d k < 27 ^ (k + 1)
    rw [Nat.pow_succ]
    omega
theorem rd_w_inj {d e : Nat → Nat} : ∀ {k l : Nat}, (∀ j, j < k → 1 ≤ d j ∧ d j ≤ 26) → (∀ j, j < l → 1 ≤ e j ∧ e j ≤ 26) → rd_w d k = rd_w e l → k = l ∧ ∀ j, j < k → d j = e j
  | 0, 0, _, _, _ => ⟨rfl, fun j hj => absurd hj (Nat.not_lt_zero _)⟩
  | 0, l + 1, _, h2, h => by
    have := h2 l (by omega)
    have h' : 0 = 27 * rd_w e l + e l := h
    omega
  | k + 1, 0, h1, _, h => by
    have := h1 k (by omega)
    have h' : 27 * rd_w d k + d k = 0 := h
    omega
  | k + 1, l + 1, h1, h2, h => by
    have a1 := h1 k (by omega)
    have a2 := h2 l (by omega)
    have h' : 27 * rd_w d k + d k = 27 * rd_w e l + e l := h
    have b1 : rd_w d k = rd_w e l := by omega
    have b2 : d k = e l := by omega
    obtain ⟨c1, c2⟩ := rd_w_inj (fun j hj => h1 j (by omega)) (fun j hj => h2 j (by omega)) b1
    subst c1
    refine ⟨rfl, fun j hj => ?_⟩
    by_cases hjk : j = k
    · rw [hjk]; exact b2
    · exact c2 j (by omega)
theorem rd_w_congr {d e : Nat → Nat} : ∀ {k : Nat}, (∀ j, j < k → d j = e j) → rd_w d k = rd_w e k
  | 0, _ => rfl
  | k + 1, h => by
    show 27 * rd_w d k + d k = 27 * rd_w e k + e k
    rw [rd_w_congr (fun j hj => h j (by omega)), h k (by omega)]
/-- the word from p to a -/
def rd_W (H : GM) (p l : Nat) : Int64 := if l ≤ 12 then lN (rd_w (fun k => rd_Y H (p + k) - 96) l) else -1
/-- one token on both sides -/
def rd_C (n : Nat) (G H : GM) (a p t : Nat) : Prop := (gI G 53 4 = nI a ∧ gI H 186 7 = nI a ∧ gI G 53 6 = nI p ∧ gI H 186 9 = nI p ∧ gI G 53 5 = nI t ∧ gI H 186 8 = nI t) ∧ (p ≤ a ∧ a ≤ n ∧ t ≤ 4 ∧ (t ≠ 0 → p < a)) ∧ (t = 2 → ∃ v, v ≤ 1000009 ∧ gI H 186 10 = nI v ∧ gI G 53 7 = nI (min v 1000000)) ∧ (t = 1 → (∀ k, k < a - p → 97 ≤ rd_Y H (p + k) ∧ rd_Y H (p + k) ≤ 122) ∧ gJ H 186 11 = rd_W H p (a - p))
