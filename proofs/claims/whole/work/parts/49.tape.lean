/-! the TAPE: feed, end, fault -/
theorem wl1_s {t V : Type} (b : t → GM → (t → GM → Option V) → Option V) (n : Nat) (x : t) (G : GM) : wl1 (n + 1) b x G = b x G (wl1 n b) := rfl
theorem wl2_s {t u V : Type} (b : t → u → GM → (t → u → GM → Option V) → Option V) (n : Nat) (x : t) (y : u) (G : GM) : wl2 (n + 1) b x y G = b x y G (wl2 n b) := rfl
theorem FU5 : FU = 99995 + 1 + 1 + 1 + 1 + 1 := rfl
def fB (v : Int32) (sh : Int32) : Int32 := vp_nar .byte ((v >>> (sh &&& 31)).toInt8.toInt32)
def put4 (t : Nat → Int32) (n : Nat) (v : Int32) : Nat → Int32 := fun i => if i = n then fB v 24 else if i = n + 1 then fB v 16 else if i = n + 2 then fB v 8 else if i = n + 3 then fB v 0 else t i
def W54 : Nat → Nat → Bool := fun a k => Nat.beq a 54 || (Nat.beq a 53 && Nat.beq k 1)
def W191 : Nat → Nat → Bool := fun a k => Nat.beq a 191 || (Nat.beq a 186 && Nat.beq k 6)
theorem addFour_st (v sh : Int32) (n : Nat) (G : GM) (kc : Int32 → GM → Option GM) (hs : ¬ sh < 0) (h1 : gI G 53 1 = nI n) (hn : n < 800) : lp_X7_addFour_3 v sh G kc = kc (sh + (-8 : Int32)) (sI (sI G 54 n (fB v sh)) 53 1 (nI (n + 1))) := by
  unfold lp_X7_addFour_3
  rw [if_neg hs, h1, if_neg (by rw [show (800 : Int32) = nI 800 from rfl, nI_leI (by omega) (by omega)]; omega), inb_n hn (by omega), gd_t, lt_r, lt_r, gI_sIa (by decide), h1, nI_clamp (by omega), nI_1]
  rfl
theorem addFour_ok (v : Int32) (n : Nat) (G : GM) (h1 : gI G 53 1 = nI n) (hn : n + 4 ≤ 800) : ∃ G', f_X7_addFour v G = some G' ∧ gI G' 53 1 = nI (n + 4) ∧ gI G' 54 = put4 (gI G 54) n v ∧ fr W54 G G' := by
  unfold f_X7_addFour
  rw [FU5, wl1_s, addFour_st v 24 n G _ (by decide) h1 (by omega), wl1_s, show (24 : Int32) + -8 = 16 from by decide, addFour_st v 16 (n + 1) _ _ (by decide) (gI_sIs _ _ _ _) (by omega), wl1_s, show (16 : Int32) + -8 = 8 from by decide, addFour_st v 8 (n + 2) _ _ (by decide) (gI_sIs _ _ _ _) (by omega), wl1_s, show (8 : Int32) + -8 = 0 from by decide, addFour_st v 0 (n + 3) _ _ (by decide) (gI_sIs _ _ _ _) (by omega), wl1_s, show (0 : Int32) + -8 = -8 from by decide]
  refine ⟨_, if_pos (by decide), gI_sIs _ _ _ _, ?_, ?_⟩
  · funext i
    unfold put4
    simp only [gI_sI]
    by_cases h0 : i = n
    · subst h0; simp
    · by_cases h1 : i = n + 1
      · subst h1; simp
      · by_cases h2 : i = n + 2
        · subst h2; simp
        · by_cases h3 : i = n + 3
          · subst h3; simp
          · simp [h0, h1, h2, h3]
  · exact fr_tI (fr_tI (fr_tI (fr_tI (fr_tI (fr_tI (fr_tI (fr_sI rfl) rfl) rfl) rfl) rfl) rfl) rfl) rfl
theorem four_st (v sh : Int32) (n : Nat) (G : GM) (kc : Int32 → GM → Option GM) (hs : ¬ sh < 0) (h1 : gI G 186 6 = nI n) (hn : n < 800) : lp_X10_four_3 v sh G kc = kc (sh + (-8 : Int32)) (sI (sI G 191 n (fB v sh)) 186 6 (nI (n + 1))) := by
  unfold lp_X10_four_3
  rw [if_neg hs, h1, inb_n hn (by omega), gd_t, lt_r, lt_r, gI_sIa (by decide), h1, nI_clamp (by omega), nI_1]
  rfl
theorem four_ok (v : Int32) (n : Nat) (G : GM) (h1 : gI G 186 6 = nI n) (hn : n + 4 ≤ 800) : ∃ G', f_X10_four v G = some G' ∧ gI G' 186 6 = nI (n + 4) ∧ gI G' 191 = put4 (gI G 191) n v ∧ fr W191 G G' := by
  unfold f_X10_four
  rw [FU5, wl1_s, four_st v 24 n G _ (by decide) h1 (by omega), wl1_s, show (24 : Int32) + -8 = 16 from by decide, four_st v 16 (n + 1) _ _ (by decide) (gI_sIs _ _ _ _) (by omega), wl1_s, show (16 : Int32) + -8 = 8 from by decide, four_st v 8 (n + 2) _ _ (by decide) (gI_sIs _ _ _ _) (by omega), wl1_s, show (8 : Int32) + -8 = 0 from by decide, four_st v 0 (n + 3) _ _ (by decide) (gI_sIs _ _ _ _) (by omega), wl1_s, show (0 : Int32) + -8 = -8 from by decide]
  refine ⟨_, if_pos (by decide), gI_sIs _ _ _ _, ?_, ?_⟩
  · funext i
    unfold put4
    simp only [gI_sI]
    by_cases h0 : i = n
    · subst h0; simp
    · by_cases h1 : i = n + 1
      · subst h1; simp
      · by_cases h2 : i = n + 2
        · subst h2; simp
        · by_cases h3 : i = n + 3
          · subst h3; simp
          · simp [h0, h1, h2, h3]
  · exact fr_tI (fr_tI (fr_tI (fr_tI (fr_tI (fr_tI (fr_tI (fr_sI rfl) rfl) rfl) rfl) rfl) rfl) rfl) rfl
def isB (x : Int32) : Prop := -128 ≤ x.toInt ∧ x.toInt ≤ 127
theorem fB_B (v sh : Int32) : isB (fB v sh) := by
  unfold fB
  rw [pk_vb]
  have h := Int8.le_toInt (v >>> (sh &&& 31)).toInt8
  have h2 := Int8.toInt_lt (v >>> (sh &&& 31)).toInt8
  unfold isB
  rw [Int8.toInt_toInt32]
  omega
def RT (G : GM) : Prop := ∃ n, n ≤ 800 ∧ gI G 53 1 = nI n ∧ gI G 186 6 = nI n ∧ ∀ i, i < n → gI G 54 i = gI G 191 i ∧ isB (gI G 54 i)
theorem put4_eq {t t' : Nat → Int32} {n : Nat} (v : Int32) (h : ∀ i, i < n → t i = t' i ∧ isB (t i)) : ∀ i, i < n + 4 → put4 t n v i = put4 t' n v i ∧ isB (put4 t n v i) := by
  intro i hi
  unfold put4
  by_cases h0 : i = n
  · simp only [if_pos h0]; exact ⟨trivial, fB_B _ _⟩
  · by_cases h1 : i = n + 1
    · simp only [if_neg h0, if_pos h1]; exact ⟨trivial, fB_B _ _⟩
    · by_cases h2 : i = n + 2
      · simp only [if_neg h0, if_neg h1, if_pos h2]; exact ⟨trivial, fB_B _ _⟩
      · by_cases h3 : i = n + 3
        · simp only [if_neg h0, if_neg h1, if_neg h2, if_pos h3]; exact ⟨trivial, fB_B _ _⟩
        · simp only [if_neg h0, if_neg h1, if_neg h2, if_neg h3]
          exact h i (by omega)
