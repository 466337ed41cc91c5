/-! SLOTS: row, write, paste -/
def DS : Nat → Nat → Bool := fun a _ => (Nat.ble 64 a && Nat.ble a 70) || (Nat.ble 187 a && Nat.ble a 189)
def WS : Nat → Nat → Bool := fun a k => (Nat.ble 64 a && Nat.ble a 70) || (Nat.ble 187 a && Nat.ble a 190) || (Nat.beq a 186 && Nat.beq k 0)
theorem DS_l {s : Nat} (h : s < 4) (k : Nat) : DS (64 + s) k = true := by
  unfold DS
  rw [Nat.ble_eq_true_of_le (by omega), Nat.ble_eq_true_of_le (by omega)]
  rfl
theorem RS1_fr {W : Nat → Nat → Bool} {G G' : GM} {s : Nat} (hs : s < 4) (h : fr W G G') (hw : ∀ a k, DS a k = true → W a k = false) (hS : RS1 G s) : RS1 G' s := by
  unfold RS1
  rw [fr_I h (hw 70 s rfl), fr_I h (hw 187 s rfl), fr_I h (hw 69 s rfl), fr_I h (hw 68 s rfl), fr_I h (hw 188 s rfl)]
  rcases hS with h1 | ⟨h1, w, n, h2, h3, h4, h5, h6, h7, h8⟩
  · exact Or.inl h1
  · refine Or.inr ⟨h1, w, n, h2, h3, h4, h5, h6, h7, fun i hi => ?_⟩
    rw [fr_J h (hw (64 + s) i (DS_l hs i)), fr_J h (hw 189 (60 * s + i) rfl)]
    exact h8 i hi
theorem RS_fr {W : Nat → Nat → Bool} {G G' : GM} (h : fr W G G') (hw : ∀ a k, DS a k = true → W a k = false) (hS : RS G) : RS G' := fun s hs => RS1_fr hs h hw (hS s hs)
def WT : Nat → Nat → Bool := fun a k => Nat.beq a 186 && Nat.beq k 0
theorem WT_DS (a k : Nat) (h : DS a k = true) : WT a k = false := by
  unfold WT
  by_cases ha : a = 186
  · subst ha; exact absurd h (by unfold DS; decide)
  · have : Nat.beq a 186 = false := by
      cases h1 : Nat.beq a 186 with
      | false => rfl
      | true => exact absurd (Nat.eq_of_beq_eq_true h1) ha
    rw [this]; rfl
theorem RS_thr {G : GM} (hS : RS G) : RS (sI G 186 0 0) := RS_fr (fr_sI (W := WT) rfl) WT_DS hS
theorem fr_thr (G : GM) : fr WS G (sI G 186 0 0) := fr_sI rfl
theorem m_row_loop (s n : Nat) (x2 : Int32) (hs : s < 4) (hn : n ≤ 60) (G : GM) : ∃ G', wl1 FU (lp_X10_row_57 (nI s) x2 (nI n)) (0 : Int32) G = some (0, G') ∧ fr (wA 189) G G' ∧ (∀ i, i < n → gJ G' 189 (60 * s + i) = 0) ∧ ∀ k, ¬ (60 * s ≤ k ∧ k < 60 * s + n) → gJ G' 189 k = gJ G 189 k := by
  refine wl1_up (P := fun o => ∃ G', o = some (0, G') ∧ fr (wA 189) G G' ∧ (∀ i, i < n → gJ G' 189 (60 * s + i) = 0) ∧ ∀ k, ¬ (60 * s ≤ k ∧ k < 60 * s + n) → gJ G' 189 k = gJ G 189 k) (I := fun i G1 => fr (wA 189) G G1 ∧ (∀ j, j < i → gJ G1 189 (60 * s + j) = 0) ∧ ∀ k, ¬ (60 * s ≤ k ∧ k < 60 * s + n) → gJ G1 189 k = gJ G 189 k) (N := n) (by omega) ?_ (n := FU) (i := 0) (Nat.zero_le _) ⟨fr_refl _ _, fun j hj => absurd hj (Nat.not_lt_zero _), fun _ _ => rfl⟩ (by unfold FU; omega)
  rintro kc i G1 hi ⟨h1, h2, h3⟩ hk
  unfold lp_X10_row_57
  by_cases h : i < n
  · rw [if_neg (nI_ge h (by omega)), show (60 : Int32) = nI 60 from rfl, pk_mul, nI_add, inb_n (by omega) (by omega), gd_t, lt_r, nI_clamp (by omega), nI_1]
    refine hk h _ ⟨fr_tJ h1 (wA_t _ _), fun j hj => ?_, fun k hk => ?_⟩
    · rw [gJ_sJ]
      by_cases hji : j = i
      · rw [if_pos ⟨rfl, by omega⟩]
      · rw [if_neg (fun h3 => hji (by omega))]
        exact h2 j (by omega)
    · rw [gJ_sJ, if_neg (by omega)]
      exact h3 k hk
  · rw [if_pos (nI_le (by omega) (by omega))]
    exact ⟨G1, rfl, h1, fun j hj => h2 j (by omega), h3⟩
