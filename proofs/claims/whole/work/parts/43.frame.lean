/-! frames: which places may be written -/
def fr (W : Nat → Nat → Bool) (G G' : GM) : Prop := (∀ a k, W a k = false → gI G' a k = gI G a k ∧ gJ G' a k = gJ G a k) ∧ nw G' = nw G ∧ nx G' = nx G
theorem fr_refl (W : Nat → Nat → Bool) (G : GM) : fr W G G := ⟨fun _ _ _ => ⟨rfl, rfl⟩, rfl, rfl⟩
theorem fr_trans {W : Nat → Nat → Bool} {G G1 G2 : GM} (h : fr W G G1) (h2 : fr W G1 G2) : fr W G G2 :=
  ⟨fun a k hk => ⟨((h2.1 a k hk).1).trans (h.1 a k hk).1, ((h2.1 a k hk).2).trans (h.1 a k hk).2⟩, h2.2.1.trans h.2.1, h2.2.2.trans h.2.2⟩
theorem fr_mono {W W' : Nat → Nat → Bool} {G G1 : GM} (h : fr W G G1) (hw : ∀ a k, W' a k = false → W a k = false) : fr W' G G1 :=
  ⟨fun a k hk => h.1 a k (hw a k hk), h.2.1, h.2.2⟩
theorem fr_sI {W : Nat → Nat → Bool} {G : GM} {a k : Nat} {v : Int32} (h : W a k = true) : fr W G (sI G a k v) := by
  refine ⟨fun a' k' hk => ⟨?_, rfl⟩, rfl, rfl⟩
  rw [gI_sI]
  refine if_neg fun he => ?_
  rw [he.1, he.2, h] at hk
  cases hk
theorem fr_sJ {W : Nat → Nat → Bool} {G : GM} {a k : Nat} {v : Int64} (h : W a k = true) : fr W G (sJ G a k v) := by
  refine ⟨fun a' k' hk => ⟨rfl, ?_⟩, rfl, rfl⟩
  rw [gJ_sJ]
  refine if_neg fun he => ?_
  rw [he.1, he.2, h] at hk
  cases hk
theorem fr_I {W : Nat → Nat → Bool} {G G1 : GM} (h : fr W G G1) {a k : Nat} (hk : W a k = false) : gI G1 a k = gI G a k := (h.1 a k hk).1
theorem fr_J {W : Nat → Nat → Bool} {G G1 : GM} (h : fr W G G1) {a k : Nat} (hk : W a k = false) : gJ G1 a k = gJ G a k := (h.1 a k hk).2
theorem fr_tI {W : Nat → Nat → Bool} {G G1 : GM} {a k : Nat} {v : Int32} (h : fr W G G1) (hw : W a k = true) : fr W G (sI G1 a k v) := fr_trans h (fr_sI hw)
theorem fr_tJ {W : Nat → Nat → Bool} {G G1 : GM} {a k : Nat} {v : Int64} (h : fr W G G1) (hw : W a k = true) : fr W G (sJ G1 a k v) := fr_trans h (fr_sJ hw)
/-- one row of longs, all of it -/
def wA (b : Nat) : Nat → Nat → Bool := fun a _ => a == b
theorem wA_t (b k : Nat) : wA b b k = true := by simp [wA]
theorem wA_f {a b : Nat} (h : a ≠ b) (k : Nat) : wA b a k = false := by simp [wA, h]
/-- SLOTS: what the class and the reference hold of them -/
def RS1 (G : GM) (s : Nat) : Prop := (gI G 70 s = 0 ∧ gI G 187 s = -1) ∨ (gI G 70 s = 1 ∧ ∃ w n, w < 4 ∧ n ≤ 60 ∧ gI G 187 s = nI w ∧ gI G 69 s = nI w ∧ gI G 68 s = nI n ∧ gI G 188 s = nI n ∧ ∀ i, i < n → gJ G (64 + s) i = gJ G 189 (60 * s + i))
def RS (G : GM) : Prop := ∀ s, s < 4 → RS1 G s
theorem isSlot_n {s : Nat} (h : s < 4) (G : GM) : f_X8_isSlot (nI s) G = some (1, G) := by
  unfold f_X8_isSlot
  rw [if_neg (nI_pos (by omega)), if_neg]
  rw [lit, nI_leI (by omega) (by omega)]; omega
theorem isSlot_x {x : Int32} (h : ¬ ∃ s, s < 4 ∧ x = nI s) (G : GM) : f_X8_isSlot x G = some (0, G) := by
  unfold f_X8_isSlot
  rcases pk_ix x (n := 4) (by omega) with h1 | h1 | h1
  · rw [if_pos h1]
  · by_cases h0 : x < 0
    · rw [if_pos h0]
    · rw [if_neg h0, lit, if_pos h1]
  · exact absurd h1 h
theorem misSlot_n {s : Nat} (h : s < 4) (G : GM) : f_X10_isSlot (nI s) G = some (1, G) := by
  unfold f_X10_isSlot
  rw [f_in_eq, nI_l (by omega), if_pos]
  · rfl
  · constructor
    · exact (lN_le (a := 0) (by omega) (by omega)).mpr (by omega)
    · exact (lN_le (b := 3) (by omega) (by omega)).mpr (by omega)
theorem i64_le (x : Int32) (a : Int64) {n : Int} (ha : a.toInt = n) : (a ≤ x.toInt64) ↔ n ≤ x.toInt := by
  rw [Int64.le_iff_toInt_le, Int32.toInt_toInt64, ha]
theorem i64_ge (x : Int32) (a : Int64) {n : Int} (ha : a.toInt = n) : (x.toInt64 ≤ a) ↔ x.toInt ≤ n := by
  rw [Int64.le_iff_toInt_le, Int32.toInt_toInt64, ha]
theorem isq {c : Prop} [Decidable c] {α : Type} {G : GM} (h : c) : (some ((if c then (1 : Int32) else 0), G) : Option (Int32 × GM)) = some (1, G) := by rw [if_pos h]
theorem in_t {a b c : Int64} (h : b ≤ a ∧ a ≤ c) (G : GM) : f_X10_in a b c G = some (1, G) := by rw [f_in_eq, if_pos h]
theorem in_f {a b c : Int64} (h : ¬ (b ≤ a ∧ a ≤ c)) (G : GM) : f_X10_in a b c G = some (0, G) := by rw [f_in_eq, if_neg h]
theorem misSlot_x {x : Int32} (h : ¬ ∃ s, s < 4 ∧ x = nI s) (G : GM) : f_X10_isSlot x G = some (0, G) := by
  unfold f_X10_isSlot
  rw [in_f]
  · rfl
  · rw [i64_le (n := 0) x 0 (by decide), i64_ge (n := 3) x 3 (by decide)]
    rintro ⟨h1, h2⟩
    refine h ⟨x.toInt.toNat, by omega, ?_⟩
    apply Int32.toInt_inj.mp
    rw [nI_toInt (by omega)]
    omega
