/-! DRAWS, mixing, hands: pure -/
def bh_dN (X : Nat) : Nat := (1103515245 * X + 12345) % 2147483648
def bh_d2 (X : Nat) : Nat := bh_dN (bh_dN X)
def bh_dV (X n : Nat) : Nat := (32768 * (bh_dN X / 65536) + bh_dN (bh_dN X) / 65536) % n
theorem bh_dN_lt (X : Nat) : bh_dN X < 2147483648 := Nat.mod_lt _ (by omega)
theorem bh_d2_lt (X : Nat) : bh_d2 X < 2147483648 := bh_dN_lt _
theorem bh_dV_lt {X n : Nat} (h : 0 < n) : bh_dV X n < n := Nat.mod_lt _ h
/-- two places change -/
def bh_sw (a : Nat → Nat) (p j : Nat) : Nat → Nat := fun i => if i = j then a p else if i = p then a j else a i
/-- p places are to be looked at still: p, p - 1, .. 1 -/
def bh_mix : Nat → Nat → (Nat → Nat) → (Nat → Nat)
  | 0, _, a => a
  | p + 1, X, a => bh_mix p (bh_d2 X) (bh_sw a (p + 1) (bh_dV X (p + 2)))
def bh_it : Nat → Nat → Nat
  | 0, X => X
  | n + 1, X => bh_it n (bh_d2 X)
theorem bh_it_lt : ∀ (n : Nat) {X : Nat}, X < 2147483648 → bh_it n X < 2147483648
  | 0, _, h => h
  | n + 1, X, _ => bh_it_lt n (bh_d2_lt X)
theorem bh_it_add : ∀ (m n X : Nat), bh_it (m + n) X = bh_it n (bh_it m X)
  | 0, n, X => by rw [Nat.zero_add]; rfl
  | m + 1, n, X => by rw [show m + 1 + n = m + n + 1 from by omega, bh_it, bh_it_add m n]; rfl
/-- each of n numbers from lo on, once -/
def bh_prm (n lo : Nat) (a : Nat → Nat) : Prop := (∀ i, i < n → lo ≤ a i ∧ a i < lo + n) ∧ (∀ i j, i < n → j < n → a i = a j → i = j) ∧ ∀ v, lo ≤ v → v < lo + n → ∃ i, i < n ∧ a i = v
theorem bh_prm_id (n lo : Nat) : bh_prm n lo (fun i => lo + i) :=
  ⟨fun i hi => ⟨by show lo ≤ lo + i; omega, by show lo + i < lo + n; omega⟩, fun i j _ _ h => by have h : lo + i = lo + j := h; omega, fun v h1 h2 => ⟨v - lo, by omega, by show lo + (v - lo) = v; omega⟩⟩
theorem bh_prm_sw {n lo p j : Nat} {a : Nat → Nat} (hp : p < n) (hj : j < n) (h : bh_prm n lo a) : bh_prm n lo (bh_sw a p j) := by
  obtain ⟨h1, h2, h3⟩ := h
  refine ⟨fun i hi => ?_, fun i k hi hk => ?_, fun v hv1 hv2 => ?_⟩
  · unfold bh_sw
    split
    · exact h1 p hp
    · split
      · exact h1 j hj
      · exact h1 i hi
  · unfold bh_sw
    intro he
    by_cases e1 : i = j
    · by_cases e2 : k = j
      · omega
      · rw [if_pos e1, if_neg e2] at he
        by_cases e3 : k = p
        · rw [if_pos e3] at he
          have := h2 _ _ hp hj he; omega
        · rw [if_neg e3] at he
          have := h2 _ _ hp hk he; omega
    · rw [if_neg e1] at he
      by_cases e2 : k = j
      · rw [if_pos e2] at he
        by_cases e3 : i = p
        · rw [if_pos e3] at he
          have := h2 _ _ hj hp he; omega
        · rw [if_neg e3] at he
          have := h2 _ _ hi hp he; omega
      · rw [if_neg e2] at he
        by_cases e3 : i = p
        · rw [if_pos e3] at he
          by_cases e4 : k = p
          · omega
          · rw [if_neg e4] at he
            have := h2 _ _ hj hk he; omega
        · rw [if_neg e3] at he
          by_cases e4 : k = p
          · rw [if_pos e4] at he
            have := h2 _ _ hi hj he; omega
          · rw [if_neg e4] at he
            exact h2 _ _ hi hk he
  · obtain ⟨i, hi, hv⟩ := h3 v hv1 hv2
    by_cases e1 : i = p
    · refine ⟨j, hj, ?_⟩
      unfold bh_sw
      rw [if_pos rfl, ← e1]; exact hv
    · by_cases e2 : i = j
      · refine ⟨p, hp, ?_⟩
        unfold bh_sw
        by_cases e3 : p = j
        · omega
        · rw [if_neg e3, if_pos rfl, ← e2]; exact hv
      · refine ⟨i, hi, ?_⟩
        unfold bh_sw
        rw [if_neg e2, if_neg e1]; exact hv
theorem bh_mix_prm {n lo : Nat} : ∀ (p X : Nat) (a : Nat → Nat), p < n → bh_prm n lo a → bh_prm n lo (bh_mix p X a)
  | 0, _, _, _, h => h
  | p + 1, X, a, hp, h => bh_mix_prm p _ _ (by omega) (bh_prm_sw hp (Nat.lt_of_lt_of_le (bh_dV_lt (by omega)) hp) h)
/-- some rising numbers, mixed -/
def bh_mx0 (n lo X : Nat) : Nat → Nat := bh_mix (n - 1) X (fun i => lo + i)
theorem bh_mx0_prm (n lo X : Nat) : bh_prm n lo (bh_mx0 n lo X) := by
  unfold bh_mx0
  by_cases h : 0 < n
  · exact bh_mix_prm _ _ _ (by omega) (bh_prm_id n lo)
  · have : n = 0 := by omega
    subst this
    exact ⟨fun i hi => absurd hi (Nat.not_lt_zero _), fun i j hi => absurd hi (Nat.not_lt_zero _), fun v h1 h2 => by omega⟩
/-! three at most, rising -/
def bh_srt (n : Nat) (a : Nat → Nat) (j : Nat) : Nat :=
  if n ≤ 1 then a j else if n = 2 then (if j = 0 then min (a 0) (a 1) else max (a 0) (a 1))
  else if j = 0 then min (min (a 0) (a 1)) (a 2) else if j = 1 then max (min (a 0) (a 1)) (min (max (a 0) (a 1)) (a 2)) else max (max (a 0) (a 1)) (a 2)
/-- the least above some number, of n from o on; 0: none -/
def bh_lst (a : Nat → Nat) (o last : Nat) : Nat → Nat
  | 0 => 0
  | i + 1 => if a (o + i) > last ∧ (bh_lst a o last i = 0 ∨ a (o + i) < bh_lst a o last i) then a (o + i) else bh_lst a o last i
theorem bh_lst_srt {a : Nat → Nat} {o n j : Nat} (hn : n ≤ 3) (hj : j < n) (hpos : ∀ i, i < n → 0 < a (o + i)) (hd : ∀ i k, i < n → k < n → a (o + i) = a (o + k) → i = k) : bh_lst a o (if j = 0 then 0 else bh_srt n (fun i => a (o + i)) (j - 1)) n = bh_srt n (fun i => a (o + i)) j := by
  rcases (by omega : n = 1 ∨ n = 2 ∨ n = 3) with rfl | rfl | rfl
  · have hj0 : j = 0 := by omega
    subst hj0
    have p0 := hpos 0 (by omega)
    simp [bh_lst, bh_srt]
    omega
  · have p0 := hpos 0 (by omega)
    have p1 := hpos 1 (by omega)
    have d := hd 0 1 (by omega) (by omega)
    simp only [Nat.add_zero] at p0 d
    generalize hx : a o = x at *
    generalize hy : a (o + 1) = y at *
    have d' : x ≠ y := fun h => absurd (d h) (by omega)
    rcases (by omega : j = 0 ∨ j = 1) with rfl | rfl <;> simp [bh_lst, bh_srt, hx, hy] <;> grind
  · have p0 := hpos 0 (by omega)
    have p1 := hpos 1 (by omega)
    have p2 := hpos 2 (by omega)
    have d := hd 0 1 (by omega) (by omega)
    have d2 := hd 0 2 (by omega) (by omega)
    have d3 := hd 1 2 (by omega) (by omega)
    simp only [Nat.add_zero] at p0 d d2
    generalize hx : a o = x at *
    generalize hy : a (o + 1) = y at *
    generalize hz : a (o + 2) = z at *
    have d' : x ≠ y := fun h => absurd (d h) (by omega)
    have d2' : x ≠ z := fun h => absurd (d2 h) (by omega)
    have d3' : y ≠ z := fun h => absurd (d3 h) (by omega)
    rcases (by omega : j = 0 ∨ j = 1 ∨ j = 2) with rfl | rfl | rfl <;> simp [bh_lst, bh_srt, hx, hy, hz] <;> grind
theorem bh_srt_mem {n j : Nat} {a : Nat → Nat} (hn : n ≤ 3) (hj : j < n) : ∃ i, i < n ∧ bh_srt n a j = a i := by
  rcases (by omega : n = 1 ∨ n = 2 ∨ n = 3) with rfl | rfl | rfl
  · exact ⟨j, hj, rfl⟩
  · rcases (by omega : j = 0 ∨ j = 1) with rfl | rfl <;> rcases Nat.le_total (a 0) (a 1) with h | h <;> simp only [bh_srt] <;> simp <;> first | exact ⟨0, by omega, by omega⟩ | exact ⟨1, by omega, by omega⟩
  · rcases (by omega : j = 0 ∨ j = 1 ∨ j = 2) with rfl | rfl | rfl <;> rcases Nat.le_total (a 0) (a 1) with h | h <;> rcases Nat.le_total (a 0) (a 2) with h2 | h2 <;> rcases Nat.le_total (a 1) (a 2) with h3 | h3 <;> simp only [bh_srt] <;> simp <;> first | exact ⟨0, by omega, by omega⟩ | exact ⟨1, by omega, by omega⟩ | exact ⟨2, by omega, by omega⟩
theorem bh_srt_onto {n i : Nat} {a : Nat → Nat} (hn : n ≤ 3) (hi : i < n) : ∃ j, j < n ∧ bh_srt n a j = a i := by
  rcases (by omega : n = 1 ∨ n = 2 ∨ n = 3) with rfl | rfl | rfl
  · exact ⟨i, hi, rfl⟩
  · rcases (by omega : i = 0 ∨ i = 1) with rfl | rfl <;> rcases Nat.le_total (a 0) (a 1) with h | h <;> simp only [bh_srt] <;> simp <;> first | exact ⟨0, by omega, by simp; omega⟩ | exact ⟨1, by omega, by simp; omega⟩
  · rcases (by omega : i = 0 ∨ i = 1 ∨ i = 2) with rfl | rfl | rfl <;> rcases Nat.le_total (a 0) (a 1) with h | h <;> rcases Nat.le_total (a 0) (a 2) with h2 | h2 <;> rcases Nat.le_total (a 1) (a 2) with h3 | h3 <;> simp only [bh_srt] <;> simp <;> first | exact ⟨0, by omega, by simp; omega⟩ | exact ⟨1, by omega, by simp; omega⟩ | exact ⟨2, by omega, by simp; omega⟩
theorem bh_srt_inj {n : Nat} {a : Nat → Nat} (hn : n ≤ 3) (hd : ∀ i k, i < n → k < n → a i = a k → i = k) : ∀ i k, i < n → k < n → bh_srt n a i = bh_srt n a k → i = k := by
  intro i k hi hk he
  rcases (by omega : n = 1 ∨ n = 2 ∨ n = 3) with rfl | rfl | rfl
  · omega
  · have d : a 0 ≠ a 1 := fun h => absurd (hd 0 1 (by omega) (by omega) h) (by omega)
    rcases (by omega : i = 0 ∨ i = 1) with rfl | rfl <;> rcases (by omega : k = 0 ∨ k = 1) with rfl | rfl <;> simp [bh_srt] at he <;> omega
  · have d : a 0 ≠ a 1 := fun h => absurd (hd 0 1 (by omega) (by omega) h) (by omega)
    have d2 : a 0 ≠ a 2 := fun h => absurd (hd 0 2 (by omega) (by omega) h) (by omega)
    have d3 : a 1 ≠ a 2 := fun h => absurd (hd 1 2 (by omega) (by omega) h) (by omega)
    rcases (by omega : i = 0 ∨ i = 1 ∨ i = 2) with rfl | rfl | rfl <;> rcases (by omega : k = 0 ∨ k = 1 ∨ k = 2) with rfl | rfl | rfl <;> simp [bh_srt] at he <;> omega
