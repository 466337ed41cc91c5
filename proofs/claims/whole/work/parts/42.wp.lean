/-! PURE part: reads behind writes, straight rules, loop rules -/
theorem gI_sI (G : GM) (a k : Nat) (v : Int32) (a' k' : Nat) : gI (sI G a k v) a' k' = if a' = a ∧ k' = k then v else gI G a' k' := by
  unfold gI sI up2
  by_cases h : a' = a
  · by_cases h2 : k' = k
    · simp [h, h2]
    · simp [h, h2]
  · simp [h]
theorem gI_sIs (G : GM) (a k : Nat) (v : Int32) : gI (sI G a k v) a k = v := by simp [gI_sI]
theorem gI_sIa {a a' : Nat} (h : a' ≠ a) (G : GM) (k : Nat) (v : Int32) (k' : Nat) : gI (sI G a k v) a' k' = gI G a' k' := by simp [gI_sI, h]
theorem gI_sIk {k k' : Nat} (h : k' ≠ k) (G : GM) (a a' : Nat) (v : Int32) : gI (sI G a k v) a' k' = gI G a' k' := by simp [gI_sI, h]
theorem gJ_sJ (G : GM) (a k : Nat) (v : Int64) (a' k' : Nat) : gJ (sJ G a k v) a' k' = if a' = a ∧ k' = k then v else gJ G a' k' := by
  unfold gJ sJ up2
  by_cases h : a' = a
  · by_cases h2 : k' = k
    · simp [h, h2]
    · simp [h, h2]
  · simp [h]
theorem gI_sJ (G : GM) (a k : Nat) (v : Int64) (a' k' : Nat) : gI (sJ G a k v) a' k' = gI G a' k' := rfl
theorem gJ_sI (G : GM) (a k : Nat) (v : Int32) (a' k' : Nat) : gJ (sI G a k v) a' k' = gJ G a' k' := rfl
theorem nw_sI (G : GM) (a k : Nat) (v : Int32) : nw (sI G a k v) = nw G := rfl
theorem nx_sI (G : GM) (a k : Nat) (v : Int32) : nx (sI G a k v) = nx G := rfl
theorem nw_sJ (G : GM) (a k : Nat) (v : Int64) : nw (sJ G a k v) = nw G := rfl
theorem nx_sJ (G : GM) (a k : Nat) (v : Int64) : nx (sJ G a k v) = nx G := rfl
theorem gd_t {α : Type} (p : Option α) : gd true p = p := rfl
theorem gd_d {α : Type} {c : Prop} [Decidable c] (h : c) (p : Option α) : gd (decide c) p = p := by simp [gd, h]
theorem lt_r {α β : Type} (x : α) (f : α → β) : lt x f = f x := rfl
theorem ob_s {α β : Type} (v : α) (G : GM) (f : α → GM → Option β) : ob (some (v, G)) f = f v G := rfl
theorem ov_s {β : Type} (G : GM) (f : GM → Option β) : ov (some G) f = f G := rfl
theorem inb_n {j n : Nat} (h : j < n) (hn : n < 2 ^ 31) : inb (nI j) n = true := by
  have h1 := nI_pos (n := j) (by omega)
  have h2 := nI_clamp (n := j) (by omega)
  simp [inb, h1, h2, h]
theorem wl0_P {V : Type} {b : GM → (GM → Option V) → Option V} {P : Option V → Prop} {I : GM → Prop} {m : GM → Nat} (hb : ∀ (kc : GM → Option V) (G : GM), I G → (∀ G', I G' → m G' < m G → P (kc G')) → P (b G kc)) : ∀ (n : Nat) (G : GM), I G → m G < n → P (wl0 n b G)
  | 0, _, _, h => absurd h (Nat.not_lt_zero _)
  | n + 1, G, hI, hm => hb _ G hI fun G' hI' hm' => wl0_P hb n G' hI' (by omega)
theorem wl1_P {t0 V : Type} {b : t0 → GM → (t0 → GM → Option V) → Option V} {P : Option V → Prop} {I : t0 → GM → Prop} {m : t0 → GM → Nat} (hb : ∀ (kc : t0 → GM → Option V) (x : t0) (G : GM), I x G → (∀ x' G', I x' G' → m x' G' < m x G → P (kc x' G')) → P (b x G kc)) : ∀ (n : Nat) (x : t0) (G : GM), I x G → m x G < n → P (wl1 n b x G)
  | 0, _, _, _, h => absurd h (Nat.not_lt_zero _)
  | n + 1, x, G, hI, hm => hb _ x G hI fun x' G' hI' hm' => wl1_P hb n x' G' hI' (by omega)
theorem wl2_P {t0 t1 V : Type} {b : t0 → t1 → GM → (t0 → t1 → GM → Option V) → Option V} {P : Option V → Prop} {I : t0 → t1 → GM → Prop} {m : t0 → t1 → GM → Nat} (hb : ∀ (kc : t0 → t1 → GM → Option V) (x : t0) (y : t1) (G : GM), I x y G → (∀ x' y' G', I x' y' G' → m x' y' G' < m x y G → P (kc x' y' G')) → P (b x y G kc)) : ∀ (n : Nat) (x : t0) (y : t1) (G : GM), I x y G → m x y G < n → P (wl2 n b x y G)
  | 0, _, _, _, _, h => absurd h (Nat.not_lt_zero _)
  | n + 1, x, y, G, hI, hm => hb _ x y G hI fun x' y' G' hI' hm' => wl2_P hb n x' y' G' hI' (by omega)
/-- a loop that counts up from one number to another -/
theorem wl1_up {V : Type} {b : Int32 → GM → (Int32 → GM → Option V) → Option V} {P : Option V → Prop} (I : Nat → GM → Prop) (N : Nat) (hN : N < 2 ^ 31) (hb : ∀ (kc : Int32 → GM → Option V) (i : Nat) (G : GM), i ≤ N → I i G → (i < N → ∀ G', I (i + 1) G' → P (kc (nI (i + 1)) G')) → P (b (nI i) G kc)) {n i : Nat} {G : GM} (hi : i ≤ N) (hI : I i G) (hn : N - i < n) : P (wl1 n b (nI i) G) := by
  refine wl1_P (P := P) (I := fun x G => ∃ i, i ≤ N ∧ x = nI i ∧ I i G) (m := fun x _ => N - x.toNatClampNeg) ?_ n (nI i) G ⟨i, hi, rfl, hI⟩ (by rw [nI_clamp (by omega)]; exact hn)
  rintro kc _ G ⟨i, hi, rfl, hI⟩ hk
  refine hb kc i G hi hI fun h G' hI' => hk _ G' ⟨i + 1, h, rfl, hI'⟩ ?_
  rw [nI_clamp (by omega), nI_clamp (by omega)]
  omega
theorem wl2_up {V t : Type} {b : t → Int32 → GM → (t → Int32 → GM → Option V) → Option V} {P : Option V → Prop} (I : Nat → t → GM → Prop) (N : Nat) (hN : N < 2 ^ 31) (hb : ∀ (kc : t → Int32 → GM → Option V) (i : Nat) (y : t) (G : GM), i ≤ N → I i y G → (i < N → ∀ y' G', I (i + 1) y' G' → P (kc y' (nI (i + 1)) G')) → P (b y (nI i) G kc)) {n i : Nat} {y : t} {G : GM} (hi : i ≤ N) (hI : I i y G) (hn : N - i < n) : P (wl2 n b y (nI i) G) := by
  refine wl2_P (P := P) (I := fun y x G => ∃ i, i ≤ N ∧ x = nI i ∧ I i y G) (m := fun _ x _ => N - x.toNatClampNeg) ?_ n y (nI i) G ⟨i, hi, rfl, hI⟩ (by rw [nI_clamp (by omega)]; exact hn)
  rintro kc y _ G ⟨i, hi, rfl, hI⟩ hk
  refine hb kc i y G hi hI fun h y' G' hI' => hk y' _ G' ⟨i + 1, h, rfl, hI'⟩ ?_
  rw [nI_clamp (by omega), nI_clamp (by omega)]
  omega
theorem lit (n : Nat) : (OfNat.ofNat n : Int32) = nI (OfNat.ofNat n) := rfl
theorem oN (n : Nat) : Int32.ofNat n = nI n := rfl
theorem litJ (n : Nat) : (OfNat.ofNat n : Int64) = lN (OfNat.ofNat n) := rfl
theorem lg_lt0 (x y : Int64) : (lg_cmp x y < 0) ↔ x < y := by
  unfold lg_cmp
  have e : x = y ↔ x.toInt = y.toInt := Int64.toInt_inj.symm
  simp only [Int64.lt_iff_toInt_lt, e]
  by_cases h : y.toInt < x.toInt
  · rw [if_pos h]; constructor
    · intro h2; exact absurd h2 (by decide)
    · omega
  · rw [if_neg h]
    by_cases h2 : x.toInt = y.toInt
    · rw [if_pos h2]; constructor
      · intro h2; exact absurd h2 (by decide)
      · omega
    · rw [if_neg h2]; constructor
      · omega
      · intro _; decide
theorem lg_gt0 (x y : Int64) : (0 < lg_cmp x y) ↔ y < x := by
  unfold lg_cmp
  by_cases h : y < x
  · rw [if_pos h]; exact ⟨fun _ => h, fun _ => by decide⟩
  · rw [if_neg h]
    by_cases h2 : x = y
    · rw [if_pos h2]; exact ⟨fun h3 => absurd h3 (by decide), fun h3 => absurd h3 h⟩
    · rw [if_neg h2]; exact ⟨fun h3 => absurd h3 (by decide), fun h3 => absurd h3 h⟩
theorem lg_eq0 (x y : Int64) : (lg_cmp x y = 0) ↔ x = y := by
  unfold lg_cmp
  by_cases h : y < x
  · rw [if_pos h]; exact ⟨fun h3 => absurd h3 (by decide), fun h3 => absurd (h3 ▸ h) (by rw [Int64.lt_iff_toInt_lt]; omega)⟩
  · rw [if_neg h]
    by_cases h2 : x = y
    · rw [if_pos h2]; exact ⟨fun _ => h2, fun _ => rfl⟩
    · rw [if_neg h2]; exact ⟨fun h3 => absurd h3 (by decide), fun h3 => absurd h3 h2⟩
theorem lg_le0 (x y : Int64) : (lg_cmp x y ≤ 0) ↔ x ≤ y := by
  have h := lg_gt0 x y
  constructor
  · intro h1
    refine Int64.not_lt.mp fun h2 => ?_
    exact absurd h1 (Int32.not_le.mpr (h.mpr h2))
  · intro h1
    refine Int32.not_lt.mp fun h2 => ?_
    exact absurd h1 (Int64.not_le.mpr (h.mp h2))
theorem lg_ge0 (x y : Int64) : (0 ≤ lg_cmp x y) ↔ y ≤ x := by
  have h := lg_lt0 x y
  constructor
  · intro h1
    refine Int64.not_lt.mp fun h2 => ?_
    exact absurd h1 (Int32.not_le.mpr (h.mpr h2))
  · intro h1
    refine Int32.not_lt.mp fun h2 => ?_
    exact absurd h1 (Int64.not_le.mpr (h.mp h2))
theorem f_in_eq (a b c : Int64) (G : GM) : f_X10_in a b c G = some ((if b ≤ a ∧ a ≤ c then 1 else 0), G) := by
  unfold f_X10_in
  simp only [lg_lt0, lg_gt0]
  by_cases hb : b ≤ a
  · by_cases hc : a ≤ c
    · simp [hb, hc, Int64.not_lt.mpr hb, Int64.not_lt.mpr hc]
    · simp [hb, hc, Int64.not_lt.mpr hb, Int64.not_le.mp hc]
  · simp [hb, Int64.not_le.mp hb]
