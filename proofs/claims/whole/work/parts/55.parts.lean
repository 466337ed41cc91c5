/-! PARTS in memory: the class's -/
theorem bh_shr {k p : Nat} (hk : k < 5) (hp : p < 2 ^ 31) : (nI p >>> (((5 : Int32) * ((4 : Int32) - nI k)) &&& 31)) &&& (31 : Int32) = nI (bh_dg p k) := by
  have key : ∀ (s : Int32) (q : Nat), (s.toBitVec.smod 32).toNat = q → (nI p >>> s) &&& (31 : Int32) = nI (p / 2 ^ q % 2 ^ 5) := fun s q hs => by
    rw [pk_shrN hp s q hs, pk_andN (Nat.lt_of_le_of_lt (Nat.div_le_self _ _) (by omega)) 5 (by decide)]
  rcases (by omega : k = 0 ∨ k = 1 ∨ k = 2 ∨ k = 3 ∨ k = 4) with rfl | rfl | rfl | rfl | rfl
  · rw [key _ 20 (by decide)]; rfl
  · rw [key _ 15 (by decide)]; rfl
  · rw [key _ 10 (by decide)]; rfl
  · rw [key _ 5 (by decide)]; rfl
  · rw [key _ 0 (by decide)]; rfl
theorem bh_packed {k n : Nat} (hk : k < 5) (hn : n < 32) (G : GM) : f_X6_packed (nI k) (nI n) G = some (nI (bh_pk k n), G) := by
  have key : ∀ (s : Int32) (q : Nat), (s.toBitVec.smod 32).toNat = q → n * 2 ^ q < 2 ^ 32 → nI n <<< s = nI (n * 2 ^ q) := fun s q hs h => pk_shlN s q hs h
  unfold f_X6_packed
  rw [if_neg (nI_pos (by omega)), if_pos (by rw [lit, nI_ltI (by omega) (by omega)]; omega)]
  rcases (by omega : k = 0 ∨ k = 1 ∨ k = 2 ∨ k = 3 ∨ k = 4) with rfl | rfl | rfl | rfl | rfl
  · rw [key _ 20 (by decide) (by omega)]; rfl
  · rw [key _ 15 (by decide) (by omega)]; rfl
  · rw [key _ 10 (by decide) (by omega)]; rfl
  · rw [key _ 5 (by decide) (by omega)]; rfl
  · rw [key _ 0 (by decide) (by omega)]; rfl
theorem bh_digit {k p : Nat} (hk : k < 5) (hp : p < 2 ^ 31) (G : GM) : f_X6_digit (nI p) (nI k) G = some (nI (bh_dg p k), G) := by
  unfold f_X6_digit
  rw [if_neg (nI_pos (by omega)), if_pos (by rw [lit, nI_ltI (by omega) (by omega)]; omega), bh_shr hk hp]
theorem bh_nIor (a b : Nat) : nI a ||| nI b = nI (a ||| b) := by
  apply Int32.toBitVec_inj.mp
  show BitVec.ofNat 32 a ||| BitVec.ofNat 32 b = BitVec.ofNat 32 (a ||| b)
  exact (BitVec.ofNat_or).symm
theorem bh_nIand (a b : Nat) : nI a &&& nI b = nI (a &&& b) := by
  apply Int32.toBitVec_inj.mp
  show BitVec.ofNat 32 a &&& BitVec.ofNat 32 b = BitVec.ofNat 32 (a &&& b)
  exact (BitVec.ofNat_and).symm
theorem bh_canTake {r p : Nat} (hr : r < 33554432) (hp : p < 33554432) (h : ∀ k, k < 5 → bh_dg r k < 16) (h' : ∀ k, k < 5 → bh_dg p k < 16) (G : GM) : f_X6_canTake (nI r) (nI p) G = some ((if bh_ct r p = true then 1 else 0), G) := by
  unfold f_X6_canTake
  obtain ⟨h1, h2⟩ := bh_take hr hp h h'
  rw [show (17318416 : Int32) = nI 17318416 from rfl, bh_nIor, bh_or_g hr h, pk_sub h1, bh_nIand]
  have h3 : (r + 17318416 - p) &&& 17318416 < 2 ^ 31 := Nat.lt_of_le_of_lt Nat.and_le_right (by omega)
  by_cases hc : bh_ct r p = true
  · rw [if_pos, if_pos hc]
    rw [h2.mpr (bh_ct_iff.mp hc)]
  · rw [if_neg, if_neg hc]
    rw [nI_eq h3 (by omega), h2]
    exact fun h5 => hc (bh_ct_iff.mpr h5)
/-- parts as they lie in memory -/
def bh_PO (G : GM) (v K lo hi S : Nat) (L : List Nat) : Prop := gI G v 1 = nI L.length ∧ gI G v 2 = nI K ∧ gI G v 3 = nI lo ∧ gI G v 4 = nI hi ∧ gI G v 5 = nI S ∧ ∀ i, i < L.length → gI G (v + 1) i = nI (L.getD i 0)
theorem bh_isPart {G : GM} {v K lo hi S p : Nat} {L : List Nat} (h : bh_PO G v K lo hi S L) (hK : K ≤ 5) (hp : p < 33554432) (hlo : lo < 100) (hhi : hi < 100) (hS : S < 1000) : f_X6_isPart v (nI p) G = some ((if bh_isP K lo hi S p = true then 1 else 0), G) := by
  obtain ⟨-, g2, g3, g4, g5, -⟩ := h
  unfold f_X6_isPart
  refine wl2_up (P := fun o => o = some ((if bh_isP K lo hi S p = true then 1 else 0), G)) (I := fun i y G' => G' = G ∧ y = nI (bh_sm (bh_dg p) i) ∧ bh_sm (bh_dg p) i ≤ 32 * i ∧ ∀ k, k < i → lo ≤ bh_dg p k ∧ bh_dg p k ≤ hi) (N := K) (by omega) ?_ (n := FU) (i := 0) (Nat.zero_le _) ⟨rfl, rfl, by unfold bh_sm; omega, fun _ h => absurd h (Nat.not_lt_zero _)⟩ (by unfold FU; omega)
  rintro kc i y G' hi' ⟨rfl, rfl, h3, h4⟩ hk
  unfold lp_X6_isPart_4
  by_cases hiK : i < K
  · have hd := bh_dg_lt p i
    rw [g2, if_neg (nI_ge hiK (by omega)), bh_shr (by omega) (by omega), lt_r, g3, g4]
    by_cases c1 : lo ≤ bh_dg p i
    · rw [if_neg (nI_nlt c1 (by omega))]
      by_cases c2 : bh_dg p i ≤ hi
      · rw [if_pos (nI_le c2 (by omega)), lt_r, nI_add, nI_1]
        refine hk hiK _ _ ⟨rfl, rfl, ?_, fun k hk' => ?_⟩
        · show bh_sm (bh_dg p) i + bh_dg p i ≤ _; omega
        · by_cases hki : k = i
          · subst hki; exact ⟨c1, c2⟩
          · exact h4 k (by omega)
      · rw [if_neg (nI_ge (by omega) (by omega)), if_neg]
        rw [bh_isP_iff]
        exact fun h => c2 (h.1 i hiK).2
    · rw [if_pos (nI_lt (by omega) (by omega)), if_neg]
      rw [bh_isP_iff]
      exact fun h => c1 (h.1 i hiK).1
  · have hiK2 : i = K := by omega
    subst hiK2
    rw [g2, if_pos (nI_le (by omega) (by omega)), g5]
    by_cases c : bh_sm (bh_dg p) i = S
    · rw [if_pos (by rw [c]), if_pos]
      rw [bh_isP_iff]
      exact ⟨h4, c⟩
    · rw [if_neg (by rw [nI_eq (by omega) (by omega)]; exact c), if_neg]
      rw [bh_isP_iff]
      exact fun h => c h.2
/-! frames, as a sentence on places -/
def bh_F (W : Nat → Nat → Prop) (G G' : GM) : Prop := (∀ a k, ¬ W a k → gI G' a k = gI G a k) ∧ (∀ a k, ¬ W a k → gJ G' a k = gJ G a k) ∧ nw G' = nw G ∧ nx G' = nx G
theorem bh_Fr (W : Nat → Nat → Prop) (G : GM) : bh_F W G G := ⟨fun _ _ _ => rfl, fun _ _ _ => rfl, rfl, rfl⟩
theorem bh_Ft {W : Nat → Nat → Prop} {G G1 G2 : GM} (h : bh_F W G G1) (h2 : bh_F W G1 G2) : bh_F W G G2 :=
  ⟨fun a k hk => (h2.1 a k hk).trans (h.1 a k hk), fun a k hk => (h2.2.1 a k hk).trans (h.2.1 a k hk), h2.2.2.1.trans h.2.2.1, h2.2.2.2.trans h.2.2.2⟩
theorem bh_Fm {W W' : Nat → Nat → Prop} {G G1 : GM} (h : bh_F W G G1) (hw : ∀ a k, W a k → W' a k) : bh_F W' G G1 :=
  ⟨fun a k hk => h.1 a k fun q => hk (hw a k q), fun a k hk => h.2.1 a k fun q => hk (hw a k q), h.2.2⟩
theorem bh_FI {W : Nat → Nat → Prop} {G G1 : GM} {a k : Nat} {v : Int32} (h : bh_F W G G1) (hw : W a k) : bh_F W G (sI G1 a k v) := by
  refine bh_Ft h ⟨fun a' k' hk => ?_, fun _ _ _ => rfl, rfl, rfl⟩
  rw [gI_sI, if_neg]
  rintro ⟨rfl, rfl⟩
  exact hk hw
theorem bh_FJ {W : Nat → Nat → Prop} {G G1 : GM} {a k : Nat} {v : Int64} (h : bh_F W G G1) (hw : W a k) : bh_F W G (sJ G1 a k v) := by
  refine bh_Ft h ⟨fun _ _ _ => rfl, fun a' k' hk => ?_, rfl, rfl⟩
  rw [gJ_sJ, if_neg]
  rintro ⟨rfl, rfl⟩
  exact hk hw
theorem bh_PO_F {W : Nat → Nat → Prop} {G G' : GM} {v K lo hi S : Nat} {L : List Nat} (h : bh_PO G v K lo hi S L) (hF : bh_F W G G') (h1 : ∀ k, 1 ≤ k → k ≤ 5 → ¬ W v k) (h2 : ∀ k, ¬ W (v + 1) k) : bh_PO G' v K lo hi S L := by
  obtain ⟨a1, a2, a3, a4, a5, a6⟩ := h
  refine ⟨?_, ?_, ?_, ?_, ?_, fun i hi => ?_⟩
  · rw [hF.1 _ _ (h1 1 (by omega) (by omega))]; exact a1
  · rw [hF.1 _ _ (h1 2 (by omega) (by omega))]; exact a2
  · rw [hF.1 _ _ (h1 3 (by omega) (by omega))]; exact a3
  · rw [hF.1 _ _ (h1 4 (by omega) (by omega))]; exact a4
  · rw [hF.1 _ _ (h1 5 (by omega) (by omega))]; exact a5
  · rw [hF.1 _ _ (h2 i)]; exact a6 i hi
/-! making the parts -/
def bh_WP (v : Nat) (a k : Nat) : Prop := (a = v ∧ 1 ≤ k ∧ k ≤ 5) ∨ a = v + 1
theorem bh_addIf {G : GM} {v K lo hi S p : Nat} {L : List Nat} (h : bh_PO G v K lo hi S L) (hK : K ≤ 5) (hp : p < 33554432) (hlo : lo < 100) (hhi : hi < 100) (hS : S < 1000) (hL : bh_isP K lo hi S p = true → L.length < 64) : ∃ G', f_X6_addIfPart v (nI p) G = some G' ∧ bh_PO G' v K lo hi S (if bh_isP K lo hi S p = true then L ++ [p] else L) ∧ bh_F (bh_WP v) G G' := by
  unfold f_X6_addIfPart
  rw [bh_isPart h hK hp hlo hhi hS, ob_s]
  by_cases c : bh_isP K lo hi S p = true
  · have hL := hL c
    obtain ⟨a1, a2, a3, a4, a5, a6⟩ := h
    rw [if_pos c, if_neg (by decide), if_pos c, a1, if_neg (by rw [show (64 : Int32) = nI 64 from rfl, nI_leI (by omega) (by omega)]; omega), inb_n (by omega) (by omega), gd_t, lt_r, nI_clamp (by omega), lt_r]
    refine ⟨_, rfl, ⟨?_, ?_, ?_, ?_, ?_, fun i hi => ?_⟩, bh_FI (bh_FI (bh_Fr _ _) (Or.inr rfl)) (Or.inl ⟨rfl, by omega, by omega⟩)⟩
    · rw [gI_sIs, gI_sIa (by omega), a1, List.length_append]; exact nI_1 _
    · rw [gI_sIk (by omega), gI_sIa (by omega)]; exact a2
    · rw [gI_sIk (by omega), gI_sIa (by omega)]; exact a3
    · rw [gI_sIk (by omega), gI_sIa (by omega)]; exact a4
    · rw [gI_sIk (by omega), gI_sIa (by omega)]; exact a5
    · rw [gI_sIa (by omega)]
      rw [List.length_append, List.length_singleton] at hi
      by_cases hi2 : i = L.length
      · subst hi2
        rw [gI_sIs, List.getD_eq_getElem?_getD, List.getElem?_append_right (Nat.le_refl _), Nat.sub_self]
        rfl
      · rw [gI_sIk hi2, List.getD_eq_getElem?_getD, List.getElem?_append_left (by omega), ← List.getD_eq_getElem?_getD]
        exact a6 i (by omega)
  · rw [if_neg c, if_pos rfl, if_neg c]
    exact ⟨G, rfl, h, bh_Fr _ _⟩
theorem bh_begin (G : GM) (v K lo hi S : Nat) : ∃ G', f_X6_begin v (nI K) (nI lo) (nI hi) (nI S) G = some G' ∧ bh_PO G' v K lo hi S [] ∧ bh_F (bh_WP v) G G' := by
  unfold f_X6_begin
  rw [lt_r, lt_r, lt_r, lt_r, lt_r]
  refine ⟨_, rfl, ⟨?_, ?_, ?_, ?_, ?_, fun i hi => absurd hi (Nat.not_lt_zero _)⟩, bh_FI (bh_FI (bh_FI (bh_FI (bh_FI (bh_Fr _ _) ?_) ?_) ?_) ?_) ?_⟩
  · rw [gI_sIk (by omega), gI_sIk (by omega), gI_sIk (by omega), gI_sIk (by omega), gI_sIs]; rfl
  · rw [gI_sIk (by omega), gI_sIk (by omega), gI_sIk (by omega), gI_sIs]
  · rw [gI_sIk (by omega), gI_sIk (by omega), gI_sIs]
  · rw [gI_sIk (by omega), gI_sIs]
  · rw [gI_sIs]
  all_goals exact Or.inl ⟨rfl, by omega, by omega⟩
