/-! the reference: of, numbersOf, plans by depth -/
def bh_MO (G : GM) (w C R E K : Nat) (z : Nat → Nat) : Prop := gI G 193 (8 * w) = nI C ∧ gI G 193 (8 * w + 1) = nI R ∧ gI G 193 (8 * w + 2) = nI E ∧ gI G 193 (8 * w + 3) = nI K ∧ ∀ k, k < K → gI G 194 (5 * w + k) = nI (z k)
theorem bh_of {w j : Nat} (hw : w < 6) (hj : j < 8) (G : GM) : f_X10_of (nI w) (nI j) G = some (gI G 193 (8 * w + j), G) := by
  unfold f_X10_of
  rw [show (8 : Int32) = nI 8 from rfl, pk_mul, nI_add, inb_n (by omega) (by omega), gd_t, nI_clamp (by omega)]
theorem bh_of0 {w C R E K : Nat} {z : Nat → Nat} {G : GM} (h : bh_MO G w C R E K z) (hw : w < 6) : f_X10_of (nI w) (0 : Int32) G = some (nI C, G) := by
  rw [show (0 : Int32) = nI 0 from rfl, bh_of hw (by omega), Nat.add_zero, h.1]
theorem bh_of1 {w C R E K : Nat} {z : Nat → Nat} {G : GM} (h : bh_MO G w C R E K z) (hw : w < 6) : f_X10_of (nI w) (1 : Int32) G = some (nI R, G) := by
  rw [show (1 : Int32) = nI 1 from rfl, bh_of hw (by omega), h.2.1]
theorem bh_of2 {w C R E K : Nat} {z : Nat → Nat} {G : GM} (h : bh_MO G w C R E K z) (hw : w < 6) : f_X10_of (nI w) (2 : Int32) G = some (nI E, G) := by
  rw [show (2 : Int32) = nI 2 from rfl, bh_of hw (by omega), h.2.2.1]
theorem bh_of3 {w C R E K : Nat} {z : Nat → Nat} {G : GM} (h : bh_MO G w C R E K z) (hw : w < 6) : f_X10_of (nI w) (3 : Int32) G = some (nI K, G) := by
  rw [show (3 : Int32) = nI 3 from rfl, bh_of hw (by omega), h.2.2.2.1]
theorem bh_numOf {w C R E K : Nat} {z : Nat → Nat} {G : GM} (h : bh_MO G w C R E K z) (hw : w < 6) : f_X10_numbersOf (nI w) G = some (nI (C * R * E), G) := by
  unfold f_X10_numbersOf
  rw [bh_of0 h hw, ob_s, bh_of1 h hw, ob_s, bh_of2 h hw, ob_s, pk_mul, pk_mul]
theorem bh_MO_F {W : Nat → Nat → Prop} {w C R E K : Nat} {z : Nat → Nat} {G G' : GM} (h : bh_MO G w C R E K z) (hF : bh_F W G G') (h1 : ∀ k, 8 * w ≤ k → k ≤ 8 * w + 3 → ¬ W 193 k) (h2 : ∀ k, 5 * w ≤ k → k < 5 * w + 5 → ¬ W 194 k) (hK : K ≤ 5) : bh_MO G' w C R E K z := by
  obtain ⟨a, b, c, d, e⟩ := h
  refine ⟨?_, ?_, ?_, ?_, fun k hk => ?_⟩
  · rw [hF.1 _ _ (h1 _ (by omega) (by omega))]; exact a
  · rw [hF.1 _ _ (h1 _ (by omega) (by omega))]; exact b
  · rw [hF.1 _ _ (h1 _ (by omega) (by omega))]; exact c
  · rw [hF.1 _ _ (h1 _ (by omega) (by omega))]; exact d
  · rw [hF.1 _ _ (h2 _ (by omega) (by omega))]; exact e k hk
/-- what a search leaves: the one that was wished, if it was met; else what was there -/
def bh_H (D : List Nat → (Nat → Int32) → Prop) (wi : Int32) (met : Nat) (Ls : List (List Nat)) (a a' : Nat → Int32) : Prop := (∀ idx l, Ls[idx]? = some l → wi = nI (met + idx) → D l a') ∧ ((∀ idx, idx < Ls.length → wi ≠ nI (met + idx)) → a' = a)
theorem bh_H_nil (D : List Nat → (Nat → Int32) → Prop) (wi : Int32) (met : Nat) (a : Nat → Int32) : bh_H D wi met [] a a := ⟨fun idx l h _ => (by cases h), fun _ => rfl⟩
theorem bh_H_app {D : List Nat → (Nat → Int32) → Prop} {wi : Int32} {met : Nat} {A B : List (List Nat)} {a a1 a2 : Nat → Int32} (h1 : bh_H D wi met A a a1) (h2 : bh_H D wi (met + A.length) B a1 a2) (hb : met + (A ++ B).length < 2 ^ 31) : bh_H D wi met (A ++ B) a a2 := by
  rw [List.length_append] at hb
  refine ⟨fun idx l hl hw => ?_, fun hn => ?_⟩
  · by_cases hi : idx < A.length
    · rw [List.getElem?_append_left hi] at hl
      have : a2 = a1 := h2.2 fun i hi2 he => by
        rw [hw] at he
        have := (nI_eq (by omega) (by omega)).mp he
        omega
      rw [this]
      exact h1.1 idx l hl hw
    · rw [List.getElem?_append_right (by omega)] at hl
      refine h2.1 (idx - A.length) l hl ?_
      rw [hw, show met + A.length + (idx - A.length) = met + idx from by omega]
  · rw [List.length_append] at hn
    rw [h2.2 fun i hi2 => by rw [Nat.add_assoc]; exact hn _ (by omega)]
    exact h1.2 fun i hi2 => hn _ (by omega)
theorem bh_H_map {D D2 : List Nat → (Nat → Int32) → Prop} {wi : Int32} {met : Nat} {A : List (List Nat)} {a a1 : Nat → Int32} {g : List Nat → List Nat} (h1 : bh_H D wi met A a a1) (h : ∀ l, l ∈ A → D l a1 → D2 (g l) a1) : bh_H D2 wi met (A.map g) a a1 := by
  refine ⟨fun idx l hl hw => ?_, fun hn => h1.2 fun i hi => hn i (by rw [List.length_map]; exact hi)⟩
  rw [List.getElem?_map] at hl
  obtain ⟨t, ht, rfl⟩ := Option.map_eq_some_iff.mp hl
  exact h t (List.mem_of_getElem? ht) (h1.1 idx t ht hw)
theorem bh_fmr {β : Type} (g : Nat → List β) (n : Nat) : (List.range (n + 1)).flatMap g = (List.range n).flatMap g ++ g n := by
  rw [List.range_succ, List.flatMap_append, List.flatMap_singleton]
theorem bh_fmr_end {β : Type} {g : Nat → List β} {i : Nat} : ∀ {n : Nat}, i ≤ n → (∀ j, i ≤ j → j < n → g j = []) → (List.range n).flatMap g = (List.range i).flatMap g
  | 0, h, _ => by
    have : i = 0 := by omega
    subst this; rfl
  | n + 1, h, h2 => by
    by_cases hi : i = n + 1
    · subst hi; rfl
    · rw [bh_fmr, h2 n (by omega) (by omega), List.append_nil]
      exact bh_fmr_end (by omega) fun j h3 h4 => h2 j h3 (by omega)
theorem bh_fmr_mono {β : Type} {g : Nat → List β} {i : Nat} : ∀ {n : Nat}, i ≤ n → ((List.range i).flatMap g).length ≤ ((List.range n).flatMap g).length
  | 0, h => by
    have : i = 0 := by omega
    subst this; exact Nat.le_refl _
  | n + 1, h => by
    by_cases hi : i = n + 1
    · subst hi; exact Nat.le_refl _
    · have := bh_fmr_mono (g := g) (i := i) (n := n) (by omega)
      rw [bh_fmr, List.length_append]; omega
/-- a plan that was found: what was told ahead of a place, and the rest -/
def bh_DP (C K card p0 : Nat) (pf : Nat → Int32) (l : List Nat) (a : Nat → Int32) : Prop := ∀ c k, c < C → k < K → a (5 * c + k) = if 5 * c + k < p0 then pf (5 * c + k) else nI (bh_dg (l.getD (c - card) 0) k)
def bh_QL (L : List Nat) (C R S K card k had left : Nat) : List (List Nat) := if card = C then bh_sq L 0 left else bh_Q L R S (K - k) (C - card - 1) k had left
theorem bh_Q_mem {L : List Nat} {R S k' c' k had left : Nat} {l : List Nat} (h : l ∈ bh_Q L R S k' c' k had left) : ∃ m t, l = m :: t ∧ m ∈ bh_pm R S k' k had := by
  unfold bh_Q at h
  obtain ⟨m, hm, h⟩ := List.mem_flatMap.mp h
  by_cases hc : bh_ct left m = true
  · rw [if_pos hc] at h
    obtain ⟨t, -, rfl⟩ := List.mem_map.mp h
    exact ⟨m, t, rfl, hm⟩
  · rw [if_neg hc] at h; cases h
def bh_WPl (a q : Nat) : Prop := (a = 186 ∧ q = 26) ∨ (199 ≤ a ∧ a ≤ 201)
theorem bh_plansM {w C R E K : Nat} {z : Nat → Nat} (hw : w < 6) (hC : C ≤ 3) (hR : R ≤ 3) (hE : E ≤ 5) (hK : K ≤ 5) {wi : Int32} : ∀ (fuel card k had left met : Nat) (G : GM), bh_MO G w C R E K z → card ≤ C → k ≤ K → (card = C → k = 0) → (C - card) * (K + 1) + (K - k) + 1 ≤ fuel → had ≤ R * E → bh_ok K 15 left → (∀ j, j < K → gI G 201 j = nI (bh_dg left j)) → gI G 186 26 = nI met → gI G 186 27 = wi → met + (bh_QL (bh_mx K R (R * E)) C R (R * E) K card k had left).length < 2 ^ 31 → ∃ G', f_X10_plans fuel (nI w) (nI card) (nI k) (nI had) G = some G' ∧ gI G' 186 26 = nI (met + (bh_QL (bh_mx K R (R * E)) C R (R * E) K card k had left).length) ∧ (∀ j, j < K → gI G' 201 j = nI (bh_dg left j)) ∧ (∀ j, j < 5 * card + k → gI G' 199 j = gI G 199 j) ∧ bh_H (bh_DP C K card (5 * card + k) (gI G 199)) wi met (bh_QL (bh_mx K R (R * E)) C R (R * E) K card k had left) (gI G 200) (gI G' 200) ∧ bh_F bh_WPl G G'
  | 0, _, _, _, _, _, _, _, _, _, _, hf, _, _, _, _, _, _ => absurd hf (by omega)
  | fuel + 1, card, k, had, left, met, G, hMO, hcard, hk, hck, hf, hhad, hleft, h201, h26, h27, hbd => by
    have hRE : R * E ≤ 15 := Nat.mul_le_mul hR hE
    have ih := bh_plansM (z := z) hw hC hR hE hK (wi := wi) fuel
    unfold f_X10_plans fb_X10_plans
    generalize f_X10_plans fuel = rec at ih
    rw [bh_of0 hMO hw, ob_s]
    by_cases hcC : card = C
    · have hk0 := hck hcC
      subst hk0
      subst hcC
      rw [if_pos rfl]
      have hQ : bh_QL (bh_mx K R (R * E)) card R (R * E) K card 0 had left = if left = 0 then [[]] else [] := by unfold bh_QL; rw [if_pos rfl]; rfl
      rw [hQ] at hbd ⊢
      refine wl1_up (P := fun o => ∃ G', o = some G' ∧ gI G' 186 26 = nI (met + (if left = 0 then [[]] else [] : List (List Nat)).length) ∧ (∀ j, j < K → gI G' 201 j = nI (bh_dg left j)) ∧ (∀ j, j < 5 * card + 0 → gI G' 199 j = gI G 199 j) ∧ bh_H (bh_DP card K card (5 * card + 0) (gI G 199)) wi met (if left = 0 then [[]] else []) (gI G 200) (gI G' 200) ∧ bh_F bh_WPl G G') (I := fun i G1 => G1 = G ∧ ∀ j, j < i → bh_dg left j = 0) (N := K) (by omega) ?_ (n := FU) (i := 0) (Nat.zero_le _) ⟨rfl, fun j hj => absurd hj (Nat.not_lt_zero _)⟩ (by unfold FU; omega)
      rintro kc i G1 hi ⟨rfl, hz⟩ hkc
      unfold lp_X10_plans_13
      rw [bh_of3 hMO hw, ob_s]
      by_cases hiK : i < K
      · rw [if_neg (nI_ge hiK (by omega)), inb_n (by omega) (by omega), gd_t, nI_clamp (by omega), h201 i hiK]
        have hd := bh_dg_lt left i
        by_cases h0 : bh_dg left i = 0
        · rw [h0, if_pos (show nI 0 = (0 : Int32) from rfl), nI_1]
          refine hkc hiK G1 ⟨rfl, fun j hj => ?_⟩
          by_cases hji : j = i
          · subst hji; exact h0
          · exact hz j (by omega)
        · have hl0 : left ≠ 0 := fun h => h0 (by rw [h]; exact bh_dg_zero i)
          rw [if_neg (nI_ne0 (by omega) (by omega))]
          refine ⟨G1, rfl, ?_, h201, fun _ _ => rfl, ?_, bh_Fr _ _⟩
          · rw [if_neg hl0]; exact h26
          · rw [if_neg hl0]; exact bh_H_nil _ _ _ _
      · have hiK2 : i = K := by omega
        subst hiK2
        have hl0 : left = 0 := bh_ext hleft.1 (by omega) fun j hj => by
          rw [bh_dg_zero]
          by_cases hji : j < i
          · exact hz j hji
          · exact hleft.2.2 j (by omega) hj
        rw [if_pos (nI_le (by omega) (by omega)), h26, h27]
        rw [if_pos hl0] at hbd ⊢
        have fin : ∀ G2 : GM, bh_F (fun a _ => a = 200) G1 G2 → (wi = nI met → gI G2 200 = fun j => if j < 15 then gI G1 199 j else gI G1 200 j) → (wi ≠ nI met → gI G2 200 = gI G1 200) → ∃ G', k_X10_plans_82 rec (nI w) (nI card) (nI 0) (nI had) G2 = some G' ∧ gI G' 186 26 = nI (met + ([[]] : List (List Nat)).length) ∧ (∀ j, j < i → gI G' 201 j = nI (bh_dg left j)) ∧ (∀ j, j < 5 * card + 0 → gI G' 199 j = gI G1 199 j) ∧ bh_H (bh_DP card i card (5 * card + 0) (gI G1 199)) wi met [[]] (gI G1 200) (gI G' 200) ∧ bh_F bh_WPl G1 G' := by
          intro G2 hF h1 h2
          unfold k_X10_plans_82
          rw [lt_r]
          have e200 : gI (sI G2 186 26 (gI G2 186 26 + 1)) 200 = gI G2 200 := by funext j; exact gI_sIa (by decide) _ _ _ _
          refine ⟨_, rfl, ?_, fun j hj => ?_, fun j hj => ?_, ⟨fun idx l hl hwi => ?_, fun hn => ?_⟩, bh_FI (bh_Fm hF (fun a q h => Or.inr (by omega))) (Or.inl ⟨rfl, rfl⟩)⟩
          · rw [gI_sIs, hF.1 _ _ (by omega), h26]; exact nI_1 _
          · rw [gI_sIa (by decide), hF.1 _ _ (by omega)]; exact h201 j hj
          · rw [gI_sIa (by decide), hF.1 _ _ (by omega)]
          · have hidx : idx = 0 := by
              have := (List.getElem?_eq_some_iff.mp hl).1
              simp at this; exact this
            subst hidx
            rw [e200, h1 hwi]
            intro c k hc hk
            show (if 5 * c + k < 15 then _ else _) = _
            rw [if_pos (by omega), if_pos (by omega)]
          · rw [e200]
            exact h2 (hn 0 (by decide))
        by_cases hwi : wi = nI met
        · rw [if_pos hwi.symm]
          refine wl1_up (P := fun o => ∃ G', o = some G' ∧ gI G' 186 26 = nI (met + ([[]] : List (List Nat)).length) ∧ (∀ j, j < i → gI G' 201 j = nI (bh_dg left j)) ∧ (∀ j, j < 5 * card + 0 → gI G' 199 j = gI G1 199 j) ∧ bh_H (bh_DP card i card (5 * card + 0) (gI G1 199)) wi met [[]] (gI G1 200) (gI G' 200) ∧ bh_F bh_WPl G1 G') (I := fun j G2 => bh_F (fun a _ => a = 200) G1 G2 ∧ gI G2 200 = fun q => if q < j then gI G1 199 q else gI G1 200 q) (N := 15) (by omega) ?_ (n := FU) (i := 0) (Nat.zero_le _) ⟨bh_Fr _ _, by funext q; simp⟩ (by unfold FU; omega)
          rintro kc2 j G2 hj ⟨hF, h200⟩ hk2
          unfold lp_X10_plans_55
          rw [show (15 : Int32) = nI 15 from rfl]
          by_cases hj15 : j < 15
          · rw [if_neg (nI_ge (b := 15) hj15 (by omega)), inb_n hj15 (by omega), gd_t, gd_t, lt_r, nI_clamp (by omega), nI_1]
            refine hk2 hj15 _ ⟨bh_FI hF rfl, ?_⟩
            funext q
            rw [gI_sI, hF.1 199 j (by omega)]
            by_cases hqj : q = j
            · subst hqj
              rw [if_pos ⟨rfl, rfl⟩, if_pos (by omega)]
            · rw [if_neg (fun h => hqj h.2), h200]
              by_cases hq : q < j
              · simp only [if_pos hq, if_pos (show q < j + 1 from by omega)]
              · simp only [if_neg hq, if_neg (show ¬ q < j + 1 from by omega)]
          · have hj2 : j = 15 := by omega
            subst hj2
            rw [if_pos (nI_le (a := 15) (b := 15) (by omega) (by omega))]
            exact fin G2 hF (fun _ => h200) (fun h => absurd hwi h)
        · rw [if_neg (fun h => hwi h.symm)]
          exact fin G1 (bh_Fr _ _) (fun h => absurd h hwi) (fun _ => rfl)
    · have hcC2 : card < C := by omega
      rw [if_neg (by rw [nI_eq (by omega) (by omega)]; exact hcC), bh_of3 hMO hw, ob_s]
      have hQL : bh_QL (bh_mx K R (R * E)) C R (R * E) K card k had left = bh_Q (bh_mx K R (R * E)) R (R * E) (K - k) (C - card - 1) k had left := by unfold bh_QL; rw [if_neg hcC]
      rw [hQL] at hbd ⊢
      have hpm := bh_pm_mx K (by omega) R (by omega) E (by omega)
      by_cases hkK : k = K
      · subst hkK
        rw [if_pos rfl, bh_of1 hMO hw, ob_s, bh_of2 hMO hw, ob_s, pk_mul]
        rw [Nat.sub_self, bh_Q_end] at hbd ⊢
        by_cases hS : had = R * E
        · rw [if_pos (by rw [hS])]
          rw [if_pos hS] at hbd ⊢
          rw [List.length_map] at hbd
          have hn : bh_QL (bh_mx k R (R * E)) C R (R * E) k (card + 1) 0 0 left = bh_sq (bh_mx k R (R * E)) (C - card - 1) left := by
            unfold bh_QL
            by_cases h1 : card + 1 = C
            · rw [if_pos h1, show C - card - 1 = 0 from by omega]
            · rw [if_neg h1, show C - card - 1 = (C - (card + 1) - 1) + 1 from by omega, bh_Q_card hpm]; rfl
          obtain ⟨G1, e1, r1, r2, r3, r4, r5⟩ := ih (card + 1) 0 0 left met G hMO (by omega) (by omega) (fun _ => rfl) (by
            have : (C - card) * (k + 1) = (C - (card + 1)) * (k + 1) + (k + 1) := by
              rw [show C - card = (C - (card + 1)) + 1 from by omega, Nat.succ_mul]
            omega) (by omega) hleft h201 h26 h27 (by rw [hn]; exact hbd)
          rw [hn] at r1 r4
          rw [nI_1, show (0 : Int32) = nI 0 from rfl, e1, ov_s]
          refine ⟨G1, rfl, by rw [List.length_map]; exact r1, r2, fun j hj => r3 j (by omega), bh_H_map r4 (fun l _ hD c k' hc hk' => ?_), r5⟩
          have h := hD c k' hc hk'
          rw [h]
          by_cases hcc : c ≤ card
          · rw [if_pos (by omega), if_pos (by omega)]
          · rw [if_neg (by omega), if_neg (by omega), show c - card = (c - (card + 1)) + 1 from by omega]
            rfl
        · rw [if_neg (by rw [nI_eq (by omega) (by omega)]; exact hS)]
          rw [if_neg hS] at hbd ⊢
          exact ⟨G, rfl, h26, h201, fun _ _ => rfl, bh_H_nil _ _ _ _, bh_Fr _ _⟩
      · obtain ⟨k', hk'⟩ : ∃ k', K - k = k' + 1 := ⟨K - k - 1, by omega⟩
        rw [hk', bh_Q_step (by omega) hleft.1 (by omega)] at hbd ⊢
        rw [if_neg (by rw [nI_eq (by omega) (by omega)]; exact hkK)]
        have hdl : bh_dg left k ≤ 15 := hleft.2.1 k (by omega)
        generalize hg : (fun n => if n + 1 ≤ bh_dg left k ∧ had + (n + 1) ≤ R * E then (bh_Q (bh_mx K R (R * E)) R (R * E) k' (C - card - 1) (k + 1) (had + (n + 1)) (left - bh_pk k (n + 1))).map (bh_hd (bh_pk k (n + 1))) else []) = g at hbd ⊢
        refine wl1_up (P := fun o => ∃ G', o = some G' ∧ gI G' 186 26 = nI (met + ((List.range R).flatMap g).length) ∧ (∀ j, j < K → gI G' 201 j = nI (bh_dg left j)) ∧ (∀ j, j < 5 * card + k → gI G' 199 j = gI G 199 j) ∧ bh_H (bh_DP C K card (5 * card + k) (gI G 199)) wi met ((List.range R).flatMap g) (gI G 200) (gI G' 200) ∧ bh_F bh_WPl G G') (I := fun i G1 => 1 ≤ i ∧ gI G1 186 26 = nI (met + ((List.range (i - 1)).flatMap g).length) ∧ (∀ j, j < K → gI G1 201 j = nI (bh_dg left j)) ∧ (∀ j, j < 5 * card + k → gI G1 199 j = gI G 199 j) ∧ bh_H (bh_DP C K card (5 * card + k) (gI G 199)) wi met ((List.range (i - 1)).flatMap g) (gI G 200) (gI G1 200) ∧ bh_F bh_WPl G G1) (N := R + 1) (by omega) ?_ (n := FU) (i := 1) (by omega) ⟨Nat.le_refl _, h26, h201, fun _ _ => rfl, bh_H_nil _ _ _ _, bh_Fr _ _⟩ (by unfold FU; omega)
        rintro kc i G1 hi ⟨i1, q26, q201, q199, qH, qF⟩ hkc
        obtain ⟨n, rfl⟩ : ∃ n, i = n + 1 := ⟨i - 1, by omega⟩
        rw [Nat.add_sub_cancel] at q26 qH
        have hMO1 : bh_MO G1 w C R E K z := bh_MO_F hMO qF (fun k _ _ => by unfold bh_WPl; omega) (fun k _ _ => by unfold bh_WPl; omega) hK
        have stop : n ≤ R → (∀ j, n ≤ j → j < R → g j = []) → ∃ G', some G1 = some G' ∧ gI G' 186 26 = nI (met + ((List.range R).flatMap g).length) ∧ (∀ j, j < K → gI G' 201 j = nI (bh_dg left j)) ∧ (∀ j, j < 5 * card + k → gI G' 199 j = gI G 199 j) ∧ bh_H (bh_DP C K card (5 * card + k) (gI G 199)) wi met ((List.range R).flatMap g) (gI G 200) (gI G' 200) ∧ bh_F bh_WPl G G' := by
          intro h1 h2
          rw [bh_fmr_end h1 h2]
          exact ⟨G1, rfl, q26, q201, q199, qH, qF⟩
        unfold lp_X10_plans_135
        rw [bh_of1 hMO1 hw, ob_s]
        by_cases hnR : n < R
        · rw [if_neg (nI_nlt (by omega) (by omega)), inb_n (by omega) (by omega), gd_t, nI_clamp (by omega), q201 k (by omega)]
          by_cases hnl : n + 1 ≤ bh_dg left k
          · rw [if_neg (nI_nlt hnl (by omega)), bh_of1 hMO1 hw, ob_s, bh_of2 hMO1 hw, ob_s, pk_mul, nI_add]
            by_cases hnS : had + (n + 1) ≤ R * E
            · rw [if_neg (nI_nlt hnS (by omega)), show (5 : Int32) = nI 5 from rfl, pk_mul, nI_add, inb_n (by omega) (by omega), gd_t, lt_r, gd_t, gd_t, nI_clamp (by omega), gI_sIa (by decide), q201 k (by omega), pk_sub hnl, lt_r, nI_1]
              have hgn : g n = (bh_Q (bh_mx K R (R * E)) R (R * E) k' (C - card - 1) (k + 1) (had + (n + 1)) (left - bh_pk k (n + 1))).map (bh_hd (bh_pk k (n + 1))) := by rw [← hg]; exact if_pos ⟨hnl, hnS⟩
              have hmono := bh_fmr_mono (g := g) (i := n + 1) (n := R) (by omega)
              rw [bh_fmr, List.length_append, hgn, List.length_map] at hmono
              have hsub := bh_dg_sub (r := left) (p := bh_pk k (n + 1)) hleft.1 (bh_pk_lt (by omega)) (fun j hj => by
                rw [bh_dg_pk (by omega) (by omega) hj]
                by_cases hjk : j = k
                · subst hjk; rw [if_pos rfl]; exact hnl
                · rw [if_neg hjk]; omega)
              have hdig : ∀ j, j < 5 → bh_dg (left - bh_pk k (n + 1)) j = if j = k then bh_dg left k - (n + 1) else bh_dg left j := fun j hj => by
                rw [hsub.2 j hj, bh_dg_pk (by omega) (by omega) hj]
                by_cases hjk : j = k
                · subst hjk; rw [if_pos rfl, if_pos rfl]
                · rw [if_neg hjk, if_neg hjk]; omega
              have hok : bh_ok K 15 (left - bh_pk k (n + 1)) := ⟨by have := hleft.1; omega, fun j hj => by
                rw [hdig j hj]
                by_cases hjk : j = k
                · rw [if_pos hjk]; omega
                · rw [if_neg hjk]; exact hleft.2.1 j hj, fun j hj hj5 => by
                rw [hdig j hj5, if_neg (by omega)]; exact hleft.2.2 j hj hj5⟩
              have hQL1 : bh_QL (bh_mx K R (R * E)) C R (R * E) K card (k + 1) (had + (n + 1)) (left - bh_pk k (n + 1)) = bh_Q (bh_mx K R (R * E)) R (R * E) k' (C - card - 1) (k + 1) (had + (n + 1)) (left - bh_pk k (n + 1)) := by
                unfold bh_QL
                rw [if_neg hcC, show K - (k + 1) = k' from by omega]
              have FS : bh_F bh_WPl G1 (sI (sI G1 199 (5 * card + k) (nI (n + 1))) 201 k (nI (bh_dg left k - (n + 1)))) := bh_FI (bh_FI (bh_Fr _ _) (Or.inr ⟨by omega, by omega⟩)) (Or.inr ⟨by omega, by omega⟩)
              obtain ⟨G2, e2, r1, r2, r3, r4, r5⟩ := ih card (k + 1) (had + (n + 1)) (left - bh_pk k (n + 1)) (met + ((List.range n).flatMap g).length) (sI (sI G1 199 (5 * card + k) (nI (n + 1))) 201 k (nI (bh_dg left k - (n + 1)))) (bh_MO_F hMO1 FS (fun k _ _ => by unfold bh_WPl; omega) (fun k _ _ => by unfold bh_WPl; omega) hK) hcard (by omega) (fun h => absurd h hcC) (by omega) hnS hok (fun j hj => by
                rw [gI_sI, hdig j (by omega)]
                by_cases hjk : j = k
                · rw [if_pos ⟨rfl, hjk⟩, if_pos hjk]
                · rw [if_neg (fun h => hjk h.2), if_neg hjk, gI_sIa (by decide)]; exact q201 j hj) (by rw [gI_sIa (by decide), gI_sIa (by decide)]; exact q26) (by rw [gI_sIa (by decide), gI_sIa (by decide), qF.1 _ _ (by unfold bh_WPl; omega)]; exact h27) (by rw [hQL1]; omega)
              rw [hQL1] at r1 r4
              rw [e2, ov_s, gd_t, gd_t, r2 k (by omega), hdig k (by omega), if_pos rfl, nI_add, lt_r, nI_1]
              have e200 : gI (sI G2 201 k (nI (bh_dg left k - (n + 1) + (n + 1)))) 200 = gI G2 200 := by funext j; exact gI_sIa (by decide) _ _ _ _
              have e200b : gI (sI (sI G1 199 (5 * card + k) (nI (n + 1))) 201 k (nI (bh_dg left k - (n + 1)))) 200 = gI G1 200 := by funext j; rw [gI_sIa (by decide), gI_sIa (by decide)]
              refine hkc (by omega) _ ⟨by omega, ?_, fun j hj => ?_, fun j hj => ?_, ?_, bh_FI (bh_Ft (bh_Ft qF FS) r5) (Or.inr ⟨by omega, by omega⟩)⟩
              · rw [gI_sIa (by decide), r1, Nat.add_sub_cancel, bh_fmr, List.length_append, hgn, List.length_map, Nat.add_assoc]
              · rw [gI_sI]
                by_cases hjk : j = k
                · subst hjk
                  rw [if_pos ⟨rfl, rfl⟩, show bh_dg left j - (n + 1) + (n + 1) = bh_dg left j from by omega]
                · rw [if_neg (fun h => hjk h.2), r2 j hj, hdig j (by omega), if_neg hjk]
              · rw [gI_sIa (by decide), r3 j (by omega), gI_sIa (by decide), gI_sIk (by omega)]
                exact q199 j hj
              · rw [e200, Nat.add_sub_cancel, bh_fmr]
                refine bh_H_app qH ?_ (by rw [List.length_append, hgn, List.length_map]; omega)
                rw [hgn]
                rw [e200b] at r4
                refine bh_H_map r4 (fun l hl hD c kk hc hkk => ?_)
                have h := hD c kk hc hkk
                rw [h]
                obtain ⟨m, t, rfl, hm⟩ := bh_Q_mem hl
                obtain ⟨m1, m2, m3⟩ := bh_pm_mem (by omega) k' (k + 1) _ m (by omega) hm
                have hmd : ∀ j, j < 5 → bh_dg (bh_pk k (n + 1) + m) j = if j = k then n + 1 else bh_dg m j := fun j hj => by
                  have ha := bh_dg_add (r := bh_pk k (n + 1)) (p := m) (bh_pk_lt (by omega)) m1 (fun j hj => by
                    rw [bh_dg_pk (by omega) (by omega) hj]
                    have := m2 j hj
                    split <;> omega)
                  rw [ha.2 j hj, bh_dg_pk (by omega) (by omega) hj]
                  by_cases hjk : j = k
                  · subst hjk; rw [if_pos rfl, if_pos rfl, m3 j (by omega)]
                  · rw [if_neg hjk, if_neg hjk]; omega
                by_cases hp : 5 * c + kk < 5 * card + k
                · rw [if_pos (by omega), if_pos hp, gI_sIa (by decide), gI_sIk (by omega)]
                  exact q199 _ hp
                · rw [if_neg hp]
                  by_cases hp2 : 5 * c + kk = 5 * card + k
                  · have hc0 : c = card := by omega
                    have hk0 : kk = k := by omega
                    subst hc0 hk0
                    rw [if_pos (by omega), gI_sIa (by decide), gI_sIs, Nat.sub_self]
                    show _ = nI (bh_dg (bh_pk kk (n + 1) + m) kk)
                    rw [hmd kk (by omega), if_pos rfl]
                  · rw [if_neg (by omega)]
                    by_cases hc0 : c = card
                    · subst hc0
                      rw [Nat.sub_self]
                      show nI (bh_dg m kk) = nI (bh_dg (bh_pk k (n + 1) + m) kk)
                      rw [hmd kk (by omega), if_neg (by omega)]
                    · rw [show c - card = (c - card - 1) + 1 from by omega]; rfl
            · rw [if_pos (nI_lt (by omega) (by omega))]
              exact stop (by omega) fun j h1 h2 => by rw [← hg]; exact if_neg (by omega)
          · rw [if_pos (nI_lt (by omega) (by omega))]
            exact stop (by omega) fun j h1 h2 => by rw [← hg]; exact if_neg (by omega)
        · rw [if_pos (nI_lt (by omega) (by omega))]
          exact stop (by omega) fun j h1 h2 => by omega
