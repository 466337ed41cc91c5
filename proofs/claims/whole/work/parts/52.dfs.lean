/-! partial mixes column by column, and what is left of a card's columns -/
def bh_pm (R S : Nat) : Nat → Nat → Nat → List Nat
  | 0, _, had => if had = S then [0] else []
  | k' + 1, k, had => (List.range R).flatMap fun n => if had + (n + 1) ≤ S then (bh_pm R S k' (k + 1) (had + (n + 1))).map (bh_pk k (n + 1) + ·) else []
theorem bh_pm_mx : ∀ K, K < 6 → ∀ R, R < 4 → ∀ E, E < 6 → bh_pm R (R * E) K 0 0 = bh_mx K R (R * E) := by decide +kernel
theorem bh_pm_mem {R S : Nat} (hR : R < 4) : ∀ (k' k had m : Nat), k + k' ≤ 5 → m ∈ bh_pm R S k' k had → m < 33554432 ∧ (∀ j, j < 5 → bh_dg m j ≤ 3) ∧ ∀ j, j < k → bh_dg m j = 0
  | 0, k, had, m, _, h => by
    unfold bh_pm at h
    by_cases hs : had = S
    · rw [if_pos hs] at h
      have : m = 0 := by simpa using h
      subst this
      exact ⟨by omega, fun j _ => by rw [bh_dg_zero]; omega, fun j _ => bh_dg_zero j⟩
    · rw [if_neg hs] at h; cases h
  | k' + 1, k, had, m, hk, h => by
    unfold bh_pm at h
    obtain ⟨n, hn, h⟩ := List.mem_flatMap.mp h
    have hn := List.mem_range.mp hn
    by_cases hs : had + (n + 1) ≤ S
    · rw [if_pos hs] at h
      obtain ⟨m', hm', rfl⟩ := List.mem_map.mp h
      obtain ⟨h1, h2, h3⟩ := bh_pm_mem hR k' (k + 1) _ m' (by omega) hm'
      have hd : ∀ j, j < 5 → bh_dg (bh_pk k (n + 1)) j = if j = k then n + 1 else 0 := fun j hj => bh_dg_pk (by omega) (by omega) hj
      have ha := bh_dg_add (r := bh_pk k (n + 1)) (p := m') (bh_pk_lt (by omega)) h1 (fun j hj => by
        rw [hd j hj]
        have := h2 j hj
        split <;> omega)
      refine ⟨ha.1, fun j hj => ?_, fun j hj => ?_⟩
      · rw [ha.2 j hj, hd j hj]
        by_cases hjk : j = k
        · subst hjk
          rw [if_pos rfl, h3 j (by omega)]; omega
        · rw [if_neg hjk]
          have := h2 j hj; omega
      · rw [ha.2 j (by omega), hd j (by omega), if_neg (by omega), h3 j (by omega)]
    · rw [if_neg hs] at h; cases h
/-- the remaining plans: the head is what is left of the card's mix -/
def bh_Q (L : List Nat) (R S k' c' k had left : Nat) : List (List Nat) := (bh_pm R S k' k had).flatMap fun m => if bh_ct left m then (bh_sq L c' (left - m)).map (m :: ·) else []
theorem bh_ct_zero (r : Nat) : bh_ct r 0 = true := by
  rw [bh_ct_iff]; intro k _; rw [bh_dg_zero]; omega
theorem bh_Q_end (L : List Nat) (R S c' k had left : Nat) : bh_Q L R S 0 c' k had left = if had = S then (bh_sq L c' left).map (0 :: ·) else [] := by
  unfold bh_Q bh_pm
  by_cases h : had = S
  · rw [if_pos h, if_pos h, List.flatMap_singleton, if_pos (bh_ct_zero _), Nat.sub_zero]
  · rw [if_neg h, if_neg h]; rfl
theorem bh_Q_card {L : List Nat} {R S K c' left : Nat} (h : bh_pm R S K 0 0 = L) : bh_sq L (c' + 1) left = bh_Q L R S K c' 0 0 left := by
  unfold bh_Q
  rw [h]; rfl
def bh_hd (a : Nat) : List Nat → List Nat
  | [] => []
  | m :: l => (a + m) :: l
theorem bh_ct_split {left k n m : Nat} (hl : left < 33554432) (hk : k < 5) (hn : n < 32) (h1 : m < 33554432) (h2 : ∀ j, j < 5 → bh_dg m j ≤ 3) (h3 : ∀ j, j < k + 1 → bh_dg m j = 0) : (bh_ct left (bh_pk k n + m) = true ↔ n ≤ bh_dg left k ∧ bh_ct (left - bh_pk k n) m = true) ∧ (n ≤ bh_dg left k → left - (bh_pk k n + m) = left - bh_pk k n - m ∧ bh_pk k n ≤ left ∧ ∀ j, j < 5 → bh_dg (left - bh_pk k n) j = if j = k then bh_dg left k - n else bh_dg left j) := by
  have hd : ∀ j, j < 5 → bh_dg (bh_pk k n) j = if j = k then n else 0 := fun j hj => bh_dg_pk hk hn hj
  have ha : n < 29 ∨ 29 ≤ n := by omega
  have had : ∀ j, j < 5 → bh_dg (bh_pk k n + m) j = if j = k then n else bh_dg m j := by
    have := bh_dg_add (r := bh_pk k n) (p := m) (bh_pk_lt hn) h1 (fun j hj => by
      rw [hd j hj]
      by_cases hj' : j = k
      · subst hj'; rw [if_pos rfl, h3 j (by omega)]; omega
      · rw [if_neg hj']; have := h2 j hj; omega)
    intro j hj
    rw [this.2 j hj, hd j hj]
    by_cases hj' : j = k
    · subst hj'; rw [if_pos rfl, if_pos rfl, h3 j (by omega)]; omega
    · rw [if_neg hj', if_neg hj']; omega
  have hsub : n ≤ bh_dg left k → bh_pk k n ≤ left ∧ ∀ j, j < 5 → bh_dg (left - bh_pk k n) j = if j = k then bh_dg left k - n else bh_dg left j := by
    intro hle
    have := bh_dg_sub hl (bh_pk_lt (k := k) hn) (fun j hj => by
      rw [hd j hj]
      by_cases hj' : j = k
      · subst hj'; rw [if_pos rfl]; exact hle
      · rw [if_neg hj']; omega)
    refine ⟨this.1, fun j hj => ?_⟩
    rw [this.2 j hj, hd j hj]
    by_cases hj' : j = k
    · subst hj'; rw [if_pos rfl, if_pos rfl]
    · rw [if_neg hj', if_neg hj']; omega
  refine ⟨⟨fun h => ?_, fun h => ?_⟩, fun hle => ⟨by omega, hsub hle⟩⟩
  · rw [bh_ct_iff] at h
    have hk1 := h k hk
    rw [had k hk, if_pos rfl] at hk1
    refine ⟨hk1, ?_⟩
    rw [bh_ct_iff]
    intro j hj
    rw [(hsub hk1).2 j hj]
    have := h j hj
    rw [had j hj] at this
    by_cases hj' : j = k
    · subst hj'; rw [if_pos rfl, h3 j (by omega)]; omega
    · rw [if_neg hj'] at this ⊢; exact this
  · obtain ⟨h4, h5⟩ := h
    rw [bh_ct_iff] at h5 ⊢
    intro j hj
    have := h5 j hj
    rw [(hsub h4).2 j hj] at this
    rw [had j hj]
    by_cases hj' : j = k
    · subst hj'; rw [if_pos rfl]; exact h4
    · rw [if_neg hj'] at this ⊢; exact this
theorem bh_fm_congr {α β : Type} {f g : α → List β} : ∀ {l : List α}, (∀ a, a ∈ l → f a = g a) → l.flatMap f = l.flatMap g
  | [], _ => rfl
  | a :: l, h => by
    rw [bh_fm_cons, bh_fm_cons, h a List.mem_cons_self, bh_fm_congr (fun b hb => h b (List.mem_cons_of_mem _ hb))]
theorem bh_Q_step {L : List Nat} {R S k' c' k had left : Nat} (hR : R < 4) (hl : left < 33554432) (hk : k + (k' + 1) ≤ 5) : bh_Q L R S (k' + 1) c' k had left = (List.range R).flatMap fun n => if n + 1 ≤ bh_dg left k ∧ had + (n + 1) ≤ S then (bh_Q L R S k' c' (k + 1) (had + (n + 1)) (left - bh_pk k (n + 1))).map (bh_hd (bh_pk k (n + 1))) else [] := by
  unfold bh_Q
  rw [bh_pm, List.flatMap_assoc]
  refine bh_fm_congr fun n hn => ?_
  have hn := List.mem_range.mp hn
  by_cases hs : had + (n + 1) ≤ S
  · rw [if_pos hs, List.flatMap_map]
    by_cases hc : n + 1 ≤ bh_dg left k
    · rw [if_pos ⟨hc, hs⟩, List.map_flatMap]
      refine bh_fm_congr fun m hm => ?_
      obtain ⟨h1, h2, h3⟩ := bh_pm_mem hR k' (k + 1) _ m (by omega) hm
      have h4 := bh_ct_split (left := left) (k := k) (n := n + 1) hl (by omega) (by omega) h1 h2 h3
      by_cases h5 : bh_ct (left - bh_pk k (n + 1)) m = true
      · rw [if_pos (h4.1.mpr ⟨hc, h5⟩), if_pos h5, List.map_map, (h4.2 hc).1]; rfl
      · rw [if_neg (fun h => h5 (h4.1.mp h).2), if_neg h5]; rfl
    · rw [if_neg (fun h => hc h.1)]
      rw [List.flatMap_eq_nil_iff]
      intro m hm
      obtain ⟨h1, h2, h3⟩ := bh_pm_mem hR k' (k + 1) _ m (by omega) hm
      have h4 := bh_ct_split (left := left) (k := k) (n := n + 1) hl (by omega) (by omega) h1 h2 h3
      rw [if_neg (fun h => hc (h4.1.mp h).1)]
  · rw [if_neg hs, if_neg (fun h => hs h.2)]; rfl
/-! layouts: sets as bits, wishes that may fall below nothing -/
def bh_pc (s : Nat) : Nat := s % 2 + s / 2 % 2 + s / 4 % 2 + s / 8 % 2 + s / 16 % 2
def bh_ss (K E : Nat) : List Nat := (List.range (2 ^ K)).filter fun s => decide (bh_pc s = E)
theorem bh_ss_eq : ∀ K, K < 6 → ∀ E, E < 6 → (List.range (2 ^ K)).filter (fun s => bh_isP K 0 1 E (bh_stG K s)) = bh_ss K E := by decide +kernel
theorem bh_st_eq {K E : Nat} (hK : K < 6) (hE : E < 6) : bh_st K E = (bh_ss K E).map (bh_stG K) := by
  unfold bh_st
  rw [List.filter_map, ← bh_ss_eq K hK E hE]; rfl
theorem bh_stG_dg : ∀ K, K < 6 → ∀ s, s < 2 ^ K → bh_stG K s < 33554432 ∧ ∀ k, k < 5 → bh_dg (bh_stG K s) k = if k < K then s / 2 ^ k % 2 else 0 := by decide +kernel
def bh_ly (K E : Nat) : Nat → (Nat → Int) → List (List Nat)
  | 0, w => if bh_al (fun k => decide (w k = 0)) K = true then [[]] else []
  | n + 1, w => (bh_ss K E).flatMap fun s => (bh_ly K E n (fun k => w k - (s / 2 ^ k % 2 : Nat))).map (s :: ·)
theorem bh_ly_neg {K E : Nat} : ∀ (n : Nat) {w : Nat → Int} {k : Nat}, k < K → w k < 0 → bh_ly K E n w = []
  | 0, w, k, hk, h => by
    unfold bh_ly
    rw [if_neg]
    intro h2
    have := of_decide_eq_true (bh_al_iff.mp h2 k hk)
    omega
  | n + 1, w, k, hk, h => by
    unfold bh_ly
    rw [List.flatMap_eq_nil_iff]
    intro s _
    rw [bh_ly_neg n hk (by show w k - _ < 0; omega)]; rfl
theorem bh_ly_sq {K E : Nat} (hK : K < 6) (hE : E < 6) : ∀ (n : Nat) {r : Nat} {w : Nat → Int}, bh_ok K 31 r → (∀ k, k < K → w k = (bh_dg r k : Int)) → bh_sq (bh_st K E) n r = (bh_ly K E n w).map (List.map (bh_stG K))
  | 0, r, w, hr, hw => by
    unfold bh_sq bh_ly
    by_cases h : r = 0
    · subst h
      rw [if_pos rfl, if_pos]
      · rfl
      · rw [bh_al_iff]; intro k hk; exact decide_eq_true (by rw [hw k hk, bh_dg_zero]; rfl)
    · rw [if_neg h, if_neg]
      · rfl
      · intro h2
        refine h (bh_ext hr.1 (by omega) fun k hk => ?_)
        rw [bh_dg_zero]
        by_cases hkK : k < K
        · have := of_decide_eq_true (bh_al_iff.mp h2 k hkK)
          rw [hw k hkK] at this
          omega
        · exact hr.2.2 k (by omega) hk
  | n + 1, r, w, hr, hw => by
    unfold bh_sq bh_ly
    rw [bh_st_eq hK hE, List.flatMap_map, List.map_flatMap]
    refine bh_fm_congr fun s hs => ?_
    have hs2 : s < 2 ^ K := List.mem_range.mp (List.mem_filter.mp hs).1
    obtain ⟨g1, g2⟩ := bh_stG_dg K hK s hs2
    by_cases hc : bh_ct r (bh_stG K s) = true
    · rw [if_pos hc]
      obtain ⟨o1, o2, o3⟩ := bh_ok_sub hr g1 hc
      have hc' := bh_ct_iff.mp hc
      rw [← bh_st_eq hK hE, bh_ly_sq hK hE n (w := fun k => w k - (s / 2 ^ k % 2 : Nat)) o1 ?_]
      · rw [List.map_map, List.map_map]; rfl
      · intro k hk
        have h5 := hc' k (by omega)
        have h6 := o3 k (by omega)
        have h7 := g2 k (by omega)
        rw [if_pos hk] at h7
        have h8 := hw k hk
        omega
    · rw [if_neg hc]
      have : ∃ k, k < K ∧ bh_dg r k < s / 2 ^ k % 2 := by
        apply Classical.byContradiction
        intro hn
        refine hc (bh_ct_iff.mpr fun k hk => ?_)
        rw [g2 k hk]
        by_cases hkK : k < K
        · rw [if_pos hkK]
          exact Nat.le_of_not_lt fun h => hn ⟨k, hkK, h⟩
        · rw [if_neg hkK]; omega
      obtain ⟨k, hkK, hlt⟩ := this
      rw [bh_ly_neg n (k := k) hkK (by show w k - _ < 0; have := hw k hkK; omega)]; rfl
