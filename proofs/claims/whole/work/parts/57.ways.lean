/-! in how many ways parts make up a rest, and the i-th of them -/
def bh_PL (L : List Nat) (K lo hi S : Nat) : Prop := L.length ≤ 64 ∧ (∀ p, p ∈ L → p < 33554432 ∧ ∀ k, k < 5 → bh_dg p k < 16) ∧ ∀ r, bh_ok K 15 r → (bh_sq L 1 r).length = if bh_isP K lo hi S r = true then 1 else 0
theorem bh_sq1 {L : List Nat} {r : Nat} (hL : ∀ p, p ∈ L → p < 33554432) (hr : r < 33554432) : (bh_sq L 1 r).length = L.count r := by
  have key : ∀ l : List Nat, (∀ p, p ∈ l → p < 33554432) → (l.flatMap fun p => if bh_ct r p then (bh_sq L 0 (r - p)).map (p :: ·) else []).length = l.count r := by
    intro l hl
    induction l with
    | nil => rfl
    | cons p t ih =>
      rw [bh_fm_cons, List.length_append, ih (fun q hq => hl q (List.mem_cons_of_mem _ hq)), List.count_cons]
      have hp := hl p List.mem_cons_self
      by_cases hpr : p = r
      · subst hpr
        have hc : bh_ct p p = true := bh_ct_iff.mpr fun k _ => Nat.le_refl _
        rw [if_pos hc, Nat.sub_self]
        simp [bh_sq]
        omega
      · have hb : (p == r) = false := by simpa using hpr
        rw [hb]
        by_cases hc : bh_ct r p = true
        · rw [if_pos hc]
          have := bh_dg_sub hr hp (bh_ct_iff.mp hc)
          have h2 : ¬ r - p = 0 := by omega
          unfold bh_sq
          rw [if_neg h2]
          simp
        · rw [if_neg hc]
          simp
  exact key L hL
theorem bh_mx_nd : ∀ K, K < 6 → ∀ R, R < 4 → ∀ E, E < 6 → (bh_mx K R (R * E)).Nodup := by decide +kernel
theorem bh_sm_upd {f g : Nat → Nat} {k n : Nat} : ∀ {N : Nat}, k < N → f k = g k + n → (∀ j, j < N → j ≠ k → f j = g j) → bh_sm f N = bh_sm g N + n
  | 0, h, _, _ => absurd h (Nat.not_lt_zero _)
  | N + 1, h, h1, h2 => by
    unfold bh_sm
    by_cases hk : k = N
    · subst hk
      rw [bh_sm_congr (f := f) (g := g) (fun j hj => h2 j (by omega) (by omega)), h1]; omega
    · rw [bh_sm_upd (f := f) (g := g) (N := N) (by omega) h1 (fun j hj hjk => h2 j (by omega) hjk), h2 N (by omega) (fun q => hk q.symm)]; omega
theorem bh_pm_all {R S : Nat} (hR : R < 4) : ∀ (k' k had r : Nat), k + k' ≤ 5 → r < 33554432 → (∀ j, j < k → bh_dg r j = 0) → (∀ j, k ≤ j → j < k + k' → 1 ≤ bh_dg r j ∧ bh_dg r j ≤ R) → (∀ j, k + k' ≤ j → j < 5 → bh_dg r j = 0) → had + bh_sm (bh_dg r) (k + k') = S → r ∈ bh_pm R S k' k had
  | 0, k, had, r, hk, hr, h1, h2, h3, h4 => by
    have h0 : r = 0 := bh_ext hr (by omega) fun j hj => by
      rw [bh_dg_zero]
      by_cases h : j < k
      · exact h1 j h
      · exact h3 j (by omega) hj
    subst h0
    unfold bh_pm
    have hz : bh_sm (bh_dg 0) (k + 0) = bh_sm (fun _ => 0) (k + 0) := bh_sm_congr fun j _ => bh_dg_zero j
    have hz2 : ∀ n, bh_sm (fun _ => 0) n = 0 := fun n => by
      induction n with
      | zero => rfl
      | succ n ih => unfold bh_sm; omega
    rw [hz, hz2] at h4
    rw [if_pos (by omega)]
    exact List.mem_singleton.mpr rfl
  | k' + 1, k, had, r, hk, hr, h1, h2, h3, h4 => by
    have hn := h2 k (Nat.le_refl _) (by omega)
    obtain ⟨n, hn2⟩ : ∃ n, bh_dg r k = n + 1 := ⟨bh_dg r k - 1, by omega⟩
    have hd : ∀ j, j < 5 → bh_dg (bh_pk k (n + 1)) j = if j = k then n + 1 else 0 := fun j hj => bh_dg_pk (by omega) (by omega) hj
    obtain ⟨s1, s2⟩ := bh_dg_sub (r := r) (p := bh_pk k (n + 1)) hr (bh_pk_lt (by omega)) (fun j hj => by
      rw [hd j hj]
      by_cases hj' : j = k
      · subst hj'; rw [if_pos rfl]; omega
      · rw [if_neg hj']; omega)
    have s3 : ∀ j, j < 5 → bh_dg (r - bh_pk k (n + 1)) j = if j = k then 0 else bh_dg r j := fun j hj => by
      rw [s2 j hj, hd j hj]
      by_cases hj' : j = k
      · subst hj'; rw [if_pos rfl, if_pos rfl]; omega
      · rw [if_neg hj', if_neg hj']; omega
    have hsum : bh_sm (bh_dg r) (k + (k' + 1)) = bh_sm (bh_dg (r - bh_pk k (n + 1))) (k + (k' + 1)) + (n + 1) := bh_sm_upd (k := k) (by omega) (by rw [s3 k (by omega), if_pos rfl]; omega) (fun j hj hjk => by rw [s3 j (by omega), if_neg hjk])
    have ih := bh_pm_all (R := R) (S := S) hR k' (k + 1) (had + (n + 1)) (r - bh_pk k (n + 1)) (by omega) (by omega) (fun j hj => by
      rw [s3 j (by omega)]
      by_cases hj' : j = k
      · rw [if_pos hj']
      · rw [if_neg hj']; exact h1 j (by omega)) (fun j hj hj2 => by
      rw [s3 j (by omega), if_neg (by omega)]; exact h2 j (by omega) (by omega)) (fun j hj hj2 => by
      rw [s3 j hj2, if_neg (by omega)]; exact h3 j (by omega) hj2) (by
      rw [show k + 1 + k' = k + (k' + 1) from by omega]; omega)
    unfold bh_pm
    refine List.mem_flatMap.mpr ⟨n, List.mem_range.mpr (by omega), ?_⟩
    have hS : had + (n + 1) ≤ S := by omega
    rw [if_pos hS]
    refine List.mem_map.mpr ⟨_, ih, ?_⟩
    show bh_pk k (n + 1) + (r - bh_pk k (n + 1)) = r
    omega
theorem bh_st_nd : ∀ K, K < 6 → ∀ E, E < 6 → (bh_st K E).Nodup := by decide +kernel
theorem bh_st_all {K E r : Nat} (hK : K < 6) (hr : bh_ok K 1 r) (h : bh_isP K 0 1 E r = true) : r ∈ bh_st K E := by
  have d := (bh_all5 (P := fun k => bh_dg r k ≤ 1)).mp hr.2.1
  have d0 := (bh_all5 (P := fun k => K ≤ k → bh_dg r k = 0)).mp (fun k hk hK => hr.2.2 k hK hk)
  have hb : bh_dg r 0 + 2 * bh_dg r 1 + 4 * bh_dg r 2 + 8 * bh_dg r 3 + 16 * bh_dg r 4 < 2 ^ K := by
    rcases (by omega : K = 0 ∨ K = 1 ∨ K = 2 ∨ K = 3 ∨ K = 4 ∨ K = 5) with rfl | rfl | rfl | rfl | rfl | rfl <;> omega
  obtain ⟨g1, g2⟩ := bh_stG_dg K hK _ hb
  have he : bh_stG K (bh_dg r 0 + 2 * bh_dg r 1 + 4 * bh_dg r 2 + 8 * bh_dg r 3 + 16 * bh_dg r 4) = r := by
    refine bh_ext g1 hr.1 fun k hk => ?_
    rw [g2 k hk]
    by_cases hkK : k < K
    · rw [if_pos hkK]
      rcases (by omega : k = 0 ∨ k = 1 ∨ k = 2 ∨ k = 3 ∨ k = 4) with rfl | rfl | rfl | rfl | rfl <;> omega
    · rw [if_neg hkK, hr.2.2 k (by omega) hk]
  refine List.mem_filter.mpr ⟨List.mem_map.mpr ⟨_, List.mem_range.mpr hb, he⟩, h⟩
theorem bh_PL_of {L : List Nat} {K lo hi S : Nat} (h1 : L.length ≤ 64) (h2 : ∀ p, p ∈ L → p < 33554432 ∧ ∀ k, k < 5 → bh_dg p k < 16) (h3 : L.Nodup) (h4 : ∀ r, bh_ok K 15 r → (bh_isP K lo hi S r = true ↔ r ∈ L)) : bh_PL L K lo hi S := by
  refine ⟨h1, h2, fun r hr => ?_⟩
  rw [bh_sq1 (fun p hp => (h2 p hp).1) hr.1, h3.count]
  by_cases h : bh_isP K lo hi S r = true
  · rw [if_pos h, if_pos ((h4 r hr).mp h)]
  · rw [if_neg h, if_neg (fun q => h ((h4 r hr).mpr q))]
theorem bh_mx_PL {K R E : Nat} (hK : K ≤ 5) (hR : R ≤ 3) (hE : E ≤ 5) : bh_PL (bh_mx K R (R * E)) K 1 R (R * E) := by
  refine bh_PL_of (bh_mx_len K (by omega) R (by omega) E (by omega)) (fun p hp => ?_) (bh_mx_nd K (by omega) R (by omega) E (by omega)) (fun r hr => ⟨fun h => ?_, fun h => (List.mem_filter.mp h).2⟩)
  · have := bh_mx_in K (by omega) R (by omega) E (by omega) p hp
    exact ⟨this.1, fun k hk => by have := this.2.1 k hk; omega⟩
  · obtain ⟨h1, h2⟩ := bh_isP_iff.mp h
    rw [← bh_pm_mx K (by omega) R (by omega) E (by omega)]
    refine bh_pm_all (by omega) K 0 0 r (by omega) hr.1 (fun j hj => absurd hj (Nat.not_lt_zero _)) (fun j _ hj => h1 j (by omega)) (fun j hj hj2 => hr.2.2 j (by omega) hj2) ?_
    rw [Nat.zero_add, Nat.zero_add]; exact h2
theorem bh_st_PL {K E : Nat} (hK : K ≤ 5) (hE : E ≤ 5) : bh_PL (bh_st K E) K 0 1 E := by
  refine bh_PL_of (bh_st_len K (by omega) E (by omega)) (fun p hp => ?_) (bh_st_nd K (by omega) E (by omega)) (fun r hr => ⟨fun h => ?_, fun h => (List.mem_filter.mp h).2⟩)
  · have := bh_st_in K (by omega) E (by omega) p hp
    exact ⟨this.1, fun k hk => by have := this.2.1 k hk; omega⟩
  · refine bh_st_all (by omega) ⟨hr.1, fun k hk => ?_, hr.2.2⟩ h
    by_cases hkK : k < K
    · exact ((bh_isP_iff.mp h).1 k hkK).2
    · rw [hr.2.2 k (by omega) hk]; omega
theorem bh_fm_len {α β : Type} {f : α → List β} {m : Nat} : ∀ (l : List α), (∀ a, a ∈ l → (f a).length ≤ m) → (l.flatMap f).length ≤ l.length * m
  | [], _ => by simp
  | a :: t, h => by
    rw [bh_fm_cons, List.length_append, List.length_cons, Nat.succ_mul]
    have := bh_fm_len t (fun b hb => h b (List.mem_cons_of_mem _ hb))
    have := h a List.mem_cons_self
    omega
theorem bh_sq_len {L : List Nat} (hL : L.length ≤ 64) : ∀ (n r : Nat), (bh_sq L n r).length ≤ 64 ^ n
  | 0, r => by
    unfold bh_sq
    split <;> simp
  | n + 1, r => by
    unfold bh_sq
    refine Nat.le_trans (bh_fm_len (m := 64 ^ n) L fun p _ => ?_) ?_
    · split
      · rw [List.length_map]; exact bh_sq_len hL n _
      · exact Nat.zero_le _
    · rw [Nat.pow_succ, Nat.mul_comm (64 ^ n)]
      exact Nat.mul_le_mul hL (Nat.le_refl _)
theorem bh_drop_cons {L : List Nat} {i : Nat} (h : i < L.length) : L.drop i = L.getD i 0 :: L.drop (i + 1) := by
  rw [List.drop_eq_getElem_cons h, List.getD_eq_getElem?_getD, List.getElem?_eq_getElem h]; rfl
theorem bh_take_succ {L : List Nat} {i : Nat} (h : i < L.length) : L.take (i + 1) = L.take i ++ [L.getD i 0] := by
  rw [List.take_succ, List.getD_eq_getElem?_getD, List.getElem?_eq_getElem h]; rfl
theorem bh_waysOf {G : GM} {v K lo hi S : Nat} {L : List Nat} (h : bh_PO G v K lo hi S L) (hL : bh_PL L K lo hi S) (hK : K ≤ 5) (hlo : lo < 100) (hhi : hi < 100) (hS : S < 1000) : ∀ (m n r : Nat), n ≤ 3 → n ≤ m → bh_ok K 15 r → f_X6_waysOf (m + 1) v (nI n) (nI r) G = some (nI (bh_sq L n r).length, G)
  | m, 0, r, _, _, hr => by
    unfold f_X6_waysOf fb_X6_waysOf k_X6_waysOf_10
    rw [if_pos (by decide), if_pos (show nI 0 = (0 : Int32) from rfl)]
    unfold bh_sq
    by_cases h0 : r = 0
    · subst h0; rfl
    · rw [if_neg h0, if_neg (nI_ne0 (by omega) (by have := hr.1; omega))]; rfl
  | m, 1, r, _, _, hr => by
    unfold f_X6_waysOf fb_X6_waysOf
    rw [if_neg (by decide), if_pos (by decide), if_pos (show nI 1 = (1 : Int32) from rfl), bh_isPart h hK hr.1 hlo hhi hS, ob_s, hL.2.2 r hr]
    by_cases h0 : bh_isP K lo hi S r = true
    · rw [if_pos h0, if_neg (by decide), if_pos h0]; rfl
    · rw [if_neg h0, if_pos rfl, if_neg h0]; rfl
  | 0, n + 2, _, _, hm, _ => absurd hm (by omega)
  | m + 1, n + 2, r, hn, hm, hr => by
    have ih : ∀ r, bh_ok K 15 r → f_X6_waysOf (m + 1) v (nI (n + 1)) (nI r) G = some (nI (bh_sq L (n + 1) r).length, G) := fun r hr => bh_waysOf h hL hK hlo hhi hS m (n + 1) r (by omega) (by omega) hr
    have hlen := hL.1
    unfold f_X6_waysOf fb_X6_waysOf
    generalize f_X6_waysOf (m + 1) = rec at ih
    rw [show (1 : Int32) = nI 1 from rfl, show (3 : Int32) = nI 3 from rfl, if_neg (nI_nlt (by omega) (by omega)), if_pos (nI_le (by omega) (by omega)), if_neg (by rw [nI_eq (by omega) (by omega)]; omega)]
    refine wl2_up (P := fun o => o = some (nI (bh_sq L (n + 2) r).length, G)) (I := fun i y G' => G' = G ∧ y = nI ((L.take i).flatMap fun p => if bh_ct r p then (bh_sq L (n + 1) (r - p)).map (p :: ·) else []).length) (N := L.length) (by omega) ?_ (n := FU) (i := 0) (Nat.zero_le _) ⟨rfl, rfl⟩ (by unfold FU; omega)
    rintro kc i y G' hi' ⟨rfl, rfl⟩ hk
    unfold lp_X6_waysOf_48
    rw [h.1]
    by_cases hiL : i < L.length
    · have hp := hL.2.1 _ (bh_getD_mem hiL)
      have hr15 : ∀ k, k < 5 → bh_dg r k < 16 := fun k hk => by have := hr.2.1 k hk; omega
      rw [if_neg (nI_ge hiL (by omega)), inb_n (by omega) (by omega), gd_t, nI_clamp (by omega), h.2.2.2.2.2 i hiL, bh_canTake hr.1 hp.1 hr15 hp.2, ob_s]
      by_cases hc : bh_ct r (L.getD i 0) = true
      · obtain ⟨o1, o2, -⟩ := bh_ok_sub hr hp.1 hc
        rw [if_pos hc, if_neg (by decide), gd_t, h.2.2.2.2.2 i hiL, pk_sub o2, show nI (n + 2) - (1 : Int32) = nI (n + 1) from nI_pred _, ih _ o1, ob_s, nI_add, lt_r, nI_1]
        refine hk hiL _ _ ⟨rfl, ?_⟩
        rw [bh_take_succ hiL, List.flatMap_append, List.length_append, List.flatMap_singleton, if_pos hc, List.length_map]
      · rw [if_neg hc, if_pos rfl, nI_1]
        refine hk hiL _ _ ⟨rfl, ?_⟩
        rw [bh_take_succ hiL, List.flatMap_append, List.length_append, List.flatMap_singleton, if_neg hc, List.length_nil]
        rfl
    · have hiL2 : i = L.length := by omega
      subst hiL2
      rw [if_pos (nI_le (by omega) (by omega)), List.take_length]
      rfl
