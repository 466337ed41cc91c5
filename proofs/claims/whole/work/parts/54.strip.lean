/-! a STRIP by its SERIAL: pure -/
def bh_PS (K : Nat) (z : Nat → Nat) : Nat := bh_sm (fun k => bh_pk k (z k)) K
def bh_pl (C R E K : Nat) (z : Nat → Nat) : List (List Nat) := bh_sq (bh_mx K R (R * E)) C (bh_PS K z)
def bh_np (C R E K : Nat) (z : Nat → Nat) : Nat := (bh_pl C R E K z).length
/-- the mix of a card in a plan -/
def bh_pln (C R E K : Nat) (z : Nat → Nat) (i c : Nat) : Nat := ((bh_pl C R E K z).getD i []).getD c 0
def bh_ls (R E K w : Nat) : List (List Nat) := bh_sq (bh_st K E) R w
def bh_P (C R E K : Nat) (z : Nat → Nat) (s c : Nat) : Nat := bh_pln C R E K z (bh_dV s (bh_np C R E K z)) c
def bh_LI (C R E K : Nat) (z : Nat → Nat) (s c : Nat) : Nat := bh_dV (bh_it (1 + c) s) (bh_ls R E K (bh_P C R E K z s c)).length
def bh_LY (C R E K : Nat) (z : Nat → Nat) (s c r : Nat) : Nat := ((bh_ls R E K (bh_P C R E K z s c)).getD (bh_LI C R E K z s c) []).getD r 0
def bh_XK (C : Nat) (z : Nat → Nat) (s k : Nat) : Nat := bh_it (1 + C + bh_sm (fun j => z j - 1) k) s
def bh_MX (C : Nat) (z : Nat → Nat) (s k : Nat) : Nat → Nat := bh_mx0 (z k) (1 + bh_sm z k) (bh_XK C z s k)
def bh_OF (C R E K : Nat) (z : Nat → Nat) (s c k : Nat) : Nat := bh_sm (fun c' => bh_dg (bh_P C R E K z s c') k) c
def bh_JR (C R E K : Nat) (z : Nat → Nat) (s c r k : Nat) : Nat := bh_sm (fun r' => bh_dg (bh_LY C R E K z s c r') k) r
/-- what stands at a card, a row, a column; 0: nothing -/
def bh_ST (C R E K : Nat) (z : Nat → Nat) (s c r k : Nat) : Nat := if bh_dg (bh_LY C R E K z s c r) k = 1 then bh_srt (bh_dg (bh_P C R E K z s c) k) (fun i => bh_MX C z s k (bh_OF C R E K z s c k + i)) (bh_JR C R E K z s c r k) else 0
/-- a hall as it may be told -/
def bh_VH (C R E K : Nat) (z : Nat → Nat) : Prop := (1 ≤ C ∧ C ≤ 3) ∧ (1 ≤ R ∧ R ≤ 3) ∧ (1 ≤ E ∧ E ≤ 5) ∧ (2 ≤ K ∧ K ≤ 5) ∧ E ≤ K ∧ (∀ k, k < K → 1 ≤ z k ∧ z k ≤ 15) ∧ bh_sm z K = C * R * E ∧ 0 < bh_np C R E K z
def bh_chk (K m p : Nat) : Bool := Nat.blt p 33554432 && bh_al (fun k => Nat.ble (bh_dg p k) m && (Nat.blt k K || Nat.beq (bh_dg p k) 0)) 5
theorem bh_chk_iff {K m p : Nat} (h : bh_chk K m p = true) : p < 33554432 ∧ (∀ k, k < 5 → bh_dg p k ≤ m) ∧ ∀ k, k < 5 → K ≤ k → bh_dg p k = 0 := by
  unfold bh_chk at h
  rw [Bool.and_eq_true, bh_al_iff] at h
  refine ⟨by have := h.1; simp at this; exact this, fun k hk => ?_, fun k hk hK => ?_⟩
  · have := h.2 k hk
    rw [Bool.and_eq_true, Nat.ble_eq] at this
    exact this.1
  · have := h.2 k hk
    rw [Bool.and_eq_true, Bool.or_eq_true, Nat.beq_eq] at this
    rcases this.2 with h2 | h2
    · simp at h2; omega
    · exact h2
theorem bh_mx_in0 : ∀ K, K < 6 → ∀ R, R < 4 → ∀ E, E < 6 → (bh_mx K R (R * E)).all (bh_chk K 3) = true := by decide +kernel
theorem bh_mx_in (K : Nat) (hK : K < 6) (R : Nat) (hR : R < 4) (E : Nat) (hE : E < 6) (p : Nat) (h : p ∈ bh_mx K R (R * E)) : p < 33554432 ∧ (∀ k, k < 5 → bh_dg p k ≤ 3) ∧ ∀ k, k < 5 → K ≤ k → bh_dg p k = 0 := bh_chk_iff (List.all_eq_true.mp (bh_mx_in0 K hK R hR E hE) p h)
theorem bh_mx_isP {K R S p : Nat} (h : p ∈ bh_mx K R S) : (∀ k, k < K → 1 ≤ bh_dg p k ∧ bh_dg p k ≤ R) ∧ bh_sm (bh_dg p) K = S := by
  have := (List.mem_filter.mp h).2
  exact bh_isP_iff.mp this
theorem bh_st_in0 : ∀ K, K < 6 → ∀ E, E < 6 → (bh_st K E).all (bh_chk K 1) = true := by decide +kernel
theorem bh_st_in (K : Nat) (hK : K < 6) (E : Nat) (hE : E < 6) (p : Nat) (h : p ∈ bh_st K E) : p < 33554432 ∧ (∀ k, k < 5 → bh_dg p k ≤ 1) ∧ ∀ k, k < 5 → K ≤ k → bh_dg p k = 0 := bh_chk_iff (List.all_eq_true.mp (bh_st_in0 K hK E hE) p h)
theorem bh_st_isP {K E p : Nat} (h : p ∈ bh_st K E) : bh_sm (bh_dg p) K = E := by
  have := (List.mem_filter.mp h).2
  exact (bh_isP_iff.mp this).2
theorem bh_ls_pos : ∀ K, K < 6 → ∀ R, R < 4 → ∀ E, E < 6 → E ≤ K → ∀ w, w ∈ bh_mx K R (R * E) → 0 < (bh_ls R E K w).length := by decide +kernel
theorem bh_sm_pk {z : Nat → Nat} : ∀ {K : Nat}, K ≤ 5 → (∀ k, k < K → z k ≤ 31) → bh_sm (fun k => bh_pk k (z k)) K < 33554432 ∧ ∀ k, k < 5 → bh_dg (bh_sm (fun k => bh_pk k (z k)) K) k = if k < K then z k else 0
  | 0, _, _ => ⟨by show 0 < 33554432; omega, fun k _ => by rw [if_neg (Nat.not_lt_zero _)]; exact bh_dg_zero k⟩
  | K + 1, hK, hz => by
    obtain ⟨h1, h2⟩ := bh_sm_pk (z := z) (K := K) (by omega) (fun k hk => hz k (by omega))
    have hzK := hz K (by omega)
    have hd : ∀ j, j < 5 → bh_dg (bh_pk K (z K)) j = if j = K then z K else 0 := fun j hj => bh_dg_pk (by omega) (by omega) hj
    have h3 := bh_dg_add (r := bh_sm (fun k => bh_pk k (z k)) K) (p := bh_pk K (z K)) h1 (bh_pk_lt (by omega)) (fun j hj => by
      rw [hd j hj, h2 j hj]
      by_cases hj' : j = K
      · subst hj'; rw [if_pos rfl, if_neg (Nat.lt_irrefl _)]; omega
      · rw [if_neg hj']
        by_cases hj2 : j < K
        · rw [if_pos hj2]; have := hz j (by omega); omega
        · rw [if_neg hj2]; omega)
    refine ⟨h3.1, fun k hk => ?_⟩
    show bh_dg (bh_sm (fun k => bh_pk k (z k)) K + bh_pk K (z K)) k = _
    rw [h3.2 k hk, hd k hk, h2 k hk]
    by_cases hj' : k = K
    · subst hj'; rw [if_pos rfl, if_neg (Nat.lt_irrefl _), if_pos (Nat.lt_succ_self _)]; omega
    · rw [if_neg hj']
      by_cases hj2 : k < K
      · rw [if_pos hj2, if_pos (by omega)]; omega
      · rw [if_neg hj2, if_neg (by omega)]
theorem bh_sm_head (g : Nat → Nat) : ∀ n, bh_sm g (n + 1) = g 0 + bh_sm (fun i => g (i + 1)) n
  | 0 => by simp [bh_sm]
  | n + 1 => by
    rw [bh_sm, bh_sm_head g n]
    show _ = g 0 + (bh_sm (fun i => g (i + 1)) n + g (n + 1))
    omega
theorem bh_map_sum {f : Nat → Nat} : ∀ (l : List Nat), (l.map f).sum = bh_sm (fun i => f (l.getD i 0)) l.length
  | [] => rfl
  | a :: t => by
    rw [List.map_cons, List.sum_cons, bh_map_sum t, List.length_cons, bh_sm_head]
    rfl
theorem bh_sm_find {f : Nat → Nat} {p : Nat} : ∀ {n : Nat}, p < bh_sm f n → ∃ m, m < n ∧ bh_sm f m ≤ p ∧ p < bh_sm f (m + 1)
  | 0, h => absurd h (Nat.not_lt_zero _)
  | n + 1, h => by
    by_cases h2 : p < bh_sm f n
    · obtain ⟨m, h3, h4⟩ := bh_sm_find h2
      exact ⟨m, by omega, h4⟩
    · exact ⟨n, by omega, by omega, h⟩
theorem bh_getD_mem {l : List Nat} {i : Nat} (h : i < l.length) : l.getD i 0 ∈ l := by
  rw [List.getD_eq_getElem?_getD, List.getElem?_eq_getElem h]; exact List.getElem_mem h
theorem bh_getDL_mem {l : List (List Nat)} {i : Nat} (h : i < l.length) : l.getD i [] ∈ l := by
  rw [List.getD_eq_getElem?_getD, List.getElem?_eq_getElem h]; exact List.getElem_mem h
theorem bh_pl_at {C R E K : Nat} {z : Nat → Nat} (hV : bh_VH C R E K z) {i : Nat} (hi : i < bh_np C R E K z) : (∀ c, c < C → bh_pln C R E K z i c ∈ bh_mx K R (R * E)) ∧ ∀ k, k < K → bh_sm (fun c => bh_dg (bh_pln C R E K z i c) k) C = z k := by
  obtain ⟨hC, hR, hE, hK, -, hz, -, -⟩ := hV
  have hp := bh_sm_pk (z := z) (K := K) (by omega) (fun k hk => by have := hz k hk; omega)
  have hin : ∀ p, p ∈ bh_mx K R (R * E) → p < 33554432 := fun p h => (bh_mx_in K (by omega) R (by omega) E (by omega) p h).1
  have hm := bh_sq_mem hin C (r := bh_PS K z) hp.1 (bh_getDL_mem (l := bh_pl C R E K z) (i := i) hi)
  obtain ⟨h1, h2, h3⟩ := hm
  refine ⟨fun c hc => h2 _ (bh_getD_mem (by omega)), fun k hk => ?_⟩
  have h4 := h3 k (by omega)
  rw [bh_map_sum, h1] at h4
  have h5 := hp.2 k (by omega)
  rw [if_pos hk] at h5
  exact h4.trans h5
theorem bh_P_in {C R E K : Nat} {z : Nat → Nat} (hV : bh_VH C R E K z) (s : Nat) : (∀ c, c < C → bh_P C R E K z s c ∈ bh_mx K R (R * E)) ∧ ∀ k, k < K → bh_OF C R E K z s C k = z k := bh_pl_at hV (bh_dV_lt hV.2.2.2.2.2.2.2)
theorem bh_L_in {C R E K : Nat} {z : Nat → Nat} (hV : bh_VH C R E K z) (s : Nat) {c : Nat} (hc : c < C) : (∀ r, r < R → bh_LY C R E K z s c r ∈ bh_st K E) ∧ ∀ k, k < 5 → bh_JR C R E K z s c R k = bh_dg (bh_P C R E K z s c) k := by
  have hP := (bh_P_in hV s).1 c hc
  obtain ⟨hC, hR, hE, hK, hEK, hz, -, -⟩ := hV
  have hpos := bh_ls_pos K (by omega) R (by omega) E (by omega) hEK _ hP
  have hin : ∀ p, p ∈ bh_st K E → p < 33554432 := fun p h => (bh_st_in K (by omega) E (by omega) p h).1
  have hm := bh_sq_mem hin R (r := bh_P C R E K z s c) (bh_mx_in K (by omega) R (by omega) E (by omega) _ hP).1 (bh_getDL_mem (l := bh_ls R E K (bh_P C R E K z s c)) (i := bh_LI C R E K z s c) (bh_dV_lt hpos))
  obtain ⟨h1, h2, h3⟩ := hm
  refine ⟨fun r hr => h2 _ (bh_getD_mem (by omega)), fun k hk => ?_⟩
  have h4 := h3 k hk
  rw [bh_map_sum, h1] at h4
  exact h4
/-- a digit of a layout, and where its number comes from -/
theorem bh_ST_at {C R E K : Nat} {z : Nat → Nat} (hV : bh_VH C R E K z) (s : Nat) {c r k : Nat} (hc : c < C) (hr : r < R) (hk : k < K) : bh_dg (bh_LY C R E K z s c r) k ≤ 1 ∧ (bh_dg (bh_LY C R E K z s c r) k = 1 → bh_JR C R E K z s c r k < bh_dg (bh_P C R E K z s c) k) ∧ bh_dg (bh_P C R E K z s c) k ≤ 3 ∧ bh_OF C R E K z s c k + bh_dg (bh_P C R E K z s c) k ≤ z k := by
  have hL := bh_L_in hV s hc
  have hP := bh_P_in hV s
  have hPc := hP.1 c hc
  have hV' := hV
  obtain ⟨hC, hR, hE, hK, hEK, hz, -, -⟩ := hV'
  have h1 := (bh_st_in K (by omega) E (by omega) _ (hL.1 r hr)).2.1 k (by omega)
  refine ⟨h1, fun h => ?_, (bh_mx_in K (by omega) R (by omega) E (by omega) _ hPc).2.1 k (by omega), ?_⟩
  · have h2 := hL.2 k (by omega)
    have h3 : bh_JR C R E K z s c (r + 1) k ≤ bh_JR C R E K z s c R k := bh_sm_mono (by omega)
    have h4 : bh_JR C R E K z s c (r + 1) k = bh_JR C R E K z s c r k + bh_dg (bh_LY C R E K z s c r) k := rfl
    omega
  · have h2 := hP.2 k hk
    have h3 : bh_OF C R E K z s (c + 1) k ≤ bh_OF C R E K z s C k := bh_sm_mono (by omega)
    have h4 : bh_OF C R E K z s (c + 1) k = bh_OF C R E K z s c k + bh_dg (bh_P C R E K z s c) k := rfl
    omega
theorem bh_ST_val {C R E K : Nat} {z : Nat → Nat} (hV : bh_VH C R E K z) (s : Nat) {c r k : Nat} (hc : c < C) (hr : r < R) (hk : k < K) (h : bh_dg (bh_LY C R E K z s c r) k = 1) : ∃ i, i < bh_dg (bh_P C R E K z s c) k ∧ bh_ST C R E K z s c r k = bh_MX C z s k (bh_OF C R E K z s c k + i) ∧ bh_OF C R E K z s c k + i < z k ∧ 1 + bh_sm z k ≤ bh_ST C R E K z s c r k ∧ bh_ST C R E K z s c r k < 1 + bh_sm z k + z k := by
  obtain ⟨h1, h2, h3, h4⟩ := bh_ST_at hV s hc hr hk
  obtain ⟨i, hi, he⟩ := bh_srt_mem (a := fun i => bh_MX C z s k (bh_OF C R E K z s c k + i)) h3 (h2 h)
  have hv : bh_ST C R E K z s c r k = bh_MX C z s k (bh_OF C R E K z s c k + i) := by
    unfold bh_ST; rw [if_pos h]; exact he
  have hp := (bh_mx0_prm (z k) (1 + bh_sm z k) (bh_XK C z s k)).1 (bh_OF C R E K z s c k + i) (by omega)
  refine ⟨i, hi, hv, by omega, ?_, ?_⟩
  · rw [hv]; exact hp.1
  · rw [hv]; exact hp.2
theorem bh_ST_0 {C R E K : Nat} {z : Nat → Nat} {s c r k : Nat} (h : bh_dg (bh_LY C R E K z s c r) k ≠ 1) : bh_ST C R E K z s c r k = 0 := if_neg h
theorem bh_ST_N {C R E K : Nat} {z : Nat → Nat} (hV : bh_VH C R E K z) (s : Nat) {c r k : Nat} (hc : c < C) (hr : r < R) (hk : k < K) : bh_ST C R E K z s c r k ≤ C * R * E := by
  by_cases h : bh_dg (bh_LY C R E K z s c r) k = 1
  · obtain ⟨i, -, -, -, -, h5⟩ := bh_ST_val hV s hc hr hk h
    have h6 : bh_sm z (k + 1) ≤ bh_sm z K := bh_sm_mono (by omega)
    have h7 : bh_sm z (k + 1) = bh_sm z k + z k := rfl
    have h8 := hV.2.2.2.2.2.2.1
    omega
  · rw [bh_ST_0 h]; exact Nat.zero_le _
theorem bh_ST_pos {C R E K : Nat} {z : Nat → Nat} (hV : bh_VH C R E K z) (s : Nat) {c r k : Nat} (hc : c < C) (hr : r < R) (hk : k < K) : 0 < bh_ST C R E K z s c r k ↔ bh_dg (bh_LY C R E K z s c r) k = 1 := by
  by_cases h : bh_dg (bh_LY C R E K z s c r) k = 1
  · obtain ⟨i, -, -, -, h5, -⟩ := bh_ST_val hV s hc hr hk h
    exact ⟨fun _ => h, fun _ => by omega⟩
  · rw [bh_ST_0 h]; exact ⟨fun h2 => absurd h2 (Nat.lt_irrefl _), fun h2 => absurd h2 h⟩
theorem bh_ST_inj {C R E K : Nat} {z : Nat → Nat} (hV : bh_VH C R E K z) (s : Nat) {c r k c' r' k' : Nat} (hc : c < C) (hr : r < R) (hk : k < K) (hc' : c' < C) (hr' : r' < R) (hk' : k' < K) (h0 : 0 < bh_ST C R E K z s c r k) (he : bh_ST C R E K z s c r k = bh_ST C R E K z s c' r' k') : c = c' ∧ r = r' ∧ k = k' := by
  have d := (bh_ST_pos hV s hc hr hk).mp h0
  have d' := (bh_ST_pos hV s hc' hr' hk').mp (by omega)
  obtain ⟨i, hi, v1, v2, v3, v4⟩ := bh_ST_val hV s hc hr hk d
  obtain ⟨i', hi', w1, w2, w3, w4⟩ := bh_ST_val hV s hc' hr' hk' d'
  have hkk : k = k' := by
    apply Classical.byContradiction
    intro hn
    rcases Nat.lt_or_gt_of_ne hn with h | h
    · have h6 : bh_sm z (k + 1) ≤ bh_sm z k' := bh_sm_mono (by omega)
      have h7 : bh_sm z (k + 1) = bh_sm z k + z k := rfl
      omega
    · have h6 : bh_sm z (k' + 1) ≤ bh_sm z k := bh_sm_mono (by omega)
      have h7 : bh_sm z (k' + 1) = bh_sm z k' + z k' := rfl
      omega
  subst hkk
  have hp := (bh_mx0_prm (z k) (1 + bh_sm z k) (bh_XK C z s k)).2.1 _ _ v2 w2 (by
    have : bh_MX C z s k (bh_OF C R E K z s c k + i) = bh_MX C z s k (bh_OF C R E K z s c' k + i') := by rw [← v1, ← w1]; exact he
    exact this)
  have hcc : c = c' := by
    apply Classical.byContradiction
    intro hn
    rcases Nat.lt_or_gt_of_ne hn with h | h
    · have h6 : bh_OF C R E K z s (c + 1) k ≤ bh_OF C R E K z s c' k := bh_sm_mono (by omega)
      have h7 : bh_OF C R E K z s (c + 1) k = bh_OF C R E K z s c k + bh_dg (bh_P C R E K z s c) k := rfl
      omega
    · have h6 : bh_OF C R E K z s (c' + 1) k ≤ bh_OF C R E K z s c k := bh_sm_mono (by omega)
      have h7 : bh_OF C R E K z s (c' + 1) k = bh_OF C R E K z s c' k + bh_dg (bh_P C R E K z s c') k := rfl
      omega
  subst hcc
  refine ⟨rfl, ?_, rfl⟩
  obtain ⟨-, j1, j3, j4⟩ := bh_ST_at hV s hc hr hk
  obtain ⟨-, j2, -, -⟩ := bh_ST_at hV s hc hr' hk
  have e2 : bh_srt (bh_dg (bh_P C R E K z s c) k) (fun i => bh_MX C z s k (bh_OF C R E K z s c k + i)) (bh_JR C R E K z s c r k) = bh_srt (bh_dg (bh_P C R E K z s c) k) (fun i => bh_MX C z s k (bh_OF C R E K z s c k + i)) (bh_JR C R E K z s c r' k) := by
    unfold bh_ST at he
    rw [if_pos d, if_pos d'] at he
    exact he
  have hj := bh_srt_inj j3 (fun i k' hi hk' h => by
    have := (bh_mx0_prm (z k) (1 + bh_sm z k) (bh_XK C z s k)).2.1 _ _ (by omega) (by omega) h
    omega) _ _ (j1 d) (j2 d') e2
  apply Classical.byContradiction
  intro hn
  rcases Nat.lt_or_gt_of_ne hn with h | h
  · have h6 : bh_JR C R E K z s c (r + 1) k ≤ bh_JR C R E K z s c r' k := bh_sm_mono (by omega)
    have h7 : bh_JR C R E K z s c (r + 1) k = bh_JR C R E K z s c r k + bh_dg (bh_LY C R E K z s c r) k := rfl
    omega
  · have h6 : bh_JR C R E K z s c (r' + 1) k ≤ bh_JR C R E K z s c r k := bh_sm_mono (by omega)
    have h7 : bh_JR C R E K z s c (r' + 1) k = bh_JR C R E K z s c r' k + bh_dg (bh_LY C R E K z s c r') k := rfl
    omega
theorem bh_ST_onto {C R E K : Nat} {z : Nat → Nat} (hV : bh_VH C R E K z) (s : Nat) {v : Nat} (h1 : 1 ≤ v) (h2 : v ≤ C * R * E) : ∃ c r k, c < C ∧ r < R ∧ k < K ∧ bh_ST C R E K z s c r k = v := by
  have hs := hV.2.2.2.2.2.2.1
  obtain ⟨k, hk, k1, k2⟩ := bh_sm_find (f := z) (p := v - 1) (n := K) (by omega)
  have k3 : bh_sm z (k + 1) = bh_sm z k + z k := rfl
  obtain ⟨p, hp, hv⟩ := (bh_mx0_prm (z k) (1 + bh_sm z k) (bh_XK C z s k)).2.2 v (by omega) (by omega)
  have hO := (bh_P_in hV s).2 k hk
  obtain ⟨c, hc, c1, c2⟩ := bh_sm_find (f := fun c' => bh_dg (bh_P C R E K z s c') k) (p := p) (n := C) (by unfold bh_OF at hO; omega)
  have c3 : bh_sm (fun c' => bh_dg (bh_P C R E K z s c') k) (c + 1) = bh_OF C R E K z s c k + bh_dg (bh_P C R E K z s c) k := rfl
  have c4 : bh_sm (fun c' => bh_dg (bh_P C R E K z s c') k) c = bh_OF C R E K z s c k := rfl
  have hP3 : bh_dg (bh_P C R E K z s c) k ≤ 3 := (bh_ST_at hV s hc (r := 0) (by have := hV.2.1; omega) hk).2.2.1
  obtain ⟨j, hj, e⟩ := bh_srt_onto (n := bh_dg (bh_P C R E K z s c) k) (i := p - bh_OF C R E K z s c k) (a := fun i => bh_MX C z s k (bh_OF C R E K z s c k + i)) hP3 (by omega)
  have hJ := (bh_L_in hV s hc).2 k (by have := hV.2.2.2.1; omega)
  obtain ⟨r, hr, r1, r2⟩ := bh_sm_find (f := fun r' => bh_dg (bh_LY C R E K z s c r') k) (p := j) (n := R) (by unfold bh_JR at hJ; omega)
  have r3 : bh_sm (fun r' => bh_dg (bh_LY C R E K z s c r') k) (r + 1) = bh_JR C R E K z s c r k + bh_dg (bh_LY C R E K z s c r) k := rfl
  have r4 : bh_sm (fun r' => bh_dg (bh_LY C R E K z s c r') k) r = bh_JR C R E K z s c r k := rfl
  have hd := (bh_ST_at hV s hc hr hk).1
  refine ⟨c, r, k, hc, hr, hk, ?_⟩
  have hjr : bh_JR C R E K z s c r k = j := by omega
  unfold bh_ST
  rw [if_pos (by omega), hjr, e]
  show bh_MX C z s k (bh_OF C R E K z s c k + (p - bh_OF C R E K z s c k)) = v
  rw [show bh_OF C R E K z s c k + (p - bh_OF C R E K z s c k) = p from by omega]
  exact hv
/-- a row of a card has so many numbers -/
theorem bh_row_E {C R E K : Nat} {z : Nat → Nat} (hV : bh_VH C R E K z) (s : Nat) {c r : Nat} (hc : c < C) (hr : r < R) : bh_sm (fun k => if 0 < bh_ST C R E K z s c r k then 1 else 0) K = E := by
  have h := bh_st_isP ((bh_L_in hV s hc).1 r hr)
  refine (bh_sm_congr fun k hk => ?_).trans h
  have h1 := (bh_ST_at hV s hc hr hk).1
  have h2 := bh_ST_pos hV s hc hr hk
  by_cases h3 : bh_dg (bh_LY C R E K z s c r) k = 1
  · rw [if_pos (h2.mpr h3), h3]
  · rw [if_neg (fun h4 => h3 (h2.mp h4))]; omega
