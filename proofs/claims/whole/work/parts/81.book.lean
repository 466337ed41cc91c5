/-! BOOK -/
section BK
variable {ln C R E K m pu bb : Nat} {z sv cl pr : Nat → Nat}
/-- how many, and which, behind so many serials -/
noncomputable def bh_bk (C R E K : Nat) (z : Nat → Nat) (s0 : Nat) : Nat → Nat × (Nat → Nat)
  | 0 => (0, fun _ => 0)
  | n + 1 => @ite _ (∃ k, k < (bh_bk C R E K z s0 n).1 ∧ bh_sam C R E K z ((bh_bk C R E K z s0 n).2 k) (s0 + n)) (Classical.propDecidable _) (bh_bk C R E K z s0 n) ((bh_bk C R E K z s0 n).1 + 1, fun k => if k = (bh_bk C R E K z s0 n).1 then s0 + n else (bh_bk C R E K z s0 n).2 k)
theorem bh_bk_1 {s0 n : Nat} (h : ∃ k, k < (bh_bk C R E K z s0 n).1 ∧ bh_sam C R E K z ((bh_bk C R E K z s0 n).2 k) (s0 + n)) : bh_bk C R E K z s0 (n + 1) = bh_bk C R E K z s0 n := if_pos h
theorem bh_bk_0 {s0 n : Nat} (h : ¬ ∃ k, k < (bh_bk C R E K z s0 n).1 ∧ bh_sam C R E K z ((bh_bk C R E K z s0 n).2 k) (s0 + n)) : bh_bk C R E K z s0 (n + 1) = ((bh_bk C R E K z s0 n).1 + 1, fun k => if k = (bh_bk C R E K z s0 n).1 then s0 + n else (bh_bk C R E K z s0 n).2 k) := if_neg h
theorem bh_bk_le {s0 : Nat} : ∀ n, (bh_bk C R E K z s0 n).1 ≤ n
  | 0 => Nat.le_refl _
  | n + 1 => by
    have := bh_bk_le (s0 := s0) n
    rcases Classical.em (∃ k, k < (bh_bk C R E K z s0 n).1 ∧ bh_sam C R E K z ((bh_bk C R E K z s0 n).2 k) (s0 + n)) with h | h
    · rw [bh_bk_1 h]; omega
    · rw [bh_bk_0 h]
      show _ + 1 ≤ _
      omega
theorem bh_bk_mono {s0 n : Nat} : ∀ d, (bh_bk C R E K z s0 n).1 ≤ (bh_bk C R E K z s0 (n + d)).1 ∧ ∀ k, k < (bh_bk C R E K z s0 n).1 → (bh_bk C R E K z s0 (n + d)).2 k = (bh_bk C R E K z s0 n).2 k
  | 0 => ⟨Nat.le_refl _, fun _ _ => rfl⟩
  | d + 1 => by
    obtain ⟨h1, h2⟩ := bh_bk_mono (s0 := s0) (n := n) d
    rcases Classical.em (∃ k, k < (bh_bk C R E K z s0 (n + d)).1 ∧ bh_sam C R E K z ((bh_bk C R E K z s0 (n + d)).2 k) (s0 + (n + d))) with h | h
    · rw [show n + (d + 1) = (n + d) + 1 from rfl, bh_bk_1 h]; exact ⟨h1, h2⟩
    · rw [show n + (d + 1) = (n + d) + 1 from rfl, bh_bk_0 h]
      refine ⟨Nat.le_succ_of_le h1, fun k hk => ?_⟩
      show (if k = _ then _ else _) = _
      rw [if_neg (by omega)]; exact h2 k hk
def bh_SV (C R E K : Nat) (z : Nat → Nat) (s q : Nat) : Nat := if q / 15 < C ∧ q / 5 % 3 < R ∧ q % 5 < K then bh_ST C R E K z s (q / 15) (q / 5 % 3) (q % 5) else 0
theorem bh_SV_SM {G : GM} {s : Nat} (h : bh_SM G 0 C R E K z s) {q : Nat} (hq : q < 45) : gI G 206 q = nI (bh_SV C R E K z s q) := by
  have := SM0 h (c := q / 15) (r := q / 5 % 3) (k := q % 5) (by omega) (by omega) (by omega)
  rw [show 15 * (q / 15) + 5 * (q / 5 % 3) + q % 5 = q from by omega] at this
  exact this
theorem bh_SV_le {s q : Nat} (hV : bh_VH C R E K z) : bh_SV C R E K z s q ≤ 45 := by
  have h45 := bh_N45 hV
  unfold bh_SV
  split
  · next h => exact Nat.le_trans (bh_ST_N hV s h.1 h.2.1 h.2.2) h45
  · omega
theorem bh_SV_sam {s t : Nat} (hV : bh_VH C R E K z) : (∀ q, q < 45 → bh_SV C R E K z s q = bh_SV C R E K z t q) ↔ bh_sam C R E K z s t := by
  obtain ⟨hbC, hbR, -, hbK, -⟩ := id hV
  constructor
  · intro h c r k hc hr hk
    have := h (15 * c + 5 * r + k) (by omega)
    unfold bh_SV at this
    rw [show (15 * c + 5 * r + k) / 15 = c from by omega, show (15 * c + 5 * r + k) / 5 % 3 = r from by omega, show (15 * c + 5 * r + k) % 5 = k from by omega, if_pos ⟨hc, hr, hk⟩, if_pos ⟨hc, hr, hk⟩] at this
    exact this
  · intro h q hq
    unfold bh_SV
    by_cases hin : q / 15 < C ∧ q / 5 % 3 < R ∧ q % 5 < K
    · rw [if_pos hin, if_pos hin]; exact h _ _ _ hin.1 hin.2.1 hin.2.2
    · rw [if_neg hin, if_neg hin]
/-- the class's strips of the book -/
def bh_CB (G : GM) (C R E K : Nat) (z : Nat → Nat) (b : Nat × (Nat → Nat)) : Prop := ∀ k, k < b.1 → bh_SC G (77 + k) C R E K z (b.2 k) ∧ gI G 117 k = nI (b.2 k)
theorem bh_LN77 : ∀ k, k < 40 → LN (77 + k) = 45 := by decide +kernel
theorem c_unlike {G : GM} {s : Nat} {b : Nat × (Nat → Nat)} (hV : bh_VH C R E K z) (hb : b.1 < 40) (hB : bh_CB G C R E K z b) (hS : bh_SC G (77 + b.1) C R E K z s) : ∃ v, f_X9_isUnlikeAhead (nI b.1) G = some (v, G) ∧ ((∃ k, k < b.1 ∧ bh_sam C R E K z (b.2 k) s) → v = 0) ∧ (¬ (∃ k, k < b.1 ∧ bh_sam C R E K z (b.2 k) s) → v = 1) := by
  unfold f_X9_isUnlikeAhead
  refine wl1_up (P := fun o => ∃ v, o = some (v, G) ∧ ((∃ k, k < b.1 ∧ bh_sam C R E K z (b.2 k) s) → v = 0) ∧ (¬ (∃ k, k < b.1 ∧ bh_sam C R E K z (b.2 k) s) → v = 1)) (I := fun i G' => G' = G ∧ ∀ k, k < i → ¬ bh_sam C R E K z (b.2 k) s) (N := b.1) (by omega) ?_ (n := FU) (i := 0) (Nat.zero_le _) ⟨rfl, fun k hk => absurd hk (Nat.not_lt_zero _)⟩ (by unfold FU; omega)
  rintro kc i G' hi' ⟨rfl, q⟩ hkc
  unfold lp_X9_isUnlikeAhead_2
  by_cases hi : i < b.1
  · obtain ⟨v, ev, v1, v0⟩ := c_areSame (G := G') (a := 77 + i) (b := 77 + b.1) (bh_LN77 i (by omega)) (bh_LN77 _ hb)
    have hiff := bh_sam_C hV (hB i hi).1 hS
    rw [if_neg (nI_ge hi (by omega)), inb_n (by omega) (by omega), gd_t, inb_n hb (by omega), gd_t, nI_clamp (by omega), nI_clamp (by omega), ev, ob_s]
    by_cases hs : bh_sam C R E K z (b.2 i) s
    · rw [v1 (hiff.mpr hs), if_neg (by decide)]
      exact ⟨0, rfl, fun _ => rfl, fun h => absurd ⟨i, hi, hs⟩ h⟩
    · rw [v0 (fun h => hs (hiff.mp h)), if_pos rfl, nI_1]
      refine hkc hi _ ⟨rfl, fun k hk => ?_⟩
      by_cases hki : k = i
      · subst hki; exact hs
      · exact q k (by omega)
  · have hi2 : i = b.1 := by omega
    rw [if_pos (nI_le (by omega) (by omega))]
    exact ⟨1, rfl, fun ⟨k, hk, hs⟩ => absurd hs (q k (by omega)), fun _ => rfl⟩
/-- what is asked of the book -/
noncomputable def bh_bA (C R E K : Nat) (z : Nat → Nat) (s0 N : Nat) (x : Int32) : Int32 := if x < 0 then -1 else if x.toNatClampNeg < (bh_bk C R E K z s0 N).1 then nI ((bh_bk C R E K z s0 N).2 x.toNatClampNeg) else -1
theorem c_bookE {G : GM} {s0 n N : Nat} {x1 x : Int32} (hn : n ≤ N) (hN : N ≤ 40) (hB : bh_CB G C R E K z (bh_bk C R E K z s0 n)) (hst : n = N ∨ x < nI (bh_bk C R E K z s0 n).1) : k_X9_book_95 x1 x (nI (bh_bk C R E K z s0 n).1) G = some (bh_bA C R E K z s0 N x, G) := by
  have hle := bh_bk_le (C := C) (R := R) (E := E) (K := K) (z := z) (s0 := s0) n
  unfold k_X9_book_95 bh_bA
  by_cases h0 : x < 0
  · rw [if_pos h0, if_pos h0]
  · obtain ⟨q, hq, rfl⟩ := nI_of h0
    obtain ⟨m1, m2⟩ := bh_bk_mono (C := C) (R := R) (E := E) (K := K) (z := z) (s0 := s0) (n := n) (N - n)
    rw [show n + (N - n) = N from by omega] at m1 m2
    rw [if_neg h0, if_neg h0, nI_clamp hq]
    by_cases hlt : q < (bh_bk C R E K z s0 n).1
    · rw [if_neg (nI_ge hlt (by omega)), inb_n (by omega) (by omega), gd_t, if_pos (by omega), m2 q hlt, (hB q hlt).2]
    · rw [if_pos (nI_le (by omega) hq), if_neg]
      rcases hst with h | h
      · rw [← h]; exact hlt
      · rw [nI_ltI hq (by omega)] at h; exact absurd h hlt
end BK
theorem q_book (x1 x2 : Int32) : bh_Qy (f_X9_book x1 x2) (f_X10_book x1 x2) := by
  intro G hR
  have hh := bh_nwc hR
  have fT := bh_thr G
  rcases hR.2.2.2.2.1 with h0 | ⟨ln, C, R, E, K, m, pu, bb, z, sv, cl, pr, hN, hC, hM⟩
  · have h02 := bh_sc0 hh h0 fT
    exact bh_qy hR (v := (-2 : Int32)) (by unfold f_X9_book; rw [c_isSerialN rfl h0 _, ob_s, bh_i0]) (by unfold f_X10_book; rw [lt_r, m_isSerialN h02 _, ob_s, bh_i0]) (bh_Fr _ _) (bh_thr G)
  have hM2 := bh_scM hN hM fT
  have hV := hN.2.1
  have h45 := bh_N45 hV
  have hbC := hV.1
  have hbR := hV.2.1
  have hbE := hV.2.2.1
  have hbK := hV.2.2.2.1
  have hbm := hN.2.2.1
  have hp := hN.2.2.2.2.2.2.2
  rcases bh_cls (x := x1) (p := fun j => j < 10000) with ⟨s, hs, rfl⟩ | ns
  rotate_left
  · exact bh_qy hR (v := (-2 : Int32)) (by unfold f_X9_book; rw [c_isSerial0 rfl hN hC ns, ob_s, bh_i0]) (by unfold f_X10_book; rw [lt_r, m_isSerial0 hN hM2 ns, ob_s, bh_i0]) (bh_Fr _ _) (bh_thr G)
  obtain ⟨L, l1, l2, l3, l4⟩ : ∃ L, s < L ∧ L ≤ s + 40 ∧ L ≤ 10000 ∧ (L = s + 40 ∨ L = 10000) := ⟨min (s + 40) 10000, by omega, by omega, by omega, by omega⟩
  have cs : ∃ G', wl2 FU (lp_X9_book_30 (nI s) x2 (jmin ((nI s + (40 : Int32)) - (1 : Int32)) (9999 : Int32))) (0 : Int32) (nI s) G = some (bh_bA C R E K z s (L - s) x2, G') ∧ bh_F bh_SCR G G' := by
    have ej : jmin ((nI s + (40 : Int32)) - (1 : Int32)) (9999 : Int32) = nI (L - 1) := by
      rw [show (40 : Int32) = nI 40 from rfl, show (9999 : Int32) = nI 9999 from rfl, show nI s + nI 40 - (1 : Int32) = nI (s + 39) from by rw [nI_add]; exact bh_m1 (s + 39), jmin_n (by omega) (by omega)]
      exact congrArg nI (by omega)
    rw [ej]
    refine wl2_up (P := fun o => ∃ G', o = some (bh_bA C R E K z s (L - s) x2, G') ∧ bh_F bh_SCR G G') (I := fun i y G1 => s ≤ i ∧ y = nI (bh_bk C R E K z s (i - s)).1 ∧ bh_CB G1 C R E K z (bh_bk C R E K z s (i - s)) ∧ bh_F bh_SCR G G1) (N := L) (by omega) ?_ (n := FU) (i := s) (by omega) ⟨Nat.le_refl _, by rw [Nat.sub_self]; rfl, by rw [Nat.sub_self]; exact fun k hk => absurd hk (Nat.not_lt_zero _), bh_Fr _ _⟩ (by unfold FU; omega)
    rintro kc i _ G1 hi' ⟨hsi, rfl, hB, F1⟩ hkc
    have hle := bh_bk_le (C := C) (R := R) (E := E) (K := K) (z := z) (s0 := s) (i - s)
    unfold lp_X9_book_30
    by_cases hi : i < L
    · rw [if_neg (nI_nlt (by omega) (by omega))]
      by_cases hx : x2 < nI (bh_bk C R E K z s (i - s)).1
      · rw [if_pos hx]
        exact ⟨G1, c_bookE (by omega) (by omega) hB (Or.inr hx), F1⟩
      · have hC1 := bh_scC hh hN hC F1
        have n1 : nw G1 = nw G := F1.2.2.1
        obtain ⟨G2, e2, p2, F2⟩ := c_deal hh hN hC1 (s := i) (t := 77 + (bh_bk C R E K z s (i - s)).1) (by omega) (bh_LN77 _ (by omega)) (by omega)
        have F2' : bh_F bh_SCR G1 G2 := bh_Fm F2 (fun a q h => h.elim scr_a (fun h => scr_c (by omega)))
        have F12 := bh_Ft F1 F2'
        have hB2 : bh_CB G2 C R E K z (bh_bk C R E K z s (i - s)) := fun k hk => ⟨bh_SC_F (hB k hk).1 F2 (fun q h => by omega), by rw [F2.1 _ _ (by omega)]; exact (hB k hk).2⟩
        have hsi2 : s + (i - s) = i := by omega
        have hi1 : i + 1 - s = i - s + 1 := by omega
        obtain ⟨v, ev, v0, v1⟩ := c_unlike hV (by omega) hB2 p2
        have hge : ¬ (40 : Int32) ≤ nI (bh_bk C R E K z s (i - s)).1 := by clear v0 v1; rw [show (40 : Int32) = nI 40 from rfl, nI_leI (by omega) (by omega)]; omega
        rw [if_neg hx, if_neg hge, inb_n (by clear v0 v1; omega) (by omega), gd_t, nI_clamp (by clear v0 v1; omega), n1, e2, ov_s, ev, ob_s]
        rcases Classical.em (∃ k, k < (bh_bk C R E K z s (i - s)).1 ∧ bh_sam C R E K z ((bh_bk C R E K z s (i - s)).2 k) i) with hso | hso
        · have eb : bh_bk C R E K z s (i + 1 - s) = bh_bk C R E K z s (i - s) := by rw [hi1]; exact bh_bk_1 (by rw [hsi2]; exact hso)
          rw [v0 hso, if_pos rfl, nI_1]
          refine hkc hi _ _ ⟨by clear hso v0 v1; omega, by rw [eb], by rw [eb]; exact hB2, F12⟩
        · have eb : bh_bk C R E K z s (i + 1 - s) = ((bh_bk C R E K z s (i - s)).1 + 1, fun k => if k = (bh_bk C R E K z s (i - s)).1 then i else (bh_bk C R E K z s (i - s)).2 k) := by rw [hi1, bh_bk_0 (by rw [hsi2]; exact hso), hsi2]
          rw [v1 hso, if_neg (by decide), gd_t, lt_r, nI_1, nI_1]
          clear v0 v1 hso
          refine hkc hi _ _ ⟨by omega, by rw [eb], ?_, bh_FI F12 (scr_c (by omega))⟩
          rw [eb]
          intro k hk
          have hk : k < (bh_bk C R E K z s (i - s)).1 + 1 := hk
          show bh_SC _ _ _ _ _ _ _ (if k = _ then i else _) ∧ _ = nI (if k = _ then i else _)
          have FS : bh_F (fun a q => a = 117 ∧ q = (bh_bk C R E K z s (i - s)).1) G2 (sI G2 117 (bh_bk C R E K z s (i - s)).1 (nI i)) := bh_FI (bh_Fr _ _) ⟨rfl, rfl⟩
          by_cases hkk : k = (bh_bk C R E K z s (i - s)).1
          · rw [if_pos hkk, hkk]
            exact ⟨bh_SC_F p2 FS (fun q h => by omega), gI_sIs _ _ _ _⟩
          · rw [if_neg hkk]
            exact ⟨bh_SC_F (hB2 k (by omega)).1 FS (fun q h => by omega), by rw [gI_sIk hkk]; exact (hB2 k (by omega)).2⟩
    · rw [if_pos (nI_lt (by omega) (by omega))]
      exact ⟨G1, c_bookE (by omega) (by omega) hB (Or.inl (by omega)), F1⟩
  obtain ⟨G1, e1, F1⟩ := cs
  have hM2 := bh_scM hN hM (bh_Ft F1 (bh_thr _))
  have cw : f_X9_book (nI s) x2 G = some (bh_bA C R E K z s (L - s) x2, G1) := by unfold f_X9_book; rw [c_isSerial1 rfl hN hC hs, ob_s, bh_i1, lt_r, e1]
  rcases bh_cls (x := x2) (p := fun j => j < 40) with ⟨q, hq, rfl⟩ | nq
  rotate_left
  · have ev : bh_bA C R E K z s (L - s) x2 = -1 := by
      unfold bh_bA
      by_cases h0 : x2 < 0
      · rw [if_pos h0]
      · obtain ⟨j, hj, rfl⟩ := nI_of h0
        have := bh_bk_le (C := C) (R := R) (E := E) (K := K) (z := z) (s0 := s) (L - s)
        rw [if_neg h0, nI_clamp hj, if_neg]
        intro h
        exact nq ⟨j, by clear nq; omega, rfl⟩
    exact bh_qy hR (v := bh_bA C R E K z s (L - s) x2) (G1 := G1) (G2 := sI G1 186 0 0) cw (by unfold f_X10_book; rw [lt_r, m_isSerial1 hN hM2 hs, ob_s, bh_i1, m_in0 (l := 0) (b := 39) (by decide) (by decide) (fun j _ _ h he => nq ⟨j, by clear nq; omega, he⟩), ob_s, bh_i0, ev]) F1 (bh_thr _)
  have ms : ∃ G', f_X10_laysBook (nI s) (sI G1 186 0 0) = some (nI (bh_bk C R E K z s (L - s)).1, G') ∧ (∀ k, k < (bh_bk C R E K z s (L - s)).1 → gI G' 211 k = nI ((bh_bk C R E K z s (L - s)).2 k)) ∧ bh_F bh_Wr (sI G1 186 0 0) G' := by
    unfold f_X10_laysBook
    refine wl2_up (P := fun o => ∃ G', o = some (nI (bh_bk C R E K z s (L - s)).1, G') ∧ (∀ k, k < (bh_bk C R E K z s (L - s)).1 → gI G' 211 k = nI ((bh_bk C R E K z s (L - s)).2 k)) ∧ bh_F bh_Wr (sI G1 186 0 0) G') (I := fun i y G2 => s ≤ i ∧ y = nI (bh_bk C R E K z s (i - s)).1 ∧ (∀ k, k < (bh_bk C R E K z s (i - s)).1 → gI G2 211 k = nI ((bh_bk C R E K z s (i - s)).2 k) ∧ ∀ q, q < 45 → gI G2 210 (45 * k + q) = nI (bh_SV C R E K z ((bh_bk C R E K z s (i - s)).2 k) q)) ∧ bh_F bh_Wr (sI G1 186 0 0) G2) (N := L) (by omega) ?_ (n := FU) (i := s) (by omega) ⟨Nat.le_refl _, by rw [Nat.sub_self]; rfl, by rw [Nat.sub_self]; exact fun k hk => absurd hk (Nat.not_lt_zero _), bh_Fr _ _⟩ (by unfold FU; omega)
    rintro kc i _ G2 hi' ⟨hsi, rfl, hB, F2⟩ hkc
    have hle := bh_bk_le (C := C) (R := R) (E := E) (K := K) (z := z) (s0 := s) (i - s)
    have hsi2 : s + (i - s) = i := by omega
    have hi1 : i + 1 - s = i - s + 1 := by omega
    unfold lp_X10_laysBook_4
    rw [show (9999 : Int32) = nI 9999 from rfl, show (40 : Int32) = nI 40 from rfl, nI_add]
    by_cases hi : i < L
    · have hM3 := bh_scM hN hM2 (scrWr F2)
      obtain ⟨G3, e3, p3, -, F3⟩ := m_makes hN hM3 (s := i) (by omega)
      have F23 := bh_Ft F2 (bh_WkWr F3)
      rw [if_neg (nI_nlt (by omega) (by omega)), if_neg (nI_ge (by omega) (by omega)), e3, ov_s]
      have hB3 : ∀ k, k < (bh_bk C R E K z s (i - s)).1 → gI G3 211 k = nI ((bh_bk C R E K z s (i - s)).2 k) ∧ ∀ q, q < 45 → gI G3 210 (45 * k + q) = nI (bh_SV C R E K z ((bh_bk C R E K z s (i - s)).2 k) q) := fun k hk => ⟨by rw [F3.1 _ _ (by unfold bh_WMk; omega)]; exact (hB k hk).1, fun q hq => by rw [F3.1 _ _ (by unfold bh_WMk; omega)]; exact (hB k hk).2 q hq⟩
      have hS : ∀ q, q < 45 → gI G3 206 q = nI (bh_SV C R E K z i q) := fun q hq => bh_SV_SM p3 hq
      have hV45 : ∀ t q, bh_SV C R E K z t q ≤ 45 := fun t q => bh_SV_le hV
      have out : ∀ v : Int32, ((v = 1 ∧ ¬ ∃ k, k < (bh_bk C R E K z s (i - s)).1 ∧ bh_sam C R E K z ((bh_bk C R E K z s (i - s)).2 k) i) ∨ (v = 0 ∧ ∃ k, k < (bh_bk C R E K z s (i - s)).1 ∧ bh_sam C R E K z ((bh_bk C R E K z s (i - s)).2 k) i)) → ∃ G', k_X10_laysBook_115 (nI s) (nI (bh_bk C R E K z s (i - s)).1) (nI i) v kc G3 = some (nI (bh_bk C R E K z s (L - s)).1, G') ∧ (∀ k, k < (bh_bk C R E K z s (L - s)).1 → gI G' 211 k = nI ((bh_bk C R E K z s (L - s)).2 k)) ∧ bh_F bh_Wr (sI G1 186 0 0) G' := by
        intro v hv
        unfold k_X10_laysBook_115
        rcases hv with ⟨rfl, hso⟩ | ⟨rfl, hso⟩
        · have eb : bh_bk C R E K z s (i + 1 - s) = ((bh_bk C R E K z s (i - s)).1 + 1, fun k => if k = (bh_bk C R E K z s (i - s)).1 then i else (bh_bk C R E K z s (i - s)).2 k) := by rw [hi1, bh_bk_0 (by rw [hsi2]; exact hso), hsi2]
          clear hso
          rw [if_neg (by decide)]
          refine wl1_up (P := fun o => ∃ G', o = some (nI (bh_bk C R E K z s (L - s)).1, G') ∧ (∀ k, k < (bh_bk C R E K z s (L - s)).1 → gI G' 211 k = nI ((bh_bk C R E K z s (L - s)).2 k)) ∧ bh_F bh_Wr (sI G1 186 0 0) G') (I := fun q G4 => (∀ q', q' < q → gI G4 210 (45 * (bh_bk C R E K z s (i - s)).1 + q') = nI (bh_SV C R E K z i q')) ∧ bh_F (fun a q => a = 210 ∧ 45 * (bh_bk C R E K z s (i - s)).1 ≤ q) G3 G4) (N := 45) (by omega) ?_ (n := FU) (i := 0) (Nat.zero_le _) ⟨fun q hq => absurd hq (Nat.not_lt_zero _), bh_Fr _ _⟩ (by unfold FU; omega)
          rintro kc2 q G4 hq' ⟨q4, F4⟩ hk2
          unfold lp_X10_laysBook_126
          rw [show (45 : Int32) = nI 45 from rfl]
          by_cases hq : q < 45
          · rw [if_neg (nI_ge hq (by omega)), inb_n (by omega) (by omega), gd_t, pk_mul, nI_add, inb_n (by omega) (by omega), gd_t, lt_r, nI_clamp (by omega), nI_clamp (by omega), F4.1 _ _ (by omega), hS q hq, nI_1]
            refine hk2 hq _ ⟨fun q' hq' => ?_, bh_FI F4 (by omega)⟩
            rw [gI_sI]
            by_cases hqq : q' = q
            · rw [hqq, if_pos ⟨rfl, rfl⟩]
            · rw [if_neg (fun h => hqq (by omega))]; exact q4 q' (by omega)
          · have hq2 : q = 45 := by omega
            subst hq2
            rw [if_pos (nI_le (by omega) (by omega)), inb_n (by omega) (by omega), gd_t, lt_r, nI_clamp (by omega), nI_1, nI_1]
            have F5 : bh_F (fun a q => (a = 210 ∧ 45 * (bh_bk C R E K z s (i - s)).1 ≤ q) ∨ (a = 211 ∧ q = (bh_bk C R E K z s (i - s)).1)) G3 (sI G4 211 (bh_bk C R E K z s (i - s)).1 (nI i)) := bh_FI (bh_Fm F4 (fun a q h => Or.inl h)) (Or.inr ⟨rfl, rfl⟩)
            refine hkc hi _ _ ⟨by omega, by rw [eb], ?_, bh_Ft F23 (bh_Fm F5 (fun a q h => by unfold bh_Wr; omega))⟩
            rw [eb]
            intro k hk
            have hk : k < (bh_bk C R E K z s (i - s)).1 + 1 := hk
            show _ = nI (if k = _ then i else _) ∧ ∀ q, q < 45 → _ = nI (bh_SV C R E K z (if k = _ then i else _) q)
            by_cases hkk : k = (bh_bk C R E K z s (i - s)).1
            · rw [if_pos hkk, hkk]
              exact ⟨gI_sIs _ _ _ _, fun q hq => by rw [gI_sIa (by omega)]; exact q4 q hq⟩
            · rw [if_neg hkk]
              exact ⟨by rw [F5.1 _ _ (by omega)]; exact (hB3 k (by omega)).1, fun q hq => by rw [F5.1 _ _ (by omega)]; exact (hB3 k (by omega)).2 q hq⟩
        · have eb : bh_bk C R E K z s (i + 1 - s) = bh_bk C R E K z s (i - s) := by rw [hi1]; exact bh_bk_1 (by rw [hsi2]; exact hso)
          clear hso
          rw [if_pos rfl, nI_1]
          exact hkc hi _ _ ⟨by omega, by rw [eb], by rw [eb]; exact hB3, F23⟩
      refine wl2_up (P := fun o => ∃ G', o = some (nI (bh_bk C R E K z s (L - s)).1, G') ∧ (∀ k, k < (bh_bk C R E K z s (L - s)).1 → gI G' 211 k = nI ((bh_bk C R E K z s (L - s)).2 k)) ∧ bh_F bh_Wr (sI G1 186 0 0) G') (I := fun k y G4 => G4 = G3 ∧ ((y = 1 ∧ ∀ k', k' < k → ¬ bh_sam C R E K z ((bh_bk C R E K z s (i - s)).2 k') i) ∨ (y = 0 ∧ ∃ k, k < (bh_bk C R E K z s (i - s)).1 ∧ bh_sam C R E K z ((bh_bk C R E K z s (i - s)).2 k) i))) (N := (bh_bk C R E K z s (i - s)).1) (by omega) ?_ (n := FU) (i := 0) (Nat.zero_le _) ⟨rfl, Or.inl ⟨rfl, fun k hk => absurd hk (Nat.not_lt_zero _)⟩⟩ (by unfold FU; omega)
      rintro kc2 k y G4 hk' ⟨rfl, hy⟩ hk2
      unfold lp_X10_laysBook_32
      by_cases hk : k < (bh_bk C R E K z s (i - s)).1
      · rw [if_neg (nI_ge hk (by clear hy out; omega))]
        rcases hy with ⟨rfl, hno⟩ | ⟨rfl, hso⟩
        · rw [if_neg (by decide)]
          refine wl2_up (P := fun o => ∃ G', o = some (nI (bh_bk C R E K z s (L - s)).1, G') ∧ (∀ k, k < (bh_bk C R E K z s (L - s)).1 → gI G' 211 k = nI ((bh_bk C R E K z s (L - s)).2 k)) ∧ bh_F bh_Wr (sI G1 186 0 0) G') (I := fun q y G5 => G5 = G4 ∧ ((y = 1 ∧ ∀ q', q' < q → bh_SV C R E K z ((bh_bk C R E K z s (i - s)).2 k) q' = bh_SV C R E K z i q') ∨ (y = 0 ∧ ∃ q', q' < q ∧ bh_SV C R E K z ((bh_bk C R E K z s (i - s)).2 k) q' ≠ bh_SV C R E K z i q'))) (N := 45) (by omega) ?_ (n := FU) (i := 0) (Nat.zero_le _) ⟨rfl, Or.inl ⟨rfl, fun k hk => absurd hk (Nat.not_lt_zero _)⟩⟩ (by unfold FU; omega)
          rintro kc3 q y G5 hq' ⟨rfl, hy⟩ hk3
          have hsam := bh_SV_sam (s := (bh_bk C R E K z s (i - s)).2 k) (t := i) hV
          unfold lp_X10_laysBook_49
          rw [show (45 : Int32) = nI 45 from rfl]
          by_cases hq : q < 45
          · rw [if_neg (nI_ge hq (by omega))]
            rcases hy with ⟨rfl, hall⟩ | ⟨rfl, q', hq1, hq2⟩
            · rw [if_neg (by decide), pk_mul, nI_add, inb_n (by clear hno out; omega) (by omega), gd_t, inb_n (by clear hno out; omega) (by omega), gd_t, nI_clamp (by clear hno out; omega), nI_clamp (by clear hno out; omega), (hB3 k hk).2 q hq, hS q hq]
              have b1 := hV45 ((bh_bk C R E K z s (i - s)).2 k) q
              have b2 := hV45 i q
              by_cases he : bh_SV C R E K z ((bh_bk C R E K z s (i - s)).2 k) q = bh_SV C R E K z i q
              · rw [if_pos (by rw [he])]
                unfold k_X10_laysBook_89
                rw [nI_1]
                refine hk3 hq _ _ ⟨rfl, Or.inl ⟨rfl, fun q' hq' => ?_⟩⟩
                by_cases hqq : q' = q
                · rw [hqq]; exact he
                · exact hall q' (by clear hno out; omega)
              · rw [if_neg (by rw [nI_eq (by clear hno out; omega) (by clear hno out; omega)]; exact he)]
                unfold k_X10_laysBook_88 k_X10_laysBook_89
                rw [nI_1]
                exact hk3 hq _ _ ⟨rfl, Or.inr ⟨rfl, q, Nat.lt_succ_self _, he⟩⟩
            · rw [if_pos rfl]
              unfold k_X10_laysBook_88 k_X10_laysBook_89
              rw [nI_1]
              exact hk3 hq _ _ ⟨rfl, Or.inr ⟨rfl, q', Nat.lt_succ_of_lt hq1, hq2⟩⟩
          · have hq2 : q = 45 := by clear hno out hy; omega
            subst hq2
            rw [if_pos (nI_le (by omega) (by omega))]
            rcases hy with ⟨rfl, hall⟩ | ⟨rfl, q', hq1, hq2⟩
            · rw [if_neg (by decide)]
              unfold k_X10_laysBook_107
              rw [nI_1]
              exact hk2 hk _ _ ⟨rfl, Or.inr ⟨rfl, k, hk, hsam.mp hall⟩⟩
            · rw [if_pos rfl]
              unfold k_X10_laysBook_107
              rw [nI_1]
              refine hk2 hk _ _ ⟨rfl, Or.inl ⟨rfl, fun k' hk' => ?_⟩⟩
              by_cases hkk : k' = k
              · rw [hkk]; exact fun h => hq2 (hsam.mpr h q' hq1)
              · exact hno k' (by clear hno out; omega)
        · rw [if_pos rfl]
          exact out 0 (Or.inr ⟨rfl, hso⟩)
      · have hk2 : k = (bh_bk C R E K z s (i - s)).1 := by clear hy out; omega
        rw [if_pos (nI_le (by clear hy out; omega) (by clear hy out; omega))]
        refine out y ?_
        rcases hy with ⟨rfl, hno⟩ | ⟨rfl, hso⟩
        · exact Or.inl ⟨rfl, fun ⟨k', h1, h2⟩ => hno k' (by rw [hk2]; exact h1) h2⟩
        · exact Or.inr ⟨rfl, hso⟩
    · have hi2 : i = L := by omega
      have ex : ∀ v : Option (Int32 × GM), v = some (nI (bh_bk C R E K z s (i - s)).1, G2) → ∃ G', v = some (nI (bh_bk C R E K z s (L - s)).1, G') ∧ (∀ k, k < (bh_bk C R E K z s (L - s)).1 → gI G' 211 k = nI ((bh_bk C R E K z s (L - s)).2 k)) ∧ bh_F bh_Wr (sI G1 186 0 0) G' := fun v hv => by
        rw [← hi2]
        exact ⟨G2, hv, fun k hk => (hB k hk).1, F2⟩
      by_cases h9 : 9999 < i
      · rw [if_pos (nI_lt h9 (by omega))]; exact ex _ rfl
      · rw [if_neg (nI_nlt (by omega) (by omega)), if_pos (nI_le (by omega) (by omega))]; exact ex _ rfl
  obtain ⟨G2, e2, a2, F2⟩ := ms
  have hle := bh_bk_le (C := C) (R := R) (E := E) (K := K) (z := z) (s0 := s) (L - s)
  refine bh_qy hR (v := bh_bA C R E K z s (L - s) (nI q)) (G1 := G1) (G2 := G2) cw ?_ F1 (bh_Ft (bh_thr _) (scrWr F2))
  unfold f_X10_book bh_bA
  rw [lt_r, m_isSerial1 hN hM2 hs, ob_s, bh_i1, m_in1 (l := 0) (b := 39) (by omega) (by decide) (by decide) (by omega) (by omega), ob_s, bh_i1, e2, ob_s, if_neg (nI_pos (by omega)), nI_clamp (by omega)]
  by_cases hlt : q < (bh_bk C R E K z s (L - s)).1
  · rw [if_neg (nI_ge hlt (by omega)), inb_n (by omega) (by omega), gd_t, if_pos hlt, a2 q hlt]
  · rw [if_pos (nI_le (by omega) (by omega)), if_neg hlt]
