/-! who is first: the reference; questions first, winner -/
section RM
variable {ln C R E K m pu bb : Nat} {z sv cl pr cl' : Nat → Nat}
def bh_Wr (a q : Nat) : Prop := (a = 186 ∧ 26 ≤ q ∧ q ≤ 41) ∨ 199 ≤ a
theorem scrWr {G G' : GM} (h : bh_F bh_Wr G G') : bh_F bh_SCR G G' := bh_Fm h (fun a q h => h.elim (fun h => scr_d (by omega)) scr_e)
theorem bh_WkWr {G G' : GM} (h : bh_F (bh_WMk 0) G G') : bh_F bh_Wr G G' := bh_Fm h (fun a q h => by unfold bh_WMk at h; unfold bh_Wr; omega)
/-- what races ask, and what stays of it -/
def bh_MT (G : GM) (w ln C R E K m pu bb : Nat) (z sv cl pr cl' : Nat → Nat) : Prop := bh_HM G 0 ln C R E K m pu bb z sv cl pr ∧ bh_ME G w C R E K z cl'
theorem bh_MT_F {G G' : GM} {w : Nat} (hN : bh_HN ln C R E K m pu bb z sv cl pr) (h : bh_MT G w ln C R E K m pu bb z sv cl pr cl') (hF : bh_F bh_Wr G G') : bh_MT G' w ln C R E K m pu bb z sv cl pr cl' :=
  ⟨bh_scM hN h.1 (scrWr hF), bh_ME_F h.2 hN.2.1.2.2.2.1.2 hF (fun a q h => by unfold bh_Wr; omega)⟩
theorem bh_MT_of {G : GM} (h : bh_HM G 0 ln C R E K m pu bb z sv cl pr) : bh_MT G 0 ln C R E K m pu bb z sv cl pr cl := ⟨h, bh_ME_of h⟩
/-- the state of a race behind j cards -/
def bh_r1 (C R E K : Nat) (z sv cl : Nat → Nat) (kind j : Nat) : Int32 := if (kind = 1 ∧ R < 2) ∨ j = 0 then -1 else nI (bh_mn (fun j => bh_tG C R E K z sv cl kind (j / C) (j % C)) j)
def bh_r2 (C R E K : Nat) (z sv cl : Nat → Nat) (kind j : Nat) : Nat := if kind = 1 ∧ R < 2 then 0 else bh_sm (fun q => if bh_tG C R E K z sv cl kind (q / C) (q % C) = bh_mn (fun j => bh_tG C R E K z sv cl kind (j / C) (j % C)) j then 1 else 0) j
theorem bh_sm_le0 {f : Nat → Nat} {n : Nat} (h : ∀ k, k < n → f k = 0) : bh_sm f n = 0 := bh_sm_0.mpr h
theorem bh_r2_eq {f : Nat → Nat} {n : Nat} (h0 : n ≠ 0) : bh_sm (fun q => if f q = bh_mn f (n + 1) then 1 else 0) (n + 1) = if f n < bh_mn f n then 1 else if f n = bh_mn f n then bh_sm (fun q => if f q = bh_mn f n then 1 else 0) n + 1 else bh_sm (fun q => if f q = bh_mn f n then 1 else 0) n := by
  have hs : ∀ v, bh_sm (fun q => if f q = v then 1 else 0) (n + 1) = bh_sm (fun q => if f q = v then 1 else 0) n + if f n = v then 1 else 0 := fun v => rfl
  rw [hs, bh_mn_s, if_neg h0]
  obtain ⟨a1, -⟩ := bh_mn_is (f := f) (n := n) (by omega)
  by_cases h1 : f n < bh_mn f n
  · rw [if_pos h1, Nat.min_eq_right (by omega), if_pos rfl, bh_sm_le0 fun k hk => if_neg (by have := a1 k hk; omega)]
  · rw [if_neg h1, Nat.min_eq_left (by omega)]
    by_cases h2 : f n = bh_mn f n
    · rw [if_pos h2, if_pos h2]
    · rw [if_neg h2, if_neg h2, Nat.add_zero]
theorem bh_r2_le (kind j : Nat) : bh_r2 C R E K z sv cl kind j ≤ j := by
  unfold bh_r2
  by_cases h : kind = 1 ∧ R < 2
  · rw [if_pos h]; omega
  · rw [if_neg h]
    have := bh_sm_bd (f := fun q => if bh_tG C R E K z sv cl kind (q / C) (q % C) = bh_mn (fun j => bh_tG C R E K z sv cl kind (j / C) (j % C)) j then 1 else 0) (m := 1) (n := j) (fun i _ => by split <;> omega)
    omega
theorem m_races {G : GM} {w kind : Nat} (hN : bh_HN ln C R E K m pu bb z sv cl pr) (hM : bh_MT G w ln C R E K m pu bb z sv cl pr cl') (hp : bh_prm (C * R * E) 1 cl') (hw : w < 6) (hk : kind < 3) : ∃ G', f_X10_races (nI w) (nI kind) G = some G' ∧ gI G' 186 40 = bh_r1 C R E K z sv cl' kind (m * C) ∧ gI G' 186 41 = nI (bh_r2 C R E K z sv cl' kind (m * C)) ∧ (∀ i c, i < m → c < C → gI G' 209 (3 * i + c) = bh_tQ C R E K z sv cl' kind i c) ∧ bh_F bh_Wr G G' := by
  have hV := hN.2.1
  have h45 := bh_N45 hV
  have hbC := hV.1
  have hbm := hN.2.2.1
  have hmC : m * C ≤ 24 := Nat.mul_le_mul hbm hbC.2
  unfold f_X10_races
  rw [lt_r, lt_r]
  have F0 : bh_F bh_Wr G (sI (sI G 186 40 (-1)) 186 41 0) := bh_FI (bh_FI (bh_Fr _ _) (Or.inl (by omega))) (Or.inl (by omega))
  refine wl1_up (P := fun o => ∃ G', o = some G' ∧ gI G' 186 40 = bh_r1 C R E K z sv cl' kind (m * C) ∧ gI G' 186 41 = nI (bh_r2 C R E K z sv cl' kind (m * C)) ∧ (∀ i c, i < m → c < C → gI G' 209 (3 * i + c) = bh_tQ C R E K z sv cl' kind i c) ∧ bh_F bh_Wr G G') (I := fun i G1 => gI G1 186 40 = bh_r1 C R E K z sv cl' kind (i * C) ∧ gI G1 186 41 = nI (bh_r2 C R E K z sv cl' kind (i * C)) ∧ (∀ i' c, i' < i → c < C → gI G1 209 (3 * i' + c) = bh_tQ C R E K z sv cl' kind i' c) ∧ bh_F bh_Wr G G1) (N := m) (by omega) ?_ (n := FU) (i := 0) (Nat.zero_le _) ⟨?_, ?_, fun i c h => absurd h (Nat.not_lt_zero _), F0⟩ (by unfold FU; omega)
  rotate_left
  · rw [Nat.zero_mul, gI_sIk (by omega), gI_sIs]
    exact (if_pos (Or.inr rfl)).symm
  · rw [Nat.zero_mul, gI_sIs]
    unfold bh_r2
    split <;> rfl
  rintro kc i G1 hi' ⟨q1, q2, q3, F1⟩ hkc
  have M1 := bh_MT_F hN hM F1
  have e4 : gI G1 193 4 = nI m := M1.1.1.2.1
  unfold lp_X10_races_12
  rw [show inb (4 : Int32) 48 = true from by decide, gd_t, show (4 : Int32).toNatClampNeg = 4 from by decide, e4]
  by_cases hi : i < m
  · have e5 : gI G1 196 i = nI (sv i) := by
      have := M1.1.2.2.2.1 i hi
      rwa [Nat.mul_zero, Nat.zero_add] at this
    have hsv := hN.2.2.2.2.2.2.1 i hi
    obtain ⟨G2, e2, p2, -, F2⟩ := m_makes hN M1.1 (s := sv i) (by omega)
    have F2' := bh_WkWr F2
    rw [if_neg (nI_ge hi (by omega)), inb_n (by omega) (by omega), gd_t, nI_clamp (by omega), e5, e2, ov_s]
    have F12 := bh_Ft F1 F2'
    refine wl1_up (P := fun o => ∃ G', o = some G' ∧ gI G' 186 40 = bh_r1 C R E K z sv cl' kind (m * C) ∧ gI G' 186 41 = nI (bh_r2 C R E K z sv cl' kind (m * C)) ∧ (∀ i c, i < m → c < C → gI G' 209 (3 * i + c) = bh_tQ C R E K z sv cl' kind i c) ∧ bh_F bh_Wr G G') (I := fun c G3 => gI G3 186 40 = bh_r1 C R E K z sv cl' kind (i * C + c) ∧ gI G3 186 41 = nI (bh_r2 C R E K z sv cl' kind (i * C + c)) ∧ (∀ i' c', (i' < i ∧ c' < C) ∨ (i' = i ∧ c' < c) → gI G3 209 (3 * i' + c') = bh_tQ C R E K z sv cl' kind i' c') ∧ bh_F (fun a q => (a = 186 ∧ 37 ≤ q ∧ q ≤ 41) ∨ 208 ≤ a) G2 G3) (N := C) (by omega) ?_ (n := FU) (i := 0) (Nat.zero_le _) ⟨?_, ?_, fun i' c' h => ?_, bh_Fr _ _⟩ (by unfold FU; omega)
    rotate_left
    · rw [F2.1 _ _ (by unfold bh_WMk; omega)]; exact q1
    · rw [F2.1 _ _ (by unfold bh_WMk; omega)]; exact q2
    · rw [F2.1 _ _ (by unfold bh_WMk; omega)]
      exact q3 i' c' (by omega) (by omega)
    rintro kc2 c G3 hc' ⟨a1, a2, a3, F3⟩ hk2
    have F3' : bh_F bh_Wr G2 G3 := bh_Fm F3 (fun a q h => by unfold bh_Wr; omega)
    have FF3 := bh_Ft F12 F3'
    have M3 := bh_MT_F hN hM FF3
    have e0 : gI G3 193 0 = nI C := M3.1.2.1.1
    unfold lp_X10_races_37
    rw [show inb (0 : Int32) 48 = true from by decide, gd_t, show (0 : Int32).toNatClampNeg = 0 from by decide, e0]
    by_cases hc : c < C
    · have hS := bh_SM_F p2 F3 (fun q _ _ h => by omega)
      obtain ⟨G4, e6, F4⟩ := m_doneOf hV hw M3.2 hp hS hc hk
      rw [if_neg (nI_ge hc (by omega)), e6, ob_s, show (3 : Int32) = nI 3 from rfl, pk_mul, nI_add, inb_n (by omega) (by omega), gd_t, lt_r, nI_clamp (by omega)]
      have b1 : gI (sI G4 209 (3 * i + c) (bh_tI K R (bh_T C R E K z (sv i) cl' c) kind)) 186 40 = bh_r1 C R E K z sv cl' kind (i * C + c) := by
        rw [gI_sIa (by omega), F4.1 _ _ (by omega)]; exact a1
      have b2 : gI (sI G4 209 (3 * i + c) (bh_tI K R (bh_T C R E K z (sv i) cl' c) kind)) 186 41 = nI (bh_r2 C R E K z sv cl' kind (i * C + c)) := by
        rw [gI_sIa (by omega), F4.1 _ _ (by omega)]; exact a2
      have b3 : ∀ i' c', (i' < i ∧ c' < C) ∨ (i' = i ∧ c' < c + 1) → gI (sI G4 209 (3 * i + c) (bh_tI K R (bh_T C R E K z (sv i) cl' c) kind)) 209 (3 * i' + c') = bh_tQ C R E K z sv cl' kind i' c' := by
        intro i' c' h
        rw [gI_sI]
        by_cases hic : 3 * i' + c' = 3 * i + c
        · have : i' = i ∧ c' = c := by omega
          rw [if_pos ⟨rfl, hic⟩, this.1, this.2]; rfl
        · rw [if_neg (fun q => hic q.2), F4.1 _ _ (by omega)]
          exact a3 i' c' (by omega)
      have F5 : bh_F (fun a q => (a = 186 ∧ 37 ≤ q ∧ q ≤ 41) ∨ 208 ≤ a) G2 (sI G4 209 (3 * i + c) (bh_tI K R (bh_T C R E K z (sv i) cl' c) kind)) := bh_FI (bh_Ft F3 (bh_Fm F4 (fun a q h => Or.inr (by omega)))) (Or.inr (by omega))
      generalize (sI G4 209 (3 * i + c) (bh_tI K R (bh_T C R E K z (sv i) cl' c) kind)) = G5 at b1 b2 b3 F5 ⊢
      have hr2 := bh_r2_le (C := C) (R := R) (E := E) (K := K) (z := z) (sv := sv) (cl := cl') kind (i * C + c)
      have hlt := bh_ijlt hi hc
      by_cases hcan : kind = 1 ∧ R < 2
      · have e7 : bh_tI K R (bh_T C R E K z (sv i) cl' c) kind = -1 := if_pos hcan
        rw [e7, if_pos rfl, nI_1]
        refine hk2 hc _ ⟨?_, ?_, b3, F5⟩
        · rw [b1]; unfold bh_r1; rw [if_pos (Or.inl hcan), if_pos (Or.inl hcan)]
        · rw [b2]; unfold bh_r2; rw [if_pos hcan, if_pos hcan]
      · have e7 : bh_tI K R (bh_T C R E K z (sv i) cl' c) kind = nI (bh_tG C R E K z sv cl' kind i c) := if_neg hcan
        have hle := bh_tG_le (sv := sv) (i := i) hV hp hk hcan hc
        have hat : bh_tG C R E K z sv cl' kind ((i * C + c) / C) ((i * C + c) % C) = bh_tG C R E K z sv cl' kind i c := by rw [(bh_dm hc).1, (bh_dm hc).2]
        have upd : ∀ v, gI (sI (sI G5 186 41 (nI v)) 186 40 (nI (bh_tG C R E K z sv cl' kind i c))) 186 40 = nI (bh_tG C R E K z sv cl' kind i c) ∧ gI (sI (sI G5 186 41 (nI v)) 186 40 (nI (bh_tG C R E K z sv cl' kind i c))) 186 41 = nI v ∧ (∀ i' c', (i' < i ∧ c' < C) ∨ (i' = i ∧ c' < c + 1) → gI (sI (sI G5 186 41 (nI v)) 186 40 (nI (bh_tG C R E K z sv cl' kind i c))) 209 (3 * i' + c') = bh_tQ C R E K z sv cl' kind i' c') ∧ bh_F (fun a q => (a = 186 ∧ 37 ≤ q ∧ q ≤ 41) ∨ 208 ≤ a) G2 (sI (sI G5 186 41 (nI v)) 186 40 (nI (bh_tG C R E K z sv cl' kind i c))) := fun v =>
          ⟨gI_sIs _ _ _ _, by rw [gI_sIk (by omega), gI_sIs], fun i' c' h => by rw [gI_sIa (by omega), gI_sIa (by omega)]; exact b3 i' c' h, bh_FI (bh_FI F5 (Or.inl (by omega))) (Or.inl (by omega))⟩
        rw [e7, if_neg (nIm1 (by omega)), b1]
        by_cases hj0 : i * C + c = 0
        · obtain ⟨u1, u2, u3, u4⟩ := upd 1
          have er1 : bh_r1 C R E K z sv cl' kind (i * C + c) = -1 := if_pos (Or.inr hj0)
          rw [er1, if_pos rfl]
          unfold k_X10_races_97
          rw [b1, er1, if_neg (nIm1 (by omega))]
          unfold k_X10_races_117
          rw [show (1 : Int32) = nI 1 from rfl, lt_r, lt_r, nI_add]
          refine hk2 hc _ ⟨?_, ?_, u3, u4⟩
          · rw [u1, ← Nat.add_assoc]
            unfold bh_r1
            rw [if_neg (fun q => q.elim hcan (by omega)), bh_mn_s, if_pos hj0]
            rw [hj0] at hat
            exact congrArg nI hat.symm
          · rw [u2, ← Nat.add_assoc, hj0]
            unfold bh_r2
            rw [if_neg hcan]
            refine congrArg nI ?_
            simp [bh_sm, bh_mn]
        · have er1 : bh_r1 C R E K z sv cl' kind (i * C + c) = nI (bh_mn (fun j => bh_tG C R E K z sv cl' kind (j / C) (j % C)) (i * C + c)) := if_neg (fun q => q.elim hcan hj0)
          obtain ⟨m1, km, m2, m3⟩ := bh_mn_is (f := fun j => bh_tG C R E K z sv cl' kind (j / C) (j % C)) (n := i * C + c) (by omega)
          have hmle : bh_mn (fun j => bh_tG C R E K z sv cl' kind (j / C) (j % C)) (i * C + c) ≤ C * R * E := by
            rw [← m3]; exact bh_tG_le hV hp hk hcan (bh_ij (show km < m * C by omega)).2.1
          have er2 := bh_r2_eq (f := fun j => bh_tG C R E K z sv cl' kind (j / C) (j % C)) (n := i * C + c) hj0
          have er2' : bh_r2 C R E K z sv cl' kind (i * C + c) = bh_sm (fun q => if bh_tG C R E K z sv cl' kind (q / C) (q % C) = bh_mn (fun j => bh_tG C R E K z sv cl' kind (j / C) (j % C)) (i * C + c) then 1 else 0) (i * C + c) := if_neg hcan
          have n1 : bh_r1 C R E K z sv cl' kind (i * C + c + 1) = nI (min (bh_mn (fun j => bh_tG C R E K z sv cl' kind (j / C) (j % C)) (i * C + c)) (bh_tG C R E K z sv cl' kind i c)) := by
            unfold bh_r1
            rw [if_neg (fun q => q.elim hcan (by omega)), bh_mn_s, if_neg hj0, hat]
          have n2 : bh_r2 C R E K z sv cl' kind (i * C + c + 1) = if bh_tG C R E K z sv cl' kind i c < bh_mn (fun j => bh_tG C R E K z sv cl' kind (j / C) (j % C)) (i * C + c) then 1 else if bh_tG C R E K z sv cl' kind i c = bh_mn (fun j => bh_tG C R E K z sv cl' kind (j / C) (j % C)) (i * C + c) then bh_r2 C R E K z sv cl' kind (i * C + c) + 1 else bh_r2 C R E K z sv cl' kind (i * C + c) := by
            rw [er2']
            unfold bh_r2
            rw [if_neg hcan, er2, hat]
          generalize hmm : bh_mn (fun j => bh_tG C R E K z sv cl' kind (j / C) (j % C)) (i * C + c) = mm at er1 hmle n1 n2
          generalize bh_tG C R E K z sv cl' kind i c = t at *
          rw [er1, if_neg (nIm1 (by omega))]
          by_cases hle2 : t ≤ mm
          · rw [if_pos (nI_le hle2 (by omega))]
            unfold k_X10_races_97
            rw [b1, er1]
            by_cases heq : t = mm
            · obtain ⟨u1, u2, u3, u4⟩ := upd (bh_r2 C R E K z sv cl' kind (i * C + c) + 1)
              rw [if_pos (by rw [heq]), b2, nI_1]
              unfold k_X10_races_117
              rw [lt_r, lt_r, nI_1]
              refine hk2 hc _ ⟨?_, ?_, u3, u4⟩
              · rw [u1, ← Nat.add_assoc, n1, Nat.min_eq_right hle2]
              · rw [u2, ← Nat.add_assoc, n2, if_neg (by omega), if_pos heq]
            · obtain ⟨u1, u2, u3, u4⟩ := upd 1
              rw [if_neg (by rw [nI_eq (by omega) (by omega)]; exact heq)]
              unfold k_X10_races_117
              rw [show (1 : Int32) = nI 1 from rfl, lt_r, lt_r, nI_add]
              refine hk2 hc _ ⟨?_, ?_, u3, u4⟩
              · rw [u1, ← Nat.add_assoc, n1, Nat.min_eq_right hle2]
              · rw [u2, ← Nat.add_assoc, n2, if_pos (by omega)]
          · rw [if_neg (by rw [nI_leI (by omega) (by omega)]; exact hle2), nI_1]
            refine hk2 hc _ ⟨?_, ?_, b3, F5⟩
            · rw [b1, ← Nat.add_assoc, n1, Nat.min_eq_left (by omega), er1]
            · rw [b2, ← Nat.add_assoc, n2, if_neg (by omega), if_neg (by omega)]
    · have hc2 : c = C := by omega
      subst hc2
      rw [if_pos (nI_le (by omega) (by omega)), nI_1]
      refine hkc hi _ ⟨?_, ?_, fun i' c' h1 h2 => a3 i' c' (by omega), FF3⟩
      · rw [Nat.succ_mul]; exact a1
      · rw [Nat.succ_mul]; exact a2
  · have hi2 : i = m := by omega
    subst hi2
    rw [if_pos (nI_le (by omega) (by omega))]
    exact ⟨G1, rfl, q1, q2, q3, F1⟩
theorem bh_r1_FT (kind : Nat) (hC : 1 ≤ C) : bh_r1 C R E K z sv cl kind (m * C) = bh_FT C R E K m z sv cl kind := by
  unfold bh_r1 bh_FT
  by_cases h : (kind = 1 ∧ R < 2) ∨ m = 0
  · rw [if_pos h, if_pos (h.elim Or.inl (fun h => Or.inr (by rw [h, Nat.zero_mul])))]
  · have hm : 0 < m * C := Nat.mul_pos (by omega) hC
    rw [if_neg h, if_neg (fun q => q.elim (fun q => h (Or.inl q)) (by omega))]
theorem bh_r2_WC {kind : Nat} (hV : bh_VH C R E K z) (hp : bh_prm (C * R * E) 1 cl) (hk : kind < 3) : bh_r2 C R E K z sv cl kind (m * C) = bh_WC C R E K m z sv cl kind (bh_FT C R E K m z sv cl kind) := by
  have h45 := bh_N45 hV
  unfold bh_WC
  rcases bh_FT_is (m := m) (sv := sv) hV hp hk with ⟨h1, h2⟩ | ⟨t, h1, h2, h3, h4⟩
  · rw [if_pos h1]
    unfold bh_r2
    rcases h2 with h2 | h2
    · rw [if_pos h2]
    · rw [h2, Nat.zero_mul]
      split <;> rfl
  · have hcan : ¬ (kind = 1 ∧ R < 2) := fun q => h4 (Or.inl q)
    rw [if_neg (by rw [h3]; exact nIm1 (by omega))]
    unfold bh_r2 bh_cW
    rw [if_neg hcan]
    refine bh_sm_congr fun q hq => ?_
    have e : bh_FT C R E K m z sv cl kind = nI (bh_mn (fun j => bh_tG C R E K z sv cl kind (j / C) (j % C)) (m * C)) := if_neg h4
    have hmt : bh_mn (fun j => bh_tG C R E K z sv cl kind (j / C) (j % C)) (m * C) ≤ C * R * E := by
      obtain ⟨k, g1, g2⟩ := (bh_mn_is (f := fun j => bh_tG C R E K z sv cl kind (j / C) (j % C)) (n := m * C) (by omega)).2
      rw [← g2]; exact bh_tG_le hV hp hk hcan (bh_ij g1).2.1
    have hle := bh_tG_le (sv := sv) (i := q / C) hV hp hk hcan (bh_ij hq).2.1
    rw [bh_tQ_1 hcan, e]
    by_cases hc : bh_tG C R E K z sv cl kind (q / C) (q % C) = bh_mn (fun j => bh_tG C R E K z sv cl kind (j / C) (j % C)) (m * C)
    · rw [if_pos hc, if_pos (by rw [hc])]
    · rw [if_neg hc, if_neg (by rw [nI_eq (by omega) (by omega)]; exact hc)]
theorem bh_WC_le {kind : Nat} {turn : Int32} (hm : m ≤ 8) (hC : C ≤ 3) : bh_WC C R E K m z sv cl kind turn ≤ 24 := by
  have hmC : m * C ≤ 24 := Nat.mul_le_mul hm hC
  unfold bh_WC
  split
  · omega
  · exact Nat.le_trans (bh_cW_le kind turn _) hmC
/-- the reference's race, told in the class's words -/
theorem m_rc {G : GM} {w kind : Nat} (hN : bh_HN ln C R E K m pu bb z sv cl pr) (hM : bh_MT G w ln C R E K m pu bb z sv cl pr cl') (hp : bh_prm (C * R * E) 1 cl') (hw : w < 6) (hk : kind < 3) : ∃ G', f_X10_races (nI w) (nI kind) G = some G' ∧ gI G' 186 40 = bh_FT C R E K m z sv cl' kind ∧ gI G' 186 41 = nI (bh_WC C R E K m z sv cl' kind (bh_FT C R E K m z sv cl' kind)) ∧ (∀ i c, i < m → c < C → gI G' 209 (3 * i + c) = bh_tQ C R E K z sv cl' kind i c) ∧ bh_F bh_Wr G G' := by
  obtain ⟨G', e, a1, a2, a3, F⟩ := m_races hN hM hp hw hk
  exact ⟨G', e, by rw [a1, bh_r1_FT kind hN.2.1.1.1], by rw [a2, bh_r2_WC hN.2.1 hp hk], a3, F⟩
theorem m_rc0 {G : GM} {kind : Nat} (hN : bh_HN ln C R E K m pu bb z sv cl pr) (hM : bh_HM G 0 ln C R E K m pu bb z sv cl pr) (hk : kind < 3) : ∃ G', f_X10_races (0 : Int32) (nI kind) G = some G' ∧ gI G' 186 40 = bh_FT C R E K m z sv cl kind ∧ gI G' 186 41 = nI (bh_WC C R E K m z sv cl kind (bh_FT C R E K m z sv cl kind)) ∧ (∀ i c, i < m → c < C → gI G' 209 (3 * i + c) = bh_tQ C R E K z sv cl kind i c) ∧ bh_F bh_Wr G G' := m_rc (w := 0) hN (bh_MT_of hM) hN.2.2.2.2.2.2.2 (by omega) hk
theorem m_iW {G : GM} {i c kind : Nat} {turn : Int32} (e40 : gI G 186 40 = turn) (h9 : gI G 209 (3 * i + c) = bh_tQ C R E K z sv cl kind i c) (hi : i < 8) (hc : c < 3) : f_X10_isWinner (nI i) (nI c) G = some (if turn ≠ -1 ∧ bh_tQ C R E K z sv cl kind i c = turn then 1 else 0, G) := by
  unfold f_X10_isWinner
  rw [e40]
  by_cases ht : turn = -1
  · rw [if_pos ht, if_neg (fun q => q.1 ht)]
  · rw [if_neg ht, show (3 : Int32) = nI 3 from rfl, pk_mul, nI_add, inb_n (by omega) (by omega), gd_t, nI_clamp (by omega), h9]
    by_cases he : bh_tQ C R E K z sv cl kind i c = turn
    · rw [if_pos he, if_pos ⟨ht, he⟩]
    · rw [if_neg he, if_neg (fun q => he q.2)]
/-- the class's turns of the hall that is there -/
theorem bh_CT_of {G : GM} {h : Nat} (hn : nw G = h) (hN : bh_HN ln C R E K m pu bb z sv cl pr) (hC : bh_HC G h ln C R E K m pu bb z sv cl pr) : bh_CT G h (h + 21) ln C R E K m pu bb z sv cl pr cl := ⟨hn, hC, c_TA hN hC⟩
theorem c_fT0 {G : GM} {h kind : Nat} (hn : nw G = h) (hh : h = 1 ∨ h = 23) (hN : bh_HN ln C R E K m pu bb z sv cl pr) (hC : bh_HC G h ln C R E K m pu bb z sv cl pr) (hk : kind < 3) : ∃ G', f_X9_firstTurn (nI kind) (h + 21) G = some (bh_FT C R E K m z sv cl kind, G') ∧ bh_F bh_W7 G G' := c_fT hh hN (bh_CT_of hn hN hC) hN.2.2.2.2.2.2.2 (c_LN hh).2.1 (by omega) hk
theorem c_wA0 {G : GM} {h kind : Nat} {turn : Int32} (hn : nw G = h) (hh : h = 1 ∨ h = 23) (hN : bh_HN ln C R E K m pu bb z sv cl pr) (hC : bh_HC G h ln C R E K m pu bb z sv cl pr) (hk : kind < 3) : ∃ G', f_X9_winnersAt (nI kind) turn (h + 21) G = some (nI (bh_WC C R E K m z sv cl kind turn), G') ∧ bh_F bh_W7 G G' := c_wA hh hN (bh_CT_of hn hN hC) hN.2.2.2.2.2.2.2 (c_LN hh).2.1 (by omega) hk
end RM
theorem q_first (x1 : Int32) : bh_Qy (f_X9_first x1) (f_X10_first_ x1) := by
  intro G hR
  have hh := bh_nwc hR
  have fT := bh_thr G
  rcases hR.2.2.2.2.1 with h0 | ⟨ln, C, R, E, K, m, pu, bb, z, sv, cl, pr, hN, hC, hM⟩
  · have h02 := bh_sc0 hh h0 fT
    exact bh_qy hR (v := (-2 : Int32)) (by unfold f_X9_first; rw [c_isKindN rfl h0 _, ob_s, bh_i0]) (by unfold f_X10_first_; rw [lt_r, m_noHall h02, ob_s, bh_i0]) (bh_Fr _ _) (bh_thr G)
  have hM2 := bh_scM hN hM fT
  have hV := hN.2.1
  have h45 := bh_N45 hV
  have hbC := hV.1
  have hbR := hV.2.1
  have hbE := hV.2.2.1
  have hbK := hV.2.2.2.1
  have hbm := hN.2.2.1
  have hp := hN.2.2.2.2.2.2.2
  rcases bh_cls (x := x1) (p := fun j => j < 3) with ⟨k, hk, rfl⟩ | nk
  rotate_left
  · exact bh_qy hR (v := (-2 : Int32)) (by unfold f_X9_first; rw [c_isKind0 rfl hN hC nk, ob_s, bh_i0]) (by unfold f_X10_first_; rw [lt_r, m_isHall hN hM2, ob_s, bh_i1, m_isKind0 nk _, ob_s, bh_i0]) (bh_Fr _ _) (bh_thr G)
  obtain ⟨G1, e1, F1⟩ := c_fT0 rfl hh hN hC hk
  have hM2 := bh_scM hN hM (bh_Ft (scrW7 F1) (bh_thr _))
  obtain ⟨G2, e2, a1, a2, a3, F2⟩ := m_rc0 hN hM2 hk
  exact bh_qy hR (v := bh_FT C R E K m z sv cl k) (G1 := G1) (G2 := G2) (by unfold f_X9_first; rw [c_isKind1 rfl hN hC hk, ob_s, bh_i1, e1, ob_s]) (by unfold f_X10_first_; rw [lt_r, m_isHall hN hM2, ob_s, bh_i1, m_isKind1 hk _, ob_s, bh_i1, e2, ov_s, a1]) (scrW7 F1) (bh_Ft (bh_thr _) (scrWr F2))
