/-! the other questions, as the rest; the start -/
theorem fr_F {W : Nat → Nat → Bool} {G G' : GM} (h : fr W G G') : bh_F (fun a k => W a k = true) G G' := ⟨fun a k hk => (h.1 a k (Bool.eq_false_iff.mpr hk)).1, fun a k hk => (h.1 a k (Bool.eq_false_iff.mpr hk)).2, h.2.1, h.2.2⟩
/-- what slots and tape write -/
def bh_WE (a q : Nat) : Prop := (64 ≤ a ∧ a ≤ 70) ∨ (187 ≤ a ∧ a ≤ 191) ∨ (a = 186 ∧ (q = 0 ∨ q = 6)) ∨ a = 54 ∨ (a = 53 ∧ q = 1)
theorem bh_R_E {G G' : GM} (h : bh_R G) (hF : bh_F bh_WE G G') (hS : RS G') (hT : RT G') : bh_R G' := by
  have hh := bh_nwc h
  obtain ⟨h1, h2, h3, h4, h5, h6⟩ := h
  refine ⟨hS, hT, bh_RF_F h3 hF (fun a q h => by unfold bh_WE; omega), ?_, ?_, fun k hk => ?_⟩
  · rw [hF.2.2.1, hF.2.2.2]; exact h4
  · rw [hF.2.2.1]
    exact bh_HR_F h5 hF (fun a q h => by unfold bh_PH at h; unfold bh_WE; omega) (fun a q h => by unfold bh_PM at h; unfold bh_WE; omega)
  · rw [hF.1 46 k (by unfold bh_WE; omega), hF.1 198 k (by unfold bh_WE; omega)]
    rcases h6 k hk with h | ⟨g1, g2, g3⟩
    · exact Or.inl h
    · exact Or.inr ⟨g1, g2, bh_HR_F g3 hF (fun a q h => by unfold bh_PH at h; unfold bh_WE; omega) (fun a q h => by unfold bh_PM at h; unfold bh_WE; omega)⟩
theorem WS_p {a k : Nat} (h : WS a k = true) : (64 ≤ a ∧ a ≤ 70) ∨ (187 ≤ a ∧ a ≤ 190) ∨ (a = 186 ∧ k = 0) := by
  unfold WS at h
  rcases Bool.or_eq_true_iff.mp h with h | h
  · rcases Bool.or_eq_true_iff.mp h with h | h
    · have := Bool.and_eq_true_iff.mp h
      exact Or.inl ⟨Nat.le_of_ble_eq_true this.1, Nat.le_of_ble_eq_true this.2⟩
    · have := Bool.and_eq_true_iff.mp h
      exact Or.inr (Or.inl ⟨Nat.le_of_ble_eq_true this.1, Nat.le_of_ble_eq_true this.2⟩)
  · have := Bool.and_eq_true_iff.mp h
    exact Or.inr (Or.inr ⟨Nat.eq_of_beq_eq_true this.1, Nat.eq_of_beq_eq_true this.2⟩)
theorem WTp_p {a k : Nat} (h : WTp a k = true) : a = 54 ∨ (a = 53 ∧ k = 1) ∨ a = 191 ∨ (a = 186 ∧ (k = 6 ∨ k = 0)) := by
  unfold WTp W54 Wm at h
  rcases Bool.or_eq_true_iff.mp h with h | h
  · rcases Bool.or_eq_true_iff.mp h with h | h
    · exact Or.inl (Nat.eq_of_beq_eq_true h)
    · have := Bool.and_eq_true_iff.mp h
      exact Or.inr (Or.inl ⟨Nat.eq_of_beq_eq_true this.1, Nat.eq_of_beq_eq_true this.2⟩)
  · rcases Bool.or_eq_true_iff.mp h with h | h
    · rcases Bool.or_eq_true_iff.mp h with h | h
      · exact Or.inr (Or.inr (Or.inl (Nat.eq_of_beq_eq_true h)))
      · have := Bool.and_eq_true_iff.mp h
        exact Or.inr (Or.inr (Or.inr ⟨Nat.eq_of_beq_eq_true this.1, Or.inl (Nat.eq_of_beq_eq_true this.2)⟩))
    · have := Bool.and_eq_true_iff.mp h
      exact Or.inr (Or.inr (Or.inr ⟨Nat.eq_of_beq_eq_true this.1, Or.inr (Nat.eq_of_beq_eq_true this.2)⟩))
theorem bh_Qs {f g : GM → Option (Int32 × GM)} (h : ∀ G, RS G → PQ WS RS f g G) : bh_Qy f g := by
  intro G hR
  obtain ⟨v, G1, G2, e1, e2, hS, hF⟩ := h G hR.1
  have F : bh_F bh_WE G G2 := bh_Fm (fr_F hF) (fun a q hq => by have := WS_p hq; unfold bh_WE; omega)
  have F' : bh_F (fun a q => (64 ≤ a ∧ a ≤ 70) ∨ (187 ≤ a ∧ a ≤ 190) ∨ (a = 186 ∧ q = 0)) G G2 := bh_Fm (fr_F hF) (fun a q hq => WS_p hq)
  exact ⟨v, G1, G2, e1, e2, bh_R_E hR F hS (bh_RT_F hR.2.1 F' (fun a q h => by omega))⟩
theorem bh_Qt {f g : GM → Option (Int32 × GM)} (h : ∀ G, RT G → PQ WTp RT f g G) : bh_Qy f g := by
  intro G hR
  obtain ⟨v, G1, G2, e1, e2, hT, hF⟩ := h G hR.2.1
  have F : bh_F bh_WE G G2 := bh_Fm (fr_F hF) (fun a q hq => by have := WTp_p hq; unfold bh_WE; omega)
  have F' : bh_F (fun a k => a = 54 ∨ (a = 53 ∧ k = 1) ∨ a = 191 ∨ (a = 186 ∧ (k = 6 ∨ k = 0))) G G2 := bh_Fm (fr_F hF) (fun a q hq => WTp_p hq)
  exact ⟨v, G1, G2, e1, e2, bh_R_E hR F (bh_RS_F hR.1 F' (fun a q h => by omega)) hT⟩
theorem q_row (x1 x2 x3 : Int32) : bh_Qy (f_X9_row x1 x2 x3) (f_X10_row x1 x2 x3) := bh_Qs (fun G h => row_ok x1 x2 x3 G h)
theorem q_write (x1 x2 : Int32) (v : Int64) : bh_Qy (f_X9_write x1 x2 v) (f_X10_write x1 x2 v) := bh_Qs (fun G h => write_ok x1 x2 v G h)
theorem q_paste (x1 x2 x3 x4 x5 : Int32) : bh_Qy (f_X9_paste x1 x2 x3 x4 x5) (f_X10_paste x1 x2 x3 x4 x5) := bh_Qs (fun G h => paste_ok x1 x2 x3 x4 x5 G h)
theorem q_feed (x1 x2 x3 x4 x5 : Int32) : bh_Qy (f_X9_feed x1 x2 x3 x4 x5) (f_X10_feed x1 x2 x3 x4 x5) := bh_Qt (fun G h => feed_ok x1 x2 x3 x4 x5 G h)
theorem q_end (x1 : Int32) : bh_Qy (f_X9_end x1) (f_X10_end x1) := bh_Qt (fun G h => end_ok x1 G h)
theorem q_fault (x1 : Int32) : bh_Qy (f_X9_fault x1) (f_X10_fault x1) := by
  intro G hR
  obtain ⟨v, G1, G2, e1, e2, hT, hF⟩ := fault_ok x1 G hR.2.2.1
  have F : bh_F bh_SCR G G2 := bh_Fm (fr_F hF) (fun a q hq => by
    unfold WT at hq
    have := Bool.and_eq_true_iff.mp hq
    have h1 := Nat.eq_of_beq_eq_true this.1
    have h2 := Nat.eq_of_beq_eq_true this.2
    unfold bh_SCR
    omega)
  exact ⟨v, G1, G2, e1, e2, bh_R_F hR F⟩
