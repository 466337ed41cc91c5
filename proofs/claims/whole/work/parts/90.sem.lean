/-! THE LAW: one round of its loop, and all of it -/
theorem law_if {α : Type} {P : α → Prop} {c : Prop} [Decidable c] {a b : α} (ha : c → P a) (hb : ¬ c → P b) : P (if c then a else b) := by
  by_cases h : c
  · rw [if_pos h]; exact ha h
  · rw [if_neg h]; exact hb h
theorem law_pos {α : Type} {P : α → Prop} {c : Prop} [Decidable c] {a b : α} (h : c) (ha : P a) : P (if c then a else b) := by rw [if_pos h]; exact ha
theorem law_gd {V : Type} {P : Option V → Prop} {c : Bool} {x : Option V} (h : c = true) (hx : P x) : P (gd c x) := by rw [h, gd_t]; exact hx
theorem law_ob {V U : Type} {P : Option U → Prop} {x : Option (V × GM)} {v : V} {G1 : GM} {F : V → GM → Option U} (h : x = some (v, G1)) (hx : P (F v G1)) : P (ob x F) := by rw [h, ob_s]; exact hx
theorem law_step {L : Nat} {xs : Nat → Int32} {P : Option (Int32 × GM) → Prop} {i : Nat} {G : GM} {kc : Int32 → GM → Option (Int32 × GM)} (hL : L ≤ 3072) (hR : bh_R G) (h1 : ∀ G', P (some (1, G'))) (hk : i + 6 ≤ L → ∀ G', bh_R G' → P (kc (nI i + (6 : Int32)) G')) (hi : i ≤ 3072) : P (lp_L_law_18 L xs (nI i) G kc) := by
  unfold lp_L_law_18
  refine law_if (fun _ => h1 G) (fun hn => ?_)
  have hi6 : i + 6 ≤ L := by
    refine Classical.byContradiction fun hc => hn ?_
    rw [Int32.lt_iff_toInt_lt, nI_toInt (by omega), show Int32.ofNat L - (6 : Int32) = nI L - nI 6 from rfl, pk_sub_toInt (by omega) (by omega)]
    omega
  have i0 : inb (nI i) L = true := inb_n (by omega) (by omega)
  have iK : ∀ k, k < 6 → inb (nI i + nI k) L = true := fun k hk => by rw [nI_add]; exact inb_n (by omega) (by omega)
  have i1 : inb (nI i + (1 : Int32)) L = true := iK 1 (by omega)
  have i2 : inb (nI i + (2 : Int32)) L = true := iK 2 (by omega)
  have i3 : inb (nI i + (3 : Int32)) L = true := iK 3 (by omega)
  have i4 : inb (nI i + (4 : Int32)) L = true := iK 4 (by omega)
  have i5 : inb (nI i + (5 : Int32)) L = true := iK 5 (by omega)
  replace hk := hk hi6
  refine law_gd i0 ?_
  refine law_if (fun _ => ?_) (fun _ => ?_)
  · obtain ⟨v, G1, G2, e1, e2, hR2⟩ := q_feed (xs (nI i + (1 : Int32)).toNatClampNeg) (xs (nI i + (2 : Int32)).toNatClampNeg) (xs (nI i + (3 : Int32)).toNatClampNeg) (xs (nI i + (4 : Int32)).toNatClampNeg) (xs (nI i + (5 : Int32)).toNatClampNeg) G hR
    exact law_gd i1 (law_gd i2 (law_gd i3 (law_gd i4 (law_gd i5 (law_ob e1 (law_gd i1 (law_gd i2 (law_gd i3 (law_gd i4 (law_gd i5 (law_ob e2 (law_pos rfl (hk G2 hR2)))))))))))))
  refine law_if (fun _ => ?_) (fun _ => ?_)
  · obtain ⟨v, G1, G2, e1, e2, hR2⟩ := q_end (xs (nI i + (1 : Int32)).toNatClampNeg) G hR
    exact law_gd i1 (law_ob e1 (law_gd i1 (law_ob e2 (law_pos rfl (hk G2 hR2)))))
  refine law_if (fun _ => ?_) (fun _ => ?_)
  · obtain ⟨v, G1, G2, e1, e2, hR2⟩ := q_hall  G hR
    exact law_ob e1 (law_ob e2 (law_pos rfl (hk G2 hR2)))
  refine law_if (fun _ => ?_) (fun _ => ?_)
  · obtain ⟨v, G1, G2, e1, e2, hR2⟩ := q_fault (xs (nI i + (1 : Int32)).toNatClampNeg) G hR
    exact law_gd i1 (law_ob e1 (law_gd i1 (law_ob e2 (law_pos rfl (hk G2 hR2)))))
  refine law_if (fun _ => ?_) (fun _ => ?_)
  · obtain ⟨v, G1, G2, e1, e2, hR2⟩ := q_column (xs (nI i + (1 : Int32)).toNatClampNeg) (xs (nI i + (2 : Int32)).toNatClampNeg) G hR
    exact law_gd i1 (law_gd i2 (law_ob e1 (law_gd i1 (law_gd i2 (law_ob e2 (law_pos rfl (hk G2 hR2)))))))
  refine law_if (fun _ => ?_) (fun _ => ?_)
  · obtain ⟨v, G1, G2, e1, e2, hR2⟩ := q_numbers  G hR
    exact law_ob e1 (law_ob e2 (law_pos rfl (hk G2 hR2)))
  refine law_if (fun _ => ?_) (fun _ => ?_)
  · obtain ⟨v, G1, G2, e1, e2, hR2⟩ := q_plans  G hR
    exact law_ob e1 (law_ob e2 (law_pos rfl (hk G2 hR2)))
  refine law_if (fun _ => ?_) (fun _ => ?_)
  · obtain ⟨v, G1, G2, e1, e2, hR2⟩ := q_plan (xs (nI i + (1 : Int32)).toNatClampNeg) (xs (nI i + (2 : Int32)).toNatClampNeg) (xs (nI i + (3 : Int32)).toNatClampNeg) G hR
    exact law_gd i1 (law_gd i2 (law_gd i3 (law_ob e1 (law_gd i1 (law_gd i2 (law_gd i3 (law_ob e2 (law_pos rfl (hk G2 hR2)))))))))
  refine law_if (fun _ => ?_) (fun _ => ?_)
  · obtain ⟨v, G1, G2, e1, e2, hR2⟩ := q_layouts (xs (nI i + (1 : Int32)).toNatClampNeg) G hR
    exact law_gd i1 (law_ob e1 (law_gd i1 (law_ob e2 (law_pos rfl (hk G2 hR2)))))
  refine law_if (fun _ => ?_) (fun _ => ?_)
  · obtain ⟨v, G1, G2, e1, e2, hR2⟩ := q_made (xs (nI i + (1 : Int32)).toNatClampNeg) G hR
    exact law_gd i1 (law_ob e1 (law_gd i1 (law_ob e2 (law_pos rfl (hk G2 hR2)))))
  refine law_if (fun _ => ?_) (fun _ => ?_)
  · obtain ⟨v, G1, G2, e1, e2, hR2⟩ := q_cell (xs (nI i + (1 : Int32)).toNatClampNeg) (xs (nI i + (2 : Int32)).toNatClampNeg) (xs (nI i + (3 : Int32)).toNatClampNeg) (xs (nI i + (4 : Int32)).toNatClampNeg) G hR
    exact law_gd i1 (law_gd i2 (law_gd i3 (law_gd i4 (law_ob e1 (law_gd i1 (law_gd i2 (law_gd i3 (law_gd i4 (law_ob e2 (law_pos rfl (hk G2 hR2)))))))))))
  refine law_if (fun _ => ?_) (fun _ => ?_)
  · obtain ⟨v, G1, G2, e1, e2, hR2⟩ := q_where (xs (nI i + (1 : Int32)).toNatClampNeg) (xs (nI i + (2 : Int32)).toNatClampNeg) G hR
    exact law_gd i1 (law_gd i2 (law_ob e1 (law_gd i1 (law_gd i2 (law_ob e2 (law_pos rfl (hk G2 hR2)))))))
  refine law_if (fun _ => ?_) (fun _ => ?_)
  · obtain ⟨v, G1, G2, e1, e2, hR2⟩ := q_same (xs (nI i + (1 : Int32)).toNatClampNeg) (xs (nI i + (2 : Int32)).toNatClampNeg) G hR
    exact law_gd i1 (law_gd i2 (law_ob e1 (law_gd i1 (law_gd i2 (law_ob e2 (law_pos rfl (hk G2 hR2)))))))
  refine law_if (fun _ => ?_) (fun _ => ?_)
  · obtain ⟨v, G1, G2, e1, e2, hR2⟩ := q_alike (xs (nI i + (1 : Int32)).toNatClampNeg) (xs (nI i + (2 : Int32)).toNatClampNeg) (xs (nI i + (3 : Int32)).toNatClampNeg) (xs (nI i + (4 : Int32)).toNatClampNeg) G hR
    exact law_gd i1 (law_gd i2 (law_gd i3 (law_gd i4 (law_ob e1 (law_gd i1 (law_gd i2 (law_gd i3 (law_gd i4 (law_ob e2 (law_pos rfl (hk G2 hR2)))))))))))
  refine law_if (fun _ => ?_) (fun _ => ?_)
  · obtain ⟨v, G1, G2, e1, e2, hR2⟩ := q_sell (xs (nI i + (1 : Int32)).toNatClampNeg) G hR
    exact law_gd i1 (law_ob e1 (law_gd i1 (law_ob e2 (law_pos rfl (hk G2 hR2)))))
  refine law_if (fun _ => ?_) (fun _ => ?_)
  · obtain ⟨v, G1, G2, e1, e2, hR2⟩ := q_unsell  G hR
    exact law_ob e1 (law_ob e2 (law_pos rfl (hk G2 hR2)))
  refine law_if (fun _ => ?_) (fun _ => ?_)
  · obtain ⟨v, G1, G2, e1, e2, hR2⟩ := q_sold (xs (nI i + (1 : Int32)).toNatClampNeg) G hR
    exact law_gd i1 (law_ob e1 (law_gd i1 (law_ob e2 (law_pos rfl (hk G2 hR2)))))
  refine law_if (fun _ => ?_) (fun _ => ?_)
  · obtain ⟨v, G1, G2, e1, e2, hR2⟩ := q_caller (xs (nI i + (1 : Int32)).toNatClampNeg) G hR
    exact law_gd i1 (law_ob e1 (law_gd i1 (law_ob e2 (law_pos rfl (hk G2 hR2)))))
  refine law_if (fun _ => ?_) (fun _ => ?_)
  · obtain ⟨v, G1, G2, e1, e2, hR2⟩ := q_calls (xs (nI i + (1 : Int32)).toNatClampNeg) G hR
    exact law_gd i1 (law_ob e1 (law_gd i1 (law_ob e2 (law_pos rfl (hk G2 hR2)))))
  refine law_if (fun _ => ?_) (fun _ => ?_)
  · obtain ⟨v, G1, G2, e1, e2, hR2⟩ := q_call (xs (nI i + (1 : Int32)).toNatClampNeg) G hR
    exact law_gd i1 (law_ob e1 (law_gd i1 (law_ob e2 (law_pos rfl (hk G2 hR2)))))
  refine law_if (fun _ => ?_) (fun _ => ?_)
  · obtain ⟨v, G1, G2, e1, e2, hR2⟩ := q_called (xs (nI i + (1 : Int32)).toNatClampNeg) G hR
    exact law_gd i1 (law_ob e1 (law_gd i1 (law_ob e2 (law_pos rfl (hk G2 hR2)))))
  refine law_if (fun _ => ?_) (fun _ => ?_)
  · obtain ⟨v, G1, G2, e1, e2, hR2⟩ := q_daubs (xs (nI i + (1 : Int32)).toNatClampNeg) (xs (nI i + (2 : Int32)).toNatClampNeg) (xs (nI i + (3 : Int32)).toNatClampNeg) G hR
    exact law_gd i1 (law_gd i2 (law_gd i3 (law_ob e1 (law_gd i1 (law_gd i2 (law_gd i3 (law_ob e2 (law_pos rfl (hk G2 hR2)))))))))
  refine law_if (fun _ => ?_) (fun _ => ?_)
  · obtain ⟨v, G1, G2, e1, e2, hR2⟩ := q_full (xs (nI i + (1 : Int32)).toNatClampNeg) (xs (nI i + (2 : Int32)).toNatClampNeg) (xs (nI i + (3 : Int32)).toNatClampNeg) G hR
    exact law_gd i1 (law_gd i2 (law_gd i3 (law_ob e1 (law_gd i1 (law_gd i2 (law_gd i3 (law_ob e2 (law_pos rfl (hk G2 hR2)))))))))
  refine law_if (fun _ => ?_) (fun _ => ?_)
  · obtain ⟨v, G1, G2, e1, e2, hR2⟩ := q_lacks (xs (nI i + (1 : Int32)).toNatClampNeg) (xs (nI i + (2 : Int32)).toNatClampNeg) (xs (nI i + (3 : Int32)).toNatClampNeg) (xs (nI i + (4 : Int32)).toNatClampNeg) G hR
    exact law_gd i1 (law_gd i2 (law_gd i3 (law_gd i4 (law_ob e1 (law_gd i1 (law_gd i2 (law_gd i3 (law_gd i4 (law_ob e2 (law_pos rfl (hk G2 hR2)))))))))))
  refine law_if (fun _ => ?_) (fun _ => ?_)
  · obtain ⟨v, G1, G2, e1, e2, hR2⟩ := q_done (xs (nI i + (1 : Int32)).toNatClampNeg) (xs (nI i + (2 : Int32)).toNatClampNeg) (xs (nI i + (3 : Int32)).toNatClampNeg) G hR
    exact law_gd i1 (law_gd i2 (law_gd i3 (law_ob e1 (law_gd i1 (law_gd i2 (law_gd i3 (law_ob e2 (law_pos rfl (hk G2 hR2)))))))))
  refine law_if (fun _ => ?_) (fun _ => ?_)
  · obtain ⟨v, G1, G2, e1, e2, hR2⟩ := q_claim (xs (nI i + (1 : Int32)).toNatClampNeg) (xs (nI i + (2 : Int32)).toNatClampNeg) (xs (nI i + (3 : Int32)).toNatClampNeg) (xs (nI i + (4 : Int32)).toNatClampNeg) G hR
    exact law_gd i1 (law_gd i2 (law_gd i3 (law_gd i4 (law_ob e1 (law_gd i1 (law_gd i2 (law_gd i3 (law_gd i4 (law_ob e2 (law_pos rfl (hk G2 hR2)))))))))))
  refine law_if (fun _ => ?_) (fun _ => ?_)
  · obtain ⟨v, G1, G2, e1, e2, hR2⟩ := q_first (xs (nI i + (1 : Int32)).toNatClampNeg) G hR
    exact law_gd i1 (law_ob e1 (law_gd i1 (law_ob e2 (law_pos rfl (hk G2 hR2)))))
  refine law_if (fun _ => ?_) (fun _ => ?_)
  · obtain ⟨v, G1, G2, e1, e2, hR2⟩ := q_winner (xs (nI i + (1 : Int32)).toNatClampNeg) (xs (nI i + (2 : Int32)).toNatClampNeg) G hR
    exact law_gd i1 (law_gd i2 (law_ob e1 (law_gd i1 (law_gd i2 (law_ob e2 (law_pos rfl (hk G2 hR2)))))))
  refine law_if (fun _ => ?_) (fun _ => ?_)
  · obtain ⟨v, G1, G2, e1, e2, hR2⟩ := q_prize (xs (nI i + (1 : Int32)).toNatClampNeg) (xs (nI i + (2 : Int32)).toNatClampNeg) G hR
    exact law_gd i1 (law_gd i2 (law_ob e1 (law_gd i1 (law_gd i2 (law_ob e2 (law_pos rfl (hk G2 hR2)))))))
  refine law_if (fun _ => ?_) (fun _ => ?_)
  · obtain ⟨v, G1, G2, e1, e2, hR2⟩ := q_jackpot (xs (nI i + (1 : Int32)).toNatClampNeg) G hR
    exact law_gd i1 (law_ob e1 (law_gd i1 (law_ob e2 (law_pos rfl (hk G2 hR2)))))
  refine law_if (fun _ => ?_) (fun _ => ?_)
  · obtain ⟨v, G1, G2, e1, e2, hR2⟩ := q_wins (xs (nI i + (1 : Int32)).toNatClampNeg) G hR
    exact law_gd i1 (law_ob e1 (law_gd i1 (law_ob e2 (law_pos rfl (hk G2 hR2)))))
  refine law_if (fun _ => ?_) (fun _ => ?_)
  · obtain ⟨v, G1, G2, e1, e2, hR2⟩ := q_book (xs (nI i + (1 : Int32)).toNatClampNeg) (xs (nI i + (2 : Int32)).toNatClampNeg) G hR
    exact law_gd i1 (law_gd i2 (law_ob e1 (law_gd i1 (law_gd i2 (law_ob e2 (law_pos rfl (hk G2 hR2)))))))
  refine law_if (fun _ => ?_) (fun _ => ?_)
  · obtain ⟨v, G1, G2, e1, e2, hR2⟩ := q_shaped (xs (nI i + (1 : Int32)).toNatClampNeg) (xs (nI i + (2 : Int32)).toNatClampNeg) (xs (nI i + (3 : Int32)).toNatClampNeg) G hR
    exact law_gd i1 (law_gd i2 (law_gd i3 (law_ob e1 (law_gd i1 (law_gd i2 (law_gd i3 (law_ob e2 (law_pos rfl (hk G2 hR2)))))))))
  refine law_if (fun _ => ?_) (fun _ => ?_)
  · obtain ⟨v, G1, G2, e1, e2, hR2⟩ := q_shape (xs (nI i + (1 : Int32)).toNatClampNeg) (xs (nI i + (2 : Int32)).toNatClampNeg) G hR
    exact law_gd i1 (law_gd i2 (law_ob e1 (law_gd i1 (law_gd i2 (law_ob e2 (law_pos rfl (hk G2 hR2)))))))
  refine law_if (fun _ => ?_) (fun _ => ?_)
  · obtain ⟨v, G1, G2, e1, e2, hR2⟩ := q_corners (xs (nI i + (1 : Int32)).toNatClampNeg) (xs (nI i + (2 : Int32)).toNatClampNeg) G hR
    exact law_gd i1 (law_gd i2 (law_ob e1 (law_gd i1 (law_gd i2 (law_ob e2 (law_pos rfl (hk G2 hR2)))))))
  refine law_if (fun _ => ?_) (fun _ => ?_)
  · obtain ⟨v, G1, G2, e1, e2, hR2⟩ := q_filled (xs (nI i + (1 : Int32)).toNatClampNeg) (xs (nI i + (2 : Int32)).toNatClampNeg) (xs (nI i + (3 : Int32)).toNatClampNeg) G hR
    exact law_gd i1 (law_gd i2 (law_gd i3 (law_ob e1 (law_gd i1 (law_gd i2 (law_gd i3 (law_ob e2 (law_pos rfl (hk G2 hR2)))))))))
  refine law_if (fun _ => ?_) (fun _ => ?_)
  · obtain ⟨v, G1, G2, e1, e2, hR2⟩ := q_last (xs (nI i + (1 : Int32)).toNatClampNeg) (xs (nI i + (2 : Int32)).toNatClampNeg) G hR
    exact law_gd i1 (law_gd i2 (law_ob e1 (law_gd i1 (law_gd i2 (law_ob e2 (law_pos rfl (hk G2 hR2)))))))
  refine law_if (fun _ => ?_) (fun _ => ?_)
  · obtain ⟨v, G1, G2, e1, e2, hR2⟩ := q_sweat (xs (nI i + (1 : Int32)).toNatClampNeg) (xs (nI i + (2 : Int32)).toNatClampNeg) G hR
    exact law_gd i1 (law_gd i2 (law_ob e1 (law_gd i1 (law_gd i2 (law_ob e2 (law_pos rfl (hk G2 hR2)))))))
  refine law_if (fun _ => ?_) (fun _ => ?_)
  · obtain ⟨v, G1, G2, e1, e2, hR2⟩ := q_nearest (xs (nI i + (1 : Int32)).toNatClampNeg) (xs (nI i + (2 : Int32)).toNatClampNeg) G hR
    exact law_gd i1 (law_gd i2 (law_ob e1 (law_gd i1 (law_gd i2 (law_ob e2 (law_pos rfl (hk G2 hR2)))))))
  refine law_if (fun _ => ?_) (fun _ => ?_)
  · obtain ⟨v, G1, G2, e1, e2, hR2⟩ := q_slow (xs (nI i + (1 : Int32)).toNatClampNeg) (xs (nI i + (2 : Int32)).toNatClampNeg) (xs (nI i + (3 : Int32)).toNatClampNeg) (xs (nI i + (4 : Int32)).toNatClampNeg) G hR
    exact law_gd i1 (law_gd i2 (law_gd i3 (law_gd i4 (law_ob e1 (law_gd i1 (law_gd i2 (law_gd i3 (law_gd i4 (law_ob e2 (law_pos rfl (hk G2 hR2)))))))))))
  refine law_if (fun _ => ?_) (fun _ => ?_)
  · obtain ⟨v, G1, G2, e1, e2, hR2⟩ := q_race (xs (nI i + (1 : Int32)).toNatClampNeg) (xs (nI i + (2 : Int32)).toNatClampNeg) G hR
    exact law_gd i1 (law_gd i2 (law_ob e1 (law_gd i1 (law_gd i2 (law_ob e2 (law_pos rfl (hk G2 hR2)))))))
  refine law_if (fun _ => ?_) (fun _ => ?_)
  · obtain ⟨v, G1, G2, e1, e2, hR2⟩ := q_share (xs (nI i + (1 : Int32)).toNatClampNeg) (xs (nI i + (2 : Int32)).toNatClampNeg) G hR
    exact law_gd i1 (law_gd i2 (law_ob e1 (law_gd i1 (law_gd i2 (law_ob e2 (law_pos rfl (hk G2 hR2)))))))
  refine law_if (fun _ => ?_) (fun _ => ?_)
  · obtain ⟨v, G1, G2, e1, e2, hR2⟩ := q_chance (xs (nI i + (1 : Int32)).toNatClampNeg) (xs (nI i + (2 : Int32)).toNatClampNeg) (xs (nI i + (3 : Int32)).toNatClampNeg) G hR
    exact law_gd i1 (law_gd i2 (law_gd i3 (law_ob e1 (law_gd i1 (law_gd i2 (law_gd i3 (law_ob e2 (law_pos ((lg_eq0 _ _).mpr rfl) (hk G2 hR2)))))))))
  refine law_if (fun _ => ?_) (fun _ => ?_)
  · obtain ⟨v, G1, G2, e1, e2, hR2⟩ := q_some (xs (nI i + (1 : Int32)).toNatClampNeg) (xs (nI i + (2 : Int32)).toNatClampNeg) (xs (nI i + (3 : Int32)).toNatClampNeg) G hR
    exact law_gd i1 (law_gd i2 (law_gd i3 (law_ob e1 (law_gd i1 (law_gd i2 (law_gd i3 (law_ob e2 (law_pos ((lg_eq0 _ _).mpr rfl) (hk G2 hR2)))))))))
  refine law_if (fun _ => ?_) (fun _ => ?_)
  · obtain ⟨v, G1, G2, e1, e2, hR2⟩ := q_just (xs (nI i + (1 : Int32)).toNatClampNeg) (xs (nI i + (2 : Int32)).toNatClampNeg) (xs (nI i + (3 : Int32)).toNatClampNeg) G hR
    exact law_gd i1 (law_gd i2 (law_gd i3 (law_ob e1 (law_gd i1 (law_gd i2 (law_gd i3 (law_ob e2 (law_pos ((lg_eq0 _ _).mpr rfl) (hk G2 hR2)))))))))
  refine law_if (fun _ => ?_) (fun _ => ?_)
  · obtain ⟨v, G1, G2, e1, e2, hR2⟩ := q_likely (xs (nI i + (1 : Int32)).toNatClampNeg) (xs (nI i + (2 : Int32)).toNatClampNeg) (xs (nI i + (3 : Int32)).toNatClampNeg) G hR
    exact law_gd i1 (law_gd i2 (law_gd i3 (law_ob e1 (law_gd i1 (law_gd i2 (law_gd i3 (law_ob e2 (law_pos rfl (hk G2 hR2)))))))))
  refine law_if (fun _ => ?_) (fun _ => ?_)
  · obtain ⟨v, G1, G2, e1, e2, hR2⟩ := q_mean (xs (nI i + (1 : Int32)).toNatClampNeg) (xs (nI i + (2 : Int32)).toNatClampNeg) G hR
    exact law_gd i1 (law_gd i2 (law_ob e1 (law_gd i1 (law_gd i2 (law_ob e2 (law_pos rfl (hk G2 hR2)))))))
  refine law_if (fun _ => ?_) (fun _ => ?_)
  · obtain ⟨v, G1, G2, e1, e2, hR2⟩ := q_evenings (xs (nI i + (1 : Int32)).toNatClampNeg) (xs (nI i + (2 : Int32)).toNatClampNeg) (xs (nI i + (3 : Int32)).toNatClampNeg) (xs (nI i + (4 : Int32)).toNatClampNeg) G hR
    exact law_gd i1 (law_gd i2 (law_gd i3 (law_gd i4 (law_ob e1 (law_gd i1 (law_gd i2 (law_gd i3 (law_gd i4 (law_ob e2 (law_pos rfl (hk G2 hR2)))))))))))
  refine law_if (fun _ => ?_) (fun _ => ?_)
  · obtain ⟨v, G1, G2, e1, e2, hR2⟩ := q_judge (xs (nI i + (1 : Int32)).toNatClampNeg) G hR
    exact law_gd i1 (law_ob e1 (law_gd i1 (law_ob e2 (law_pos rfl (hk G2 hR2)))))
  refine law_if (fun _ => ?_) (fun _ => ?_)
  · obtain ⟨v, G1, G2, e1, e2, hR2⟩ := q_count (xs (nI i + (1 : Int32)).toNatClampNeg) G hR
    exact law_gd i1 (law_ob e1 (law_gd i1 (law_ob e2 (law_pos rfl (hk G2 hR2)))))
  refine law_if (fun _ => ?_) (fun _ => ?_)
  · obtain ⟨v, G1, G2, e1, e2, hR2⟩ := q_keep (xs (nI i + (1 : Int32)).toNatClampNeg) G hR
    exact law_gd i1 (law_ob e1 (law_gd i1 (law_ob e2 (law_pos rfl (hk G2 hR2)))))
  refine law_if (fun _ => ?_) (fun _ => ?_)
  · obtain ⟨v, G1, G2, e1, e2, hR2⟩ := q_back (xs (nI i + (1 : Int32)).toNatClampNeg) G hR
    exact law_gd i1 (law_ob e1 (law_gd i1 (law_ob e2 (law_pos rfl (hk G2 hR2)))))
  refine law_if (fun _ => ?_) (fun _ => ?_)
  · obtain ⟨v, G1, G2, e1, e2, hR2⟩ := q_row (xs (nI i + (1 : Int32)).toNatClampNeg) (xs (nI i + (2 : Int32)).toNatClampNeg) (xs (nI i + (3 : Int32)).toNatClampNeg) G hR
    exact law_gd i1 (law_gd i2 (law_gd i3 (law_ob e1 (law_gd i1 (law_gd i2 (law_gd i3 (law_ob e2 (law_pos rfl (hk G2 hR2)))))))))
  refine law_if (fun _ => ?_) (fun _ => ?_)
  · obtain ⟨v, G1, G2, e1, e2, hR2⟩ := q_write (xs (nI i + (1 : Int32)).toNatClampNeg) (xs (nI i + (2 : Int32)).toNatClampNeg) (((xs (nI i + (3 : Int32)).toNatClampNeg).toInt64 <<< ((32 : Int32).toInt64 &&& 63)) ||| ((xs (nI i + (4 : Int32)).toNatClampNeg).toInt64 &&& (4294967295 : Int64))) G hR
    exact law_gd i1 (law_gd i2 (law_gd i3 (law_gd i4 (law_ob e1 (law_gd i1 (law_gd i2 (law_gd i3 (law_gd i4 (law_ob e2 (law_pos rfl (hk G2 hR2)))))))))))
  refine law_if (fun _ => ?_) (fun _ => ?_)
  · obtain ⟨v, G1, G2, e1, e2, hR2⟩ := q_paste (xs (nI i + (1 : Int32)).toNatClampNeg) (xs (nI i + (2 : Int32)).toNatClampNeg) (xs (nI i + (3 : Int32)).toNatClampNeg) (xs (nI i + (4 : Int32)).toNatClampNeg) (xs (nI i + (5 : Int32)).toNatClampNeg) G hR
    exact law_gd i1 (law_gd i2 (law_gd i3 (law_gd i4 (law_gd i5 (law_ob e1 (law_gd i1 (law_gd i2 (law_gd i3 (law_gd i4 (law_gd i5 (law_ob e2 (law_pos rfl (hk G2 hR2)))))))))))))
  exact hk G hR
theorem law_start : bh_R G00 := by
  refine ⟨fun s hs => Or.inl ⟨?_, ?_⟩, ⟨0, by omega, rfl, rfl, fun i hi => absurd hi (Nat.not_lt_zero _)⟩, ⟨rfl, rfl⟩, Or.inl ⟨rfl, rfl⟩, Or.inl ⟨⟨rfl, rfl, rfl, rfl⟩, fun k hk => rfl, rfl, fun k hk => rfl⟩, fun k hk => Or.inl ⟨rfl, rfl⟩⟩
  · rfl
  · rcases (by omega : s = 0 ∨ s = 1 ∨ s = 2 ∨ s = 3) with rfl | rfl | rfl | rfl <;> decide +kernel
theorem sem : ∀ (L : Nat) (xs : Nat → Int32), L ≤ 3072 → ∃ G', f_L_law L xs 0 G00 = some (1, G') := by
  intro L xs hL
  unfold f_L_law
  refine wl1_P (P := fun o => ∃ G', o = some (1, G')) (I := fun x G => ∃ j, x = nI j ∧ j ≤ 3072 ∧ bh_R G) (m := fun x _ => 5000 - x.toNatClampNeg) ?_ FU 0 G00 ⟨0, rfl, by omega, law_start⟩ (by unfold FU; omega)
  rintro kc x G ⟨i, rfl, hi, hR⟩ hkc
  refine law_step (P := fun o => ∃ G', o = some (1, G')) hL hR (fun G' => ⟨G', rfl⟩) (fun hi6 G' hR' => ?_) hi
  have e6 : nI i + (6 : Int32) = nI (i + 6) := nI_add i 6
  refine hkc _ G' ⟨i + 6, e6, by omega, hR'⟩ ?_
  show 5000 - (nI i + (6 : Int32)).toNatClampNeg < 5000 - (nI i).toNatClampNeg
  rw [e6, nI_clamp (by omega), nI_clamp (by omega)]
  omega
