/-! all mixes, all sets, as the class makes them -/
theorem bh_rg (f : Nat → Nat) (q : Nat → Bool) (n : Nat) : ((List.range (n + 1)).map f).filter q = if q (f n) = true then ((List.range n).map f).filter q ++ [f n] else ((List.range n).map f).filter q := by
  rw [List.range_succ, List.map_append, List.filter_append]
  by_cases h : q (f n) = true
  · rw [if_pos h]; simp [h]
  · rw [if_neg h]; simp [h]
theorem bh_rg_len {f : Nat → Nat} {q : Nat → Bool} {n N m : Nat} (h : n < N) (hq : q (f n) = true) (hm : (((List.range N).map f).filter q).length ≤ m) : (((List.range n).map f).filter q).length < m := by
  have key : ∀ d, (((List.range (n + 1)).map f).filter q).length ≤ (((List.range (n + 1 + d)).map f).filter q).length := by
    intro d
    induction d with
    | zero => exact Nat.le_refl _
    | succ d ih =>
      rw [show n + 1 + (d + 1) = n + 1 + d + 1 from by omega, bh_rg f q (n + 1 + d)]
      split
      · rw [List.length_append]; omega
      · exact ih
  have h1 := key (N - (n + 1))
  rw [show n + 1 + (N - (n + 1)) = N from by omega, bh_rg, if_pos hq, List.length_append, List.length_singleton] at h1
  omega
theorem bh_wl3_P {t0 t1 t2 V : Type} {b : t0 → t1 → t2 → GM → (t0 → t1 → t2 → GM → Option V) → Option V} {P : Option V → Prop} {I : t0 → t1 → t2 → GM → Prop} {m : t0 → t1 → t2 → GM → Nat} (hb : ∀ (kc : t0 → t1 → t2 → GM → Option V) (x : t0) (y : t1) (z : t2) (G : GM), I x y z G → (∀ x' y' z' G', I x' y' z' G' → m x' y' z' G' < m x y z G → P (kc x' y' z' G')) → P (b x y z G kc)) : ∀ (n : Nat) (x : t0) (y : t1) (z : t2) (G : GM), I x y z G → m x y z G < n → P (wl3 n b x y z G)
  | 0, _, _, _, _, _, h => absurd h (Nat.not_lt_zero _)
  | n + 1, x, y, z, G, hI, hm => hb _ x y z G hI fun x' y' z' G' hI' hm' => bh_wl3_P hb n x' y' z' G' hI' (by omega)
/-- a loop of three that counts up in its last -/
theorem bh_wl3_up {V t u : Type} {b : t → u → Int32 → GM → (t → u → Int32 → GM → Option V) → Option V} {P : Option V → Prop} (I : Nat → t → u → GM → Prop) (N : Nat) (hN : N < 2 ^ 31) (hb : ∀ (kc : t → u → Int32 → GM → Option V) (i : Nat) (y : t) (z : u) (G : GM), i ≤ N → I i y z G → (i < N → ∀ y' z' G', I (i + 1) y' z' G' → P (kc y' z' (nI (i + 1)) G')) → P (b y z (nI i) G kc)) {n i : Nat} {y : t} {z : u} {G : GM} (hi : i ≤ N) (hI : I i y z G) (hn : N - i < n) : P (wl3 n b y z (nI i) G) := by
  refine bh_wl3_P (P := P) (I := fun y z x G => ∃ i, i ≤ N ∧ x = nI i ∧ I i y z G) (m := fun _ _ x _ => N - x.toNatClampNeg) ?_ n y z (nI i) G ⟨i, hi, rfl, hI⟩ (by rw [nI_clamp (by omega)]; exact hn)
  rintro kc y z _ G ⟨i, hi, rfl, hI⟩ hk
  refine hb kc i y z G hi hI fun h y' z' G' hI' => hk y' z' _ G' ⟨i + 1, h, rfl, hI'⟩ ?_
  rw [nI_clamp (by omega), nI_clamp (by omega)]
  omega
/-- a loop that counts down; its number is one less than what is left -/
theorem bh_m1 (n : Nat) : nI (n + 1) - 1 = nI n := nI_pred n
theorem bh_m1m (n : Nat) : nI n + (-1 : Int32) = nI n - 1 := by rw [Int32.sub_eq_add_neg]
theorem bh_m10 : nI 0 - 1 < (0 : Int32) := by decide
theorem bh_m1n {n : Nat} (h : n + 1 < 2 ^ 31) : ¬ nI (n + 1) - 1 < (0 : Int32) := by rw [bh_m1]; exact nI_pos (by omega)
theorem bh_mxI {R : Nat} (hR : R ≤ 3) {v1 v3 v4 v5 : Int32} {a : Nat} {kc37 : Int32 → GM → Option GM} {G : GM} {P : Option GM → Prop} (code mix0 : Nat) : ∀ (c rest mix : Nat), c ≤ 5 → (1 ≤ R ∨ c = 0) → rest < 2 ^ 31 → bh_mxG R c rest mix = mix0 → P (k_X6_beMixes_93 a v1 (nI R) v3 v4 v5 (nI mix0) kc37 G) → P (wl3 FU (lp_X6_beMixes_56 a v1 (nI R) v3 v4 v5 kc37) (nI rest) (nI mix) (nI c - 1) G) := by
  intro c rest mix hc h1 hrest hmix hP
  refine bh_wl3_P (P := P) (I := fun x y z G' => G' = G ∧ ∃ c rest mix, c ≤ 5 ∧ (1 ≤ R ∨ c = 0) ∧ rest < 2 ^ 31 ∧ bh_mxG R c rest mix = mix0 ∧ x = nI rest ∧ y = nI mix ∧ z = nI c - 1) (m := fun _ _ z _ => (z + 1).toNatClampNeg) ?_ FU _ _ _ G ⟨rfl, c, rest, mix, hc, h1, hrest, hmix, rfl, rfl, rfl⟩ ?_
  · rintro kc _ _ _ G' ⟨rfl, c, rest, mix, hc, h1, hrest, hmix, rfl, rfl, rfl⟩ hk
    unfold lp_X6_beMixes_56
    match c, hc, h1, hmix with
    | 0, _, _, hmix =>
      rw [if_pos bh_m10]
      have : mix = mix0 := hmix
      rw [this]; exact hP
    | c + 1, hc, h1, hmix =>
      have hr3 : rest % R < 3 := Nat.lt_of_lt_of_le (Nat.mod_lt _ (by omega)) hR
      rw [if_neg (bh_m1n (by omega)), if_neg (nI_nle (by omega) (by omega)), gd_d (nI_ne0 (by omega) (by omega)), bh_m1, pk_rem (by omega) (by omega) (by omega), nI_1, bh_packed (by omega) (by omega), ob_s, nI_add, lt_r, gd_d (nI_ne0 (by omega) (by omega)), pk_div (by omega) (by omega) (by omega), lt_r]
      refine hk _ _ _ _ ⟨rfl, c, rest / R, mix + bh_pk c (rest % R + 1), by omega, Or.inl (by omega), Nat.lt_of_le_of_lt (Nat.div_le_self _ _) hrest, hmix, rfl, rfl, bh_m1m c⟩ ?_
      rw [bh_m1m, show nI c - 1 + 1 = nI c from by rw [Int32.sub_add_cancel], show nI (c + 1) - 1 + 1 = nI (c + 1) from by rw [Int32.sub_add_cancel], nI_clamp (by omega), nI_clamp (by omega)]
      omega
  · rw [show nI c - 1 + 1 = nI c from by rw [Int32.sub_add_cancel], nI_clamp (by omega)]
    unfold FU; omega
theorem bh_mxG0 {K : Nat} : ∀ R, R < 4 → ∀ K, K < 6 → ∀ c, c < R ^ K → bh_mxG R K c 0 < 33554432 := by decide +kernel
theorem bh_pow_lt {R K : Nat} (hR : R ≤ 3) (hK : K ≤ 5) : R ^ K ≤ 243 := Nat.le_trans (Nat.pow_le_pow_left hR K) (Nat.le_trans (Nat.pow_le_pow_right (by omega) hK) (by decide))
theorem bh_beMixes {v K R E : Nat} (G : GM) (hK : K ≤ 5) (hR : R ≤ 3) (hRK : 1 ≤ R ∨ K = 0) (hE : E ≤ 5) : ∃ G', f_X6_beMixes v (nI K) (nI R) (nI E) G = some G' ∧ bh_PO G' v K 1 R (R * E) (bh_mx K R (R * E)) ∧ bh_F (bh_WP v) G G' := by
  have hRE : R * E ≤ 15 := Nat.mul_le_mul hR hE
  have hp := bh_pow_lt hR hK
  unfold f_X6_beMixes
  obtain ⟨G0, e0, p0, f0⟩ := bh_begin G v K 1 R (R * E)
  rw [pk_mul, show (1 : Int32) = nI 1 from rfl, e0, ov_s]
  refine wl2_up (P := fun o => ∃ G', o = some G' ∧ bh_PO G' v K 1 R (R * E) (bh_mx K R (R * E)) ∧ bh_F (bh_WP v) G G') (I := fun i y G' => G' = G0 ∧ y = nI (R ^ i)) (N := K) (by omega) ?_ (n := FU) (i := 0) (Nat.zero_le _) ⟨rfl, rfl⟩ (by unfold FU; omega)
  rintro kc i y G' hi' ⟨rfl, rfl⟩ hk
  unfold lp_X6_beMixes_16
  by_cases hiK : i < K
  · rw [if_neg (nI_ge hiK (by omega)), pk_mul, lt_r, nI_1]
    exact hk hiK _ _ ⟨rfl, by rw [Nat.pow_succ]⟩
  · have hiK2 : i = K := by omega
    subst hiK2
    rw [if_pos (nI_le (by omega) (by omega))]
    refine wl1_up (P := fun o => ∃ G', o = some G' ∧ bh_PO G' v i 1 R (R * E) (bh_mx i R (R * E)) ∧ bh_F (bh_WP v) G G') (I := fun j G1 => bh_PO G1 v i 1 R (R * E) (((List.range j).map fun c => bh_mxG R i c 0).filter (bh_isP i 1 R (R * E))) ∧ bh_F (bh_WP v) G G1) (N := R ^ i) (by omega) ?_ (n := FU) (i := 0) (Nat.zero_le _) ⟨p0, f0⟩ (by unfold FU; omega)
    rintro kc37 j G1 hj ⟨q1, q2⟩ hk2
    unfold lp_X6_beMixes_37
    by_cases hjN : j < R ^ i
    · rw [if_neg (nI_ge hjN (by omega)), lt_r]
      refine bh_mxI (P := fun o => ∃ G', o = some G' ∧ bh_PO G' v i 1 R (R * E) (bh_mx i R (R * E)) ∧ bh_F (bh_WP v) G G') hR j (bh_mxG R i j 0) i j 0 hK hRK (by omega) rfl ?_
      unfold k_X6_beMixes_93
      have hlt := bh_mxG0 (K := i) R (by omega) i (by omega) j hjN
      obtain ⟨G2, e2, p2, f2⟩ := bh_addIf q1 hK hlt (by omega) (by omega) (by omega) (fun hq => bh_rg_len (f := fun c => bh_mxG R i c 0) hjN hq (bh_mx_len i (by omega) R (by omega) E (by omega)))
      rw [e2, ov_s, nI_1]
      refine hk2 hjN G2 ⟨?_, bh_Ft q2 f2⟩
      rw [bh_rg]
      exact p2
    · have hj2 : j = R ^ i := by omega
      subst hj2
      rw [if_pos (nI_le (by omega) (by omega))]
      exact ⟨G1, rfl, q1, q2⟩
theorem bh_bit {b k : Nat} (hk : k < 5) (hb : b < 2 ^ 31) : (nI b >>> (nI k &&& 31)) &&& (1 : Int32) = nI (b / 2 ^ k % 2) := by
  have key : ∀ (s : Int32) (q : Nat), (s.toBitVec.smod 32).toNat = q → (nI b >>> s) &&& (1 : Int32) = nI (b / 2 ^ q % 2 ^ 1) := fun s q hs => by
    rw [pk_shrN hb s q hs, pk_andN (Nat.lt_of_le_of_lt (Nat.div_le_self _ _) (by omega)) 1 (by decide)]
  rcases (by omega : k = 0 ∨ k = 1 ∨ k = 2 ∨ k = 3 ∨ k = 4) with rfl | rfl | rfl | rfl | rfl
  · rw [key _ 0 (by decide)]
  · rw [key _ 1 (by decide)]
  · rw [key _ 2 (by decide)]
  · rw [key _ 3 (by decide)]
  · rw [key _ 4 (by decide)]
theorem bh_one_shl : ∀ K, K < 6 → (1 : Int32) <<< (nI K &&& 31) = nI (2 ^ K) := by decide
theorem bh_stG_lt : ∀ K, K < 6 → ∀ b, b < 2 ^ K → bh_stG K b < 33554432 := by decide +kernel
theorem bh_beSets {v K E : Nat} (G : GM) (hK : K ≤ 5) (hE : E ≤ 5) : ∃ G', f_X6_beSets v (nI K) (nI E) G = some G' ∧ bh_PO G' v K 0 1 E (bh_st K E) ∧ bh_F (bh_WP v) G G' := by
  have hp := bh_pow_lt (R := 2) (K := K) (by omega) hK
  unfold f_X6_beSets
  obtain ⟨G0, e0, p0, f0⟩ := bh_begin G v K 0 1 E
  rw [show (1 : Int32) = nI 1 from rfl, show (0 : Int32) = nI 0 from rfl, e0, ov_s]
  refine wl1_up (P := fun o => ∃ G', o = some G' ∧ bh_PO G' v K 0 1 E (bh_st K E) ∧ bh_F (bh_WP v) G G') (I := fun j G1 => bh_PO G1 v K 0 1 E (((List.range j).map (bh_stG K)).filter (bh_isP K 0 1 E)) ∧ bh_F (bh_WP v) G G1) (N := 2 ^ K) (by omega) ?_ (n := FU) (i := 0) (Nat.zero_le _) ⟨p0, f0⟩ (by unfold FU; omega)
  rintro kc j G1 hj ⟨q1, q2⟩ hk2
  unfold lp_X6_beSets_10
  rw [bh_one_shl K (by omega)]
  by_cases hjN : j < 2 ^ K
  · rw [if_neg (nI_ge hjN (by omega))]
    refine wl2_up (P := fun o => ∃ G', o = some G' ∧ bh_PO G' v K 0 1 E (bh_st K E) ∧ bh_F (bh_WP v) G G') (I := fun i y G' => G' = G1 ∧ y = nI (bh_stG i j)) (N := K) (by omega) ?_ (n := FU) (i := 0) (Nat.zero_le _) ⟨rfl, rfl⟩ (by unfold FU; omega)
    rintro kc2 i y G' hi' ⟨rfl, rfl⟩ hk
    unfold lp_X6_beSets_23
    by_cases hiK : i < K
    · rw [if_neg (nI_ge hiK (by omega)), bh_bit (by omega) (by omega), bh_packed (by omega) (by omega), ob_s, nI_add, lt_r, nI_1]
      exact hk hiK _ _ ⟨rfl, rfl⟩
    · have hiK2 : i = K := by omega
      subst hiK2
      rw [if_pos (nI_le (by omega) (by omega))]
      obtain ⟨G2, e2, p2, f2⟩ := bh_addIf q1 hK (bh_stG_lt i (by omega) j hjN) (by omega) (by omega) (by omega) (fun hq => bh_rg_len (f := bh_stG i) hjN hq (bh_st_len i (by omega) E (by omega)))
      rw [e2, ov_s, nI_1]
      refine hk2 hjN G2 ⟨?_, bh_Ft q2 f2⟩
      rw [bh_rg]
      exact p2
  · have hj2 : j = 2 ^ K := by omega
    subst hj2
    rw [if_pos (nI_le (by omega) (by omega))]
    exact ⟨G1, rfl, q1, q2⟩
