/-! VECTORS: numbers of columns packed, five bits each; sequences of parts -/
def bh_dg (p k : Nat) : Nat := p / 32 ^ (4 - k) % 32
def bh_pk (k n : Nat) : Nat := n * 32 ^ (4 - k)
def bh_V (a b c d e : Nat) : Nat := 1048576 * a + 32768 * b + 1024 * c + 32 * d + e
theorem bh_all5 {P : Nat → Prop} : (∀ k, k < 5 → P k) ↔ P 0 ∧ P 1 ∧ P 2 ∧ P 3 ∧ P 4 :=
  ⟨fun h => ⟨h 0 (by omega), h 1 (by omega), h 2 (by omega), h 3 (by omega), h 4 (by omega)⟩, fun ⟨h0, h1, h2, h3, h4⟩ k hk => by
    rcases (by omega : k = 0 ∨ k = 1 ∨ k = 2 ∨ k = 3 ∨ k = 4) with rfl | rfl | rfl | rfl | rfl <;> assumption⟩
theorem bh_dg0 (p : Nat) : bh_dg p 0 = p / 1048576 % 32 := rfl
theorem bh_dg1 (p : Nat) : bh_dg p 1 = p / 32768 % 32 := rfl
theorem bh_dg2 (p : Nat) : bh_dg p 2 = p / 1024 % 32 := rfl
theorem bh_dg3 (p : Nat) : bh_dg p 3 = p / 32 % 32 := rfl
theorem bh_dg4 (p : Nat) : bh_dg p 4 = p % 32 := by show p / 1 % 32 = _; rw [Nat.div_one]
theorem bh_dg_lt (p k : Nat) : bh_dg p k < 32 := Nat.mod_lt _ (by omega)
theorem bh_V0 {a b c d e : Nat} (ha : a < 32) (hb : b < 32) (hc : c < 32) (hd : d < 32) (he : e < 32) : bh_dg (bh_V a b c d e) 0 = a := by rw [bh_dg0]; unfold bh_V; omega
theorem bh_V1 {a b c d e : Nat} (hb : b < 32) (hc : c < 32) (hd : d < 32) (he : e < 32) : bh_dg (bh_V a b c d e) 1 = b := by rw [bh_dg1]; unfold bh_V; omega
theorem bh_V2 {a b c d e : Nat} (hc : c < 32) (hd : d < 32) (he : e < 32) : bh_dg (bh_V a b c d e) 2 = c := by rw [bh_dg2]; unfold bh_V; omega
theorem bh_V3 {a b c d e : Nat} (hd : d < 32) (he : e < 32) : bh_dg (bh_V a b c d e) 3 = d := by rw [bh_dg3]; unfold bh_V; omega
theorem bh_V4 {a b c d e : Nat} (he : e < 32) : bh_dg (bh_V a b c d e) 4 = e := by rw [bh_dg4]; unfold bh_V; omega
theorem bh_Vlt {a b c d e : Nat} (ha : a < 32) (hb : b < 32) (hc : c < 32) (hd : d < 32) (he : e < 32) : bh_V a b c d e < 33554432 := by unfold bh_V; omega
theorem bh_Vof (p : Nat) (h : p < 33554432) : p = bh_V (bh_dg p 0) (bh_dg p 1) (bh_dg p 2) (bh_dg p 3) (bh_dg p 4) := by
  rw [bh_dg0, bh_dg1, bh_dg2, bh_dg3, bh_dg4]; unfold bh_V; omega
theorem bh_ext {p q : Nat} (hp : p < 33554432) (hq : q < 33554432) (h : ∀ k, k < 5 → bh_dg p k = bh_dg q k) : p = q := by
  rw [bh_Vof p hp, bh_Vof q hq, h 0 (by omega), h 1 (by omega), h 2 (by omega), h 3 (by omega), h 4 (by omega)]
theorem bh_dg_sub {r p : Nat} (hr : r < 33554432) (hp : p < 33554432) (h : ∀ k, k < 5 → bh_dg p k ≤ bh_dg r k) : p ≤ r ∧ ∀ k, k < 5 → bh_dg (r - p) k = bh_dg r k - bh_dg p k := by
  have e1 := bh_Vof r hr
  have e2 := bh_Vof p hp
  rw [bh_all5] at h
  rw [bh_all5]
  have l : ∀ k, bh_dg r k < 32 := bh_dg_lt r
  have l0 := l 0
  have l1 := l 1
  have l2 := l 2
  have l3 := l 3
  have l4 := l 4
  generalize bh_dg r 0 = r0 at *
  generalize bh_dg r 1 = r1 at *
  generalize bh_dg r 2 = r2 at *
  generalize bh_dg r 3 = r3 at *
  generalize bh_dg r 4 = r4 at *
  generalize bh_dg p 0 = p0 at *
  generalize bh_dg p 1 = p1 at *
  generalize bh_dg p 2 = p2 at *
  generalize bh_dg p 3 = p3 at *
  generalize bh_dg p 4 = p4 at *
  have e3 : r - p = bh_V (r0 - p0) (r1 - p1) (r2 - p2) (r3 - p3) (r4 - p4) := by
    rw [e1, e2]; unfold bh_V; omega
  refine ⟨by rw [e1, e2]; unfold bh_V; omega, ?_⟩
  rw [e3]
  refine ⟨bh_V0 ?_ ?_ ?_ ?_ ?_, bh_V1 ?_ ?_ ?_ ?_, bh_V2 ?_ ?_ ?_, bh_V3 ?_ ?_, bh_V4 ?_⟩ <;> omega
theorem bh_dg_add {r p : Nat} (hr : r < 33554432) (hp : p < 33554432) (h : ∀ k, k < 5 → bh_dg p k + bh_dg r k < 32) : r + p < 33554432 ∧ ∀ k, k < 5 → bh_dg (r + p) k = bh_dg r k + bh_dg p k := by
  have e1 := bh_Vof r hr
  have e2 := bh_Vof p hp
  rw [bh_all5] at h
  rw [bh_all5]
  generalize bh_dg r 0 = r0 at *
  generalize bh_dg r 1 = r1 at *
  generalize bh_dg r 2 = r2 at *
  generalize bh_dg r 3 = r3 at *
  generalize bh_dg r 4 = r4 at *
  generalize bh_dg p 0 = p0 at *
  generalize bh_dg p 1 = p1 at *
  generalize bh_dg p 2 = p2 at *
  generalize bh_dg p 3 = p3 at *
  generalize bh_dg p 4 = p4 at *
  have e3 : r + p = bh_V (r0 + p0) (r1 + p1) (r2 + p2) (r3 + p3) (r4 + p4) := by
    rw [e1, e2]; unfold bh_V; omega
  refine ⟨by rw [e3]; apply bh_Vlt <;> omega, ?_⟩
  rw [e3]
  refine ⟨bh_V0 ?_ ?_ ?_ ?_ ?_, bh_V1 ?_ ?_ ?_ ?_, bh_V2 ?_ ?_ ?_, bh_V3 ?_ ?_, bh_V4 ?_⟩ <;> omega
theorem bh_dg_zero (k : Nat) : bh_dg 0 k = 0 := by unfold bh_dg; rw [Nat.zero_div]
theorem bh_pk_lt {k n : Nat} (hn : n < 32) : bh_pk k n < 33554432 := by
  unfold bh_pk
  have : 32 ^ (4 - k) ≤ 32 ^ 4 := Nat.pow_le_pow_right (by omega) (by omega)
  have h2 : n * 32 ^ (4 - k) ≤ 31 * 32 ^ 4 := Nat.mul_le_mul (by omega) this
  omega
theorem bh_dg_pk {k n j : Nat} (hk : k < 5) (hn : n < 32) (hj : j < 5) : bh_dg (bh_pk k n) j = if j = k then n else 0 := by
  rcases (by omega : k = 0 ∨ k = 1 ∨ k = 2 ∨ k = 3 ∨ k = 4) with rfl | rfl | rfl | rfl | rfl <;>
  rcases (by omega : j = 0 ∨ j = 1 ∨ j = 2 ∨ j = 3 ∨ j = 4) with rfl | rfl | rfl | rfl | rfl <;>
  simp only [bh_dg0, bh_dg1, bh_dg2, bh_dg3, bh_dg4, bh_pk] <;> simp <;> omega
/-! the guards: whether no number of a rest falls below nothing -/
theorem bh_or_lo {a b c d : Nat} (hb : b < 32) (hd : d < 32) : (32 * a + b) ||| (32 * c + d) = 32 * (a ||| c) + (b ||| d) := by
  have hbd : b ||| d < 2 ^ 5 := Nat.or_lt_two_pow (by omega) (by omega)
  apply Nat.eq_of_testBit_eq
  intro i
  rw [Nat.testBit_or, show (32 : Nat) = 2 ^ 5 from rfl, Nat.testBit_two_pow_mul_add _ (by omega), Nat.testBit_two_pow_mul_add _ (by omega), Nat.testBit_two_pow_mul_add _ hbd]
  by_cases hi : i < 5
  · simp [hi]
  · simp [hi]
theorem bh_and_lo {a b c d : Nat} (hb : b < 32) (hd : d < 32) : (32 * a + b) &&& (32 * c + d) = 32 * (a &&& c) + (b &&& d) := by
  have hbd : b &&& d < 2 ^ 5 := Nat.and_lt_two_pow _ (by omega)
  apply Nat.eq_of_testBit_eq
  intro i
  rw [Nat.testBit_and, show (32 : Nat) = 2 ^ 5 from rfl, Nat.testBit_two_pow_mul_add _ (by omega), Nat.testBit_two_pow_mul_add _ (by omega), Nat.testBit_two_pow_mul_add _ hbd]
  by_cases hi : i < 5
  · simp [hi]
  · simp [hi]
theorem bh_Vh (a b c d e : Nat) : bh_V a b c d e = 32 * (32 * (32 * (32 * a + b) + c) + d) + e := by unfold bh_V; omega
theorem bh_V_or {a b c d e a' b' c' d' e' : Nat} (hb : b < 32) (hc : c < 32) (hd : d < 32) (he : e < 32) (hb' : b' < 32) (hc' : c' < 32) (hd' : d' < 32) (he' : e' < 32) : bh_V a b c d e ||| bh_V a' b' c' d' e' = bh_V (a ||| a') (b ||| b') (c ||| c') (d ||| d') (e ||| e') := by
  rw [bh_Vh, bh_Vh, bh_Vh, bh_or_lo he he', bh_or_lo hd hd', bh_or_lo hc hc', bh_or_lo hb hb']
theorem bh_V_and {a b c d e a' b' c' d' e' : Nat} (hb : b < 32) (hc : c < 32) (hd : d < 32) (he : e < 32) (hb' : b' < 32) (hc' : c' < 32) (hd' : d' < 32) (he' : e' < 32) : bh_V a b c d e &&& bh_V a' b' c' d' e' = bh_V (a &&& a') (b &&& b') (c &&& c') (d &&& d') (e &&& e') := by
  rw [bh_Vh, bh_Vh, bh_Vh, bh_and_lo he he', bh_and_lo hd hd', bh_and_lo hc hc', bh_and_lo hb hb']
theorem bh_or16 : ∀ x, x < 16 → x ||| 16 = x + 16 := by decide
theorem bh_and16 : ∀ x, x < 32 → (x &&& 16) = if 16 ≤ x then 16 else 0 := by decide
theorem bh_or_g {r : Nat} (hr : r < 33554432) (h : ∀ k, k < 5 → bh_dg r k < 16) : r ||| 17318416 = r + 17318416 := by
  have e1 := bh_Vof r hr
  rw [bh_all5] at h
  generalize bh_dg r 0 = r0 at *
  generalize bh_dg r 1 = r1 at *
  generalize bh_dg r 2 = r2 at *
  generalize bh_dg r 3 = r3 at *
  generalize bh_dg r 4 = r4 at *
  rw [e1, show 17318416 = bh_V 16 16 16 16 16 from rfl, bh_V_or (by omega) (by omega) (by omega) (by omega) (by omega) (by omega) (by omega) (by omega), bh_or16 _ h.1, bh_or16 _ h.2.1, bh_or16 _ h.2.2.1, bh_or16 _ h.2.2.2.1, bh_or16 _ h.2.2.2.2]
  unfold bh_V; omega
theorem bh_take {r p : Nat} (hr : r < 33554432) (hp : p < 33554432) (h : ∀ k, k < 5 → bh_dg r k < 16) (h' : ∀ k, k < 5 → bh_dg p k < 16) : p ≤ r + 17318416 ∧ ((r + 17318416 - p) &&& 17318416 = 17318416 ↔ ∀ k, k < 5 → bh_dg p k ≤ bh_dg r k) := by
  have e1 := bh_Vof r hr
  have e2 := bh_Vof p hp
  rw [bh_all5] at h h'
  rw [bh_all5]
  generalize bh_dg r 0 = r0 at *
  generalize bh_dg r 1 = r1 at *
  generalize bh_dg r 2 = r2 at *
  generalize bh_dg r 3 = r3 at *
  generalize bh_dg r 4 = r4 at *
  generalize bh_dg p 0 = p0 at *
  generalize bh_dg p 1 = p1 at *
  generalize bh_dg p 2 = p2 at *
  generalize bh_dg p 3 = p3 at *
  generalize bh_dg p 4 = p4 at *
  have e3 : r + 17318416 - p = bh_V (r0 + 16 - p0) (r1 + 16 - p1) (r2 + 16 - p2) (r3 + 16 - p3) (r4 + 16 - p4) := by
    rw [e1, e2]; unfold bh_V; omega
  refine ⟨by rw [e1, e2]; unfold bh_V; omega, ?_⟩
  rw [e3, show (17318416 : Nat) = bh_V 16 16 16 16 16 from rfl, bh_V_and (by omega) (by omega) (by omega) (by omega) (by omega) (by omega) (by omega) (by omega), bh_and16 _ (by omega), bh_and16 _ (by omega), bh_and16 _ (by omega), bh_and16 _ (by omega), bh_and16 _ (by omega)]
  constructor
  · intro hv
    have key : ∀ x : Nat, (if 16 ≤ x then 16 else 0) < 32 := fun x => by split <;> omega
    have k0 := congrArg (fun v => bh_dg v 0) hv
    have k1 := congrArg (fun v => bh_dg v 1) hv
    have k2 := congrArg (fun v => bh_dg v 2) hv
    have k3 := congrArg (fun v => bh_dg v 3) hv
    have k4 := congrArg (fun v => bh_dg v 4) hv
    rw [bh_V0 (key _) (key _) (key _) (key _) (key _), bh_V0 (by omega) (by omega) (by omega) (by omega) (by omega)] at k0
    rw [bh_V1 (key _) (key _) (key _) (key _), bh_V1 (by omega) (by omega) (by omega) (by omega)] at k1
    rw [bh_V2 (key _) (key _) (key _), bh_V2 (by omega) (by omega) (by omega)] at k2
    rw [bh_V3 (key _) (key _), bh_V3 (by omega) (by omega)] at k3
    rw [bh_V4 (key _), bh_V4 (by omega)] at k4
    have un : ∀ x : Nat, (if 16 ≤ x then 16 else 0) = 16 → 16 ≤ x := fun x hx => by
      by_cases h : 16 ≤ x
      · exact h
      · rw [if_neg h] at hx; omega
    have u0 := un _ k0
    have u1 := un _ k1
    have u2 := un _ k2
    have u3 := un _ k3
    have u4 := un _ k4
    omega
  · rintro ⟨k0, k1, k2, k3, k4⟩
    rw [if_pos (by omega), if_pos (by omega), if_pos (by omega), if_pos (by omega), if_pos (by omega)]
/-! sequences of parts that make up a rest -/
def bh_ct (r p : Nat) : Bool := Nat.ble (bh_dg p 0) (bh_dg r 0) && (Nat.ble (bh_dg p 1) (bh_dg r 1) && (Nat.ble (bh_dg p 2) (bh_dg r 2) && (Nat.ble (bh_dg p 3) (bh_dg r 3) && Nat.ble (bh_dg p 4) (bh_dg r 4))))
def bh_sq (parts : List Nat) : Nat → Nat → List (List Nat)
  | 0, r => if r = 0 then [[]] else []
  | n + 1, r => parts.flatMap fun p => if bh_ct r p then (bh_sq parts n (r - p)).map (p :: ·) else []
/-- a vector of columns: small numbers of the first K columns, nothing in others -/
def bh_ok (K m p : Nat) : Prop := p < 33554432 ∧ (∀ k, k < 5 → bh_dg p k ≤ m) ∧ ∀ k, K ≤ k → k < 5 → bh_dg p k = 0
theorem bh_ct_iff {r p : Nat} : bh_ct r p = true ↔ ∀ k, k < 5 → bh_dg p k ≤ bh_dg r k := by
  rw [bh_all5]; unfold bh_ct; simp only [Bool.and_eq_true, Nat.ble_eq]
theorem bh_ok_sub {K m r p : Nat} (hr : bh_ok K m r) (hp : p < 33554432) (h : bh_ct r p = true) : bh_ok K m (r - p) ∧ p ≤ r ∧ ∀ k, k < 5 → bh_dg (r - p) k = bh_dg r k - bh_dg p k := by
  have h2 := bh_dg_sub hr.1 hp (bh_ct_iff.mp h)
  refine ⟨⟨by have := hr.1; omega, fun k hk => ?_, fun k h1 hk => ?_⟩, h2⟩
  · rw [h2.2 k hk]; have := hr.2.1 k hk; omega
  · rw [h2.2 k hk]; have := hr.2.2 k h1 hk; omega
theorem bh_sq_mem {parts : List Nat} (hP : ∀ p, p ∈ parts → p < 33554432) : ∀ (n : Nat) {r : Nat} {l : List Nat}, r < 33554432 → l ∈ bh_sq parts n r → l.length = n ∧ (∀ p, p ∈ l → p ∈ parts) ∧ ∀ k, k < 5 → (l.map fun p => bh_dg p k).sum = bh_dg r k
  | 0, r, l, _, h => by
    unfold bh_sq at h
    by_cases hr : r = 0
    · rw [if_pos hr] at h
      have : l = [] := by simpa using h
      subst this; subst hr; simp [bh_dg_zero]
    · rw [if_neg hr] at h; cases h
  | n + 1, r, l, hr, h => by
    unfold bh_sq at h
    obtain ⟨p, hp, h⟩ := List.mem_flatMap.mp h
    by_cases hc : bh_ct r p = true
    · rw [if_pos hc] at h
      obtain ⟨l', hl', rfl⟩ := List.mem_map.mp h
      have hs := bh_dg_sub hr (hP p hp) (bh_ct_iff.mp hc)
      obtain ⟨h1, h2, h3⟩ := bh_sq_mem hP n (by omega) hl'
      refine ⟨by simp [h1], ?_, ?_⟩
      · intro q hq
        rcases List.mem_cons.mp hq with rfl | hq
        · exact hp
        · exact h2 q hq
      · intro k hk
        have h4 := h3 k hk
        have h5 := bh_ct_iff.mp hc k hk
        have h6 := hs.2 k hk
        rw [List.map_cons, List.sum_cons, h4, h6]
        omega
    · rw [if_neg hc] at h; cases h
/-- what comes behind a place of joined rows -/
theorem bh_fm_cons {α β : Type} (f : α → List β) (a : α) (l : List α) : (a :: l).flatMap f = f a ++ l.flatMap f := by simp
theorem bh_fm_hit {α β : Type} {f : α → List β} {a : α} {l : List α} {i : Nat} (h : i < (f a).length) : ((a :: l).flatMap f)[i]? = (f a)[i]? := by
  rw [bh_fm_cons, List.getElem?_append_left h]
theorem bh_fm_miss {α β : Type} {f : α → List β} {a : α} {l : List α} {i : Nat} (h : (f a).length ≤ i) : ((a :: l).flatMap f)[i]? = (l.flatMap f)[i - (f a).length]? := by
  rw [bh_fm_cons, List.getElem?_append_right h]
/-! sums by number -/
def bh_sm (f : Nat → Nat) : Nat → Nat
  | 0 => 0
  | n + 1 => bh_sm f n + f n
theorem bh_sm_congr {f g : Nat → Nat} : ∀ {n : Nat}, (∀ k, k < n → f k = g k) → bh_sm f n = bh_sm g n
  | 0, _ => rfl
  | n + 1, h => by
    unfold bh_sm
    rw [bh_sm_congr (n := n) (fun k hk => h k (by omega)), h n (by omega)]
theorem bh_sm_mono {f : Nat → Nat} {m : Nat} : ∀ {n : Nat}, m ≤ n → bh_sm f m ≤ bh_sm f n
  | 0, h => by
    have : m = 0 := by omega
    subst this; exact Nat.le_refl _
  | n + 1, h => by
    by_cases hm : m = n + 1
    · subst hm; exact Nat.le_refl _
    · have := bh_sm_mono (f := f) (m := m) (n := n) (by omega)
      show bh_sm f m ≤ bh_sm f n + f n
      omega
theorem bh_sm_le {f : Nat → Nat} {k : Nat} : ∀ {n : Nat}, k < n → f k ≤ bh_sm f n
  | 0, h => absurd h (Nat.not_lt_zero _)
  | n + 1, h => by
    unfold bh_sm
    by_cases hk : k = n
    · subst hk; omega
    · have := bh_sm_le (f := f) (k := k) (n := n) (by omega)
      omega
/-! the parts themselves -/
def bh_al (f : Nat → Bool) : Nat → Bool
  | 0 => true
  | n + 1 => bh_al f n && f n
theorem bh_al_iff {f : Nat → Bool} : ∀ {n : Nat}, bh_al f n = true ↔ ∀ k, k < n → f k = true
  | 0 => ⟨fun _ k hk => absurd hk (Nat.not_lt_zero _), fun _ => rfl⟩
  | n + 1 => by
    unfold bh_al
    rw [Bool.and_eq_true, bh_al_iff (n := n)]
    refine ⟨fun h k hk => ?_, fun h => ⟨fun k hk => h k (by omega), h n (by omega)⟩⟩
    by_cases hkn : k = n
    · subst hkn; exact h.2
    · exact h.1 k (by omega)
def bh_isP (K lo hi S p : Nat) : Bool := bh_al (fun k => Nat.ble lo (bh_dg p k) && Nat.ble (bh_dg p k) hi) K && Nat.beq (bh_sm (bh_dg p) K) S
theorem bh_isP_iff {K lo hi S p : Nat} : bh_isP K lo hi S p = true ↔ (∀ k, k < K → lo ≤ bh_dg p k ∧ bh_dg p k ≤ hi) ∧ bh_sm (bh_dg p) K = S := by
  unfold bh_isP
  rw [Bool.and_eq_true, bh_al_iff, Nat.beq_eq]
  refine and_congr_left fun _ => forall_congr' fun k => imp_congr_right fun _ => ?_
  rw [Bool.and_eq_true, Nat.ble_eq, Nat.ble_eq]
def bh_mxG (R : Nat) : Nat → Nat → Nat → Nat
  | 0, _, a => a
  | c + 1, r, a => bh_mxG R c (r / R) (a + bh_pk c (r % R + 1))
/-- all mixes: K columns, R rows, S numbers in all -/
def bh_mx (K R S : Nat) : List Nat := ((List.range (R ^ K)).map fun c => bh_mxG R K c 0).filter (bh_isP K 1 R S)
def bh_stG (K b : Nat) : Nat := bh_sm (fun k => bh_pk k (b / 2 ^ k % 2)) K
/-- all sets: K columns, E of them -/
def bh_st (K E : Nat) : List Nat := ((List.range (2 ^ K)).map (bh_stG K)).filter (bh_isP K 0 1 E)
theorem bh_mx_len : ∀ K, K < 6 → ∀ R, R < 4 → ∀ E, E < 6 → (bh_mx K R (R * E)).length ≤ 64 := by decide +kernel
theorem bh_st_len : ∀ K, K < 6 → ∀ E, E < 6 → (bh_st K E).length ≤ 64 := by decide +kernel
