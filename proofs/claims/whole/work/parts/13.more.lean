/-! further rows: loops, cases, library calls -/
theorem fz0 : ((0 : Fin 4) : Nat) = 0 := rfl
theorem fz1 : ((1 : Fin 4) : Nat) = 1 := rfl
theorem fz2 : ((2 : Fin 4) : Nat) = 2 := rfl
theorem fz3 : ((3 : Fin 4) : Nat) = 3 := rfl
theorem fy0 : Int64.ofNat ((0 : Fin 2) : Nat) = 0 := rfl
theorem fy1 : Int64.ofNat ((1 : Fin 2) : Nat) = 1 := rfl
theorem p0_14 {a j : Nat} (h : SHk a = 14) : P0 a j = a + 1 + j := by unfold P0; rw [h, if_neg (by decide), if_neg (by decide)]
theorem p0_15 {a j : Nat} (h : SHk a = 15) : P0 a j = a + 1 + j := by unfold P0; rw [h, if_neg (by decide), if_neg (by decide)]
theorem p0_16 {a j : Nat} (h : SHk a = 16) : P0 a j = 120 + 22 * j := by unfold P0; rw [h, if_neg (by decide), if_pos rfl]
def FU : Nat := 100000
def jmax (x y : Int32) : Int32 := if x < y then y else x
def jmin (x y : Int32) : Int32 := if y < x then y else x
def SLEN (w : Nat) : Nat := slen.getD w 0
def SCH (w i : Nat) : Int32 := (sbyt.getD w []).getD i 0
def acp (sp dp n : Int32) (n0 n1 : Nat) : Bool := decide (¬ sp < 0) && (decide (¬ dp < 0) && (decide (¬ n < 0) && (decide (sp.toNatClampNeg + n.toNatClampNeg ≤ n0) && decide (dp.toNatClampNeg + n.toNatClampNeg ≤ n1))))

def wl0 {V : Type} : Nat → (GM → (GM → Option V) → Option V) → GM → Option V
  | 0, _, _ => none
  | n + 1, b, G => b G (wl0 n b)
theorem wl0_ind {V : Type} {b : GM → (GM → Option V) → Option V} {v : V} {R : GM → Prop → Prop} (h0 : ∀ G φ, ¬ φ → R G φ) (hb : ∀ kc : GM → Option V, (∀ G, R G (kc G = some v)) → ∀ G, R G (b G kc = some v)) : ∀ (n : Nat) (G : GM), R G (wl0 n b G = some v)
  | 0, G => h0 G _ (fun h => by cases h)
  | n + 1, G => hb _ (wl0_ind h0 hb n) G
def wl1 {t0 V : Type} : Nat → (t0 → GM → (t0 → GM → Option V) → Option V) → t0 → GM → Option V
  | 0, _, _, _ => none
  | n + 1, b, x0, G => b x0 G (wl1 n b)
theorem wl1_ind {t0 V : Type} {b : t0 → GM → (t0 → GM → Option V) → Option V} {v : V} {R : t0 → GM → Prop → Prop} (h0 : ∀ x0 G φ, ¬ φ → R x0 G φ) (hb : ∀ kc : t0 → GM → Option V, (∀ x0 G, R x0 G (kc x0 G = some v)) → ∀ x0 G, R x0 G (b x0 G kc = some v)) : ∀ (n : Nat) (x0 : t0) (G : GM), R x0 G (wl1 n b x0 G = some v)
  | 0, x0, G => h0 x0 G _ (fun h => by cases h)
  | n + 1, x0, G => hb _ (wl1_ind h0 hb n) x0 G
def wl2 {t0 t1 V : Type} : Nat → (t0 → t1 → GM → (t0 → t1 → GM → Option V) → Option V) → t0 → t1 → GM → Option V
  | 0, _, _, _, _ => none
  | n + 1, b, x0, x1, G => b x0 x1 G (wl2 n b)
theorem wl2_ind {t0 t1 V : Type} {b : t0 → t1 → GM → (t0 → t1 → GM → Option V) → Option V} {v : V} {R : t0 → t1 → GM → Prop → Prop} (h0 : ∀ x0 x1 G φ, ¬ φ → R x0 x1 G φ) (hb : ∀ kc : t0 → t1 → GM → Option V, (∀ x0 x1 G, R x0 x1 G (kc x0 x1 G = some v)) → ∀ x0 x1 G, R x0 x1 G (b x0 x1 G kc = some v)) : ∀ (n : Nat) (x0 : t0) (x1 : t1) (G : GM), R x0 x1 G (wl2 n b x0 x1 G = some v)
  | 0, x0, x1, G => h0 x0 x1 G _ (fun h => by cases h)
  | n + 1, x0, x1, G => hb _ (wl2_ind h0 hb n) x0 x1 G
def wl3 {t0 t1 t2 V : Type} : Nat → (t0 → t1 → t2 → GM → (t0 → t1 → t2 → GM → Option V) → Option V) → t0 → t1 → t2 → GM → Option V
  | 0, _, _, _, _, _ => none
  | n + 1, b, x0, x1, x2, G => b x0 x1 x2 G (wl3 n b)
theorem wl3_ind {t0 t1 t2 V : Type} {b : t0 → t1 → t2 → GM → (t0 → t1 → t2 → GM → Option V) → Option V} {v : V} {R : t0 → t1 → t2 → GM → Prop → Prop} (h0 : ∀ x0 x1 x2 G φ, ¬ φ → R x0 x1 x2 G φ) (hb : ∀ kc : t0 → t1 → t2 → GM → Option V, (∀ x0 x1 x2 G, R x0 x1 x2 G (kc x0 x1 x2 G = some v)) → ∀ x0 x1 x2 G, R x0 x1 x2 G (b x0 x1 x2 G kc = some v)) : ∀ (n : Nat) (x0 : t0) (x1 : t1) (x2 : t2) (G : GM), R x0 x1 x2 G (wl3 n b x0 x1 x2 G = some v)
  | 0, x0, x1, x2, G => h0 x0 x1 x2 G _ (fun h => by cases h)
  | n + 1, x0, x1, x2, G => hb _ (wl3_ind h0 hb n) x0 x1 x2 G
def wl4 {t0 t1 t2 t3 V : Type} : Nat → (t0 → t1 → t2 → t3 → GM → (t0 → t1 → t2 → t3 → GM → Option V) → Option V) → t0 → t1 → t2 → t3 → GM → Option V
  | 0, _, _, _, _, _, _ => none
  | n + 1, b, x0, x1, x2, x3, G => b x0 x1 x2 x3 G (wl4 n b)
theorem wl4_ind {t0 t1 t2 t3 V : Type} {b : t0 → t1 → t2 → t3 → GM → (t0 → t1 → t2 → t3 → GM → Option V) → Option V} {v : V} {R : t0 → t1 → t2 → t3 → GM → Prop → Prop} (h0 : ∀ x0 x1 x2 x3 G φ, ¬ φ → R x0 x1 x2 x3 G φ) (hb : ∀ kc : t0 → t1 → t2 → t3 → GM → Option V, (∀ x0 x1 x2 x3 G, R x0 x1 x2 x3 G (kc x0 x1 x2 x3 G = some v)) → ∀ x0 x1 x2 x3 G, R x0 x1 x2 x3 G (b x0 x1 x2 x3 G kc = some v)) : ∀ (n : Nat) (x0 : t0) (x1 : t1) (x2 : t2) (x3 : t3) (G : GM), R x0 x1 x2 x3 G (wl4 n b x0 x1 x2 x3 G = some v)
  | 0, x0, x1, x2, x3, G => h0 x0 x1 x2 x3 G _ (fun h => by cases h)
  | n + 1, x0, x1, x2, x3, G => hb _ (wl4_ind h0 hb n) x0 x1 x2 x3 G
def wl5 {t0 t1 t2 t3 t4 V : Type} : Nat → (t0 → t1 → t2 → t3 → t4 → GM → (t0 → t1 → t2 → t3 → t4 → GM → Option V) → Option V) → t0 → t1 → t2 → t3 → t4 → GM → Option V
  | 0, _, _, _, _, _, _, _ => none
  | n + 1, b, x0, x1, x2, x3, x4, G => b x0 x1 x2 x3 x4 G (wl5 n b)
theorem wl5_ind {t0 t1 t2 t3 t4 V : Type} {b : t0 → t1 → t2 → t3 → t4 → GM → (t0 → t1 → t2 → t3 → t4 → GM → Option V) → Option V} {v : V} {R : t0 → t1 → t2 → t3 → t4 → GM → Prop → Prop} (h0 : ∀ x0 x1 x2 x3 x4 G φ, ¬ φ → R x0 x1 x2 x3 x4 G φ) (hb : ∀ kc : t0 → t1 → t2 → t3 → t4 → GM → Option V, (∀ x0 x1 x2 x3 x4 G, R x0 x1 x2 x3 x4 G (kc x0 x1 x2 x3 x4 G = some v)) → ∀ x0 x1 x2 x3 x4 G, R x0 x1 x2 x3 x4 G (b x0 x1 x2 x3 x4 G kc = some v)) : ∀ (n : Nat) (x0 : t0) (x1 : t1) (x2 : t2) (x3 : t3) (x4 : t4) (G : GM), R x0 x1 x2 x3 x4 G (wl5 n b x0 x1 x2 x3 x4 G = some v)
  | 0, x0, x1, x2, x3, x4, G => h0 x0 x1 x2 x3 x4 G _ (fun h => by cases h)
  | n + 1, x0, x1, x2, x3, x4, G => hb _ (wl5_ind h0 hb n) x0 x1 x2 x3 x4 G
def wl6 {t0 t1 t2 t3 t4 t5 V : Type} : Nat → (t0 → t1 → t2 → t3 → t4 → t5 → GM → (t0 → t1 → t2 → t3 → t4 → t5 → GM → Option V) → Option V) → t0 → t1 → t2 → t3 → t4 → t5 → GM → Option V
  | 0, _, _, _, _, _, _, _, _ => none
  | n + 1, b, x0, x1, x2, x3, x4, x5, G => b x0 x1 x2 x3 x4 x5 G (wl6 n b)
theorem wl6_ind {t0 t1 t2 t3 t4 t5 V : Type} {b : t0 → t1 → t2 → t3 → t4 → t5 → GM → (t0 → t1 → t2 → t3 → t4 → t5 → GM → Option V) → Option V} {v : V} {R : t0 → t1 → t2 → t3 → t4 → t5 → GM → Prop → Prop} (h0 : ∀ x0 x1 x2 x3 x4 x5 G φ, ¬ φ → R x0 x1 x2 x3 x4 x5 G φ) (hb : ∀ kc : t0 → t1 → t2 → t3 → t4 → t5 → GM → Option V, (∀ x0 x1 x2 x3 x4 x5 G, R x0 x1 x2 x3 x4 x5 G (kc x0 x1 x2 x3 x4 x5 G = some v)) → ∀ x0 x1 x2 x3 x4 x5 G, R x0 x1 x2 x3 x4 x5 G (b x0 x1 x2 x3 x4 x5 G kc = some v)) : ∀ (n : Nat) (x0 : t0) (x1 : t1) (x2 : t2) (x3 : t3) (x4 : t4) (x5 : t5) (G : GM), R x0 x1 x2 x3 x4 x5 G (wl6 n b x0 x1 x2 x3 x4 x5 G = some v)
  | 0, x0, x1, x2, x3, x4, x5, G => h0 x0 x1 x2 x3 x4 x5 G _ (fun h => by cases h)
  | n + 1, x0, x1, x2, x3, x4, x5, G => hb _ (wl6_ind h0 hb n) x0 x1 x2 x3 x4 x5 G
def wl7 {t0 t1 t2 t3 t4 t5 t6 V : Type} : Nat → (t0 → t1 → t2 → t3 → t4 → t5 → t6 → GM → (t0 → t1 → t2 → t3 → t4 → t5 → t6 → GM → Option V) → Option V) → t0 → t1 → t2 → t3 → t4 → t5 → t6 → GM → Option V
  | 0, _, _, _, _, _, _, _, _, _ => none
  | n + 1, b, x0, x1, x2, x3, x4, x5, x6, G => b x0 x1 x2 x3 x4 x5 x6 G (wl7 n b)
theorem wl7_ind {t0 t1 t2 t3 t4 t5 t6 V : Type} {b : t0 → t1 → t2 → t3 → t4 → t5 → t6 → GM → (t0 → t1 → t2 → t3 → t4 → t5 → t6 → GM → Option V) → Option V} {v : V} {R : t0 → t1 → t2 → t3 → t4 → t5 → t6 → GM → Prop → Prop} (h0 : ∀ x0 x1 x2 x3 x4 x5 x6 G φ, ¬ φ → R x0 x1 x2 x3 x4 x5 x6 G φ) (hb : ∀ kc : t0 → t1 → t2 → t3 → t4 → t5 → t6 → GM → Option V, (∀ x0 x1 x2 x3 x4 x5 x6 G, R x0 x1 x2 x3 x4 x5 x6 G (kc x0 x1 x2 x3 x4 x5 x6 G = some v)) → ∀ x0 x1 x2 x3 x4 x5 x6 G, R x0 x1 x2 x3 x4 x5 x6 G (b x0 x1 x2 x3 x4 x5 x6 G kc = some v)) : ∀ (n : Nat) (x0 : t0) (x1 : t1) (x2 : t2) (x3 : t3) (x4 : t4) (x5 : t5) (x6 : t6) (G : GM), R x0 x1 x2 x3 x4 x5 x6 G (wl7 n b x0 x1 x2 x3 x4 x5 x6 G = some v)
  | 0, x0, x1, x2, x3, x4, x5, x6, G => h0 x0 x1 x2 x3 x4 x5 x6 G _ (fun h => by cases h)
  | n + 1, x0, x1, x2, x3, x4, x5, x6, G => hb _ (wl7_ind h0 hb n) x0 x1 x2 x3 x4 x5 x6 G
section JM
variable {X : CX} {Y : DX} {own : String} {cc : ByteArray} {nL d pc tgt index : Nat} {off : Int} {Q : State → Prop} {lv lv' : List (Nat × Value)} {st : List Value} {G : GM} {φ : Prop} {α : Type} {v : α} {p q : Option α}
theorem J_no (h : ¬ φ) : J X Y nL Q pc lv st G φ := fun hφ => absurd hφ h
theorem J_case {c : Prop} [Decidable c] (k1 : c → J X Y nL Q pc lv st G (p = some v)) (k2 : ¬ c → J X Y nL Q pc lv st G (q = some v)) : J X Y nL Q pc lv st G ((if c then p else q) = some v) := by
  intro hφ
  by_cases hc : c
  · rw [if_pos hc] at hφ; exact k1 hc hφ
  · rw [if_neg hc] at hφ; exact k2 hc hφ
theorem J_tswIn {dflt lo hi : Int} {offs : Array Int} {len : Nat} {x : Int32} (hX : CXok X Y own cc nL d) (hd : decode cc pc = .ok (.tableswitch dflt lo hi offs, len)) (h1 : ¬ x.toInt < lo) (h2 : ¬ hi < x.toInt) (ho : offs[(x.toInt - lo).toNat]? = some off) (ht : (pc : Int) + off = (tgt : Int)) (k : J X Y nL Q tgt lv st G φ) : J X Y nL Q pc lv (.int x :: st) G φ := fun hφ hw H locs ls hP hS hl => lv_tableIn hX.1 hX.2.1 hd h1 h2 ho ht (k hφ hw H locs ls hP hS hl)
theorem J_tswOut {dflt lo hi : Int} {offs : Array Int} {len : Nat} {x : Int32} (hX : CXok X Y own cc nL d) (hd : decode cc pc = .ok (.tableswitch dflt lo hi offs, len)) (h : x.toInt < lo ∨ hi < x.toInt) (ht : (pc : Int) + dflt = (tgt : Int)) (k : J X Y nL Q tgt lv st G φ) : J X Y nL Q pc lv (.int x :: st) G φ := fun hφ hw H locs ls hP hS hl => lv_tableOut hX.1 hX.2.1 hd h ht (k hφ hw H locs ls hP hS hl)
theorem ne_toInt {x : Int32} {k : Int32} (h : ¬ x = k) : x.toInt ≠ k.toInt := fun q => h (Int32.toInt_inj.mp q)
theorem J_idivc {x y : Int32} (hX : CXok X Y own cc nL d) (hd : decode cc pc = .ok (.idiv, 1)) (hy : ¬ y = 0) (k : J X Y nL Q (pc + 1) lv (.int (x / y) :: st) G φ) : J X Y nL Q pc lv (.int y :: .int x :: st) G φ := fun hφ hw H locs ls hP hS hl => lv_idiv hX.1 hX.2.1 hd hy (k hφ hw H locs ls hP hS hl)
theorem J_iremc {x y : Int32} (hX : CXok X Y own cc nL d) (hd : decode cc pc = .ok (.irem, 1)) (hy : ¬ y = 0) (k : J X Y nL Q (pc + 1) lv (.int (x - x / y * y) :: st) G φ) : J X Y nL Q pc lv (.int y :: .int x :: st) G φ := fun hφ hw H locs ls hP hS hl => lv_irem hX.1 hX.2.1 hd hy (k hφ hw H locs ls hP hS hl)
theorem J_ldivc {x y : Int64} (hX : CXok X Y own cc nL d) (hd : decode cc pc = .ok (.ldiv, 1)) (hy : ¬ y = 0) (k : J X Y nL Q (pc + 1) lv (.long (x / y) :: st) G φ) : J X Y nL Q pc lv (.long y :: .long x :: st) G φ := fun hφ hw H locs ls hP hS hl => lv_ldiv hX.1 hX.2.1 hd hy (k hφ hw H locs ls hP hS hl)
theorem J_lremc {x y : Int64} (hX : CXok X Y own cc nL d) (hd : decode cc pc = .ok (.lrem, 1)) (hy : ¬ y = 0) (k : J X Y nL Q (pc + 1) lv (.long (x - x / y * y) :: st) G φ) : J X Y nL Q pc lv (.long y :: .long x :: st) G φ := fun hφ hw H locs ls hP hS hl => lv_lrem hX.1 hX.2.1 hd hy (k hφ hw H locs ls hP hS hl)
theorem J_lushr {x : Int64} {y : Int32} {z : Int64} (hX : CXok X Y own cc nL d) (hd : decode cc pc = .ok (.lushr, 1)) (hz : (x.toUInt64 >>> (y.toInt64 &&& 63).toUInt64).toInt64 = z) (k : J X Y nL Q (pc + 1) lv (.long z :: st) G φ) : J X Y nL Q pc lv (.int y :: .long x :: st) G φ := fun hφ hw H locs ls hP hS hl => lv_lushr hX.1 hX.2.1 hd hz (k hφ hw H locs ls hP hS hl)
theorem J_pop {x : Value} (hX : CXok X Y own cc nL d) (hd : decode cc pc = .ok (.pop, 1)) (hc : x.category = 1) (k : J X Y nL Q (pc + 1) lv st G φ) : J X Y nL Q pc lv (x :: st) G φ := fun hφ hw H locs ls hP hS hl => lv_pop hX.1 hX.2.1 hd hc (k hφ hw H locs ls hP hS hl)
def LMath (own : String) (index : Nat) (y : MethodName) (c : ByteArray) : Prop := Cond.methodLink own index y ∈ lw_good ∧ Cond.static y ∈ lw_good ∧ Cond.initialized "java/lang/Math" ∈ lw_good ∧ Cond.code y c 2 (some .int) ∈ lw_good
theorem J_mmax {x y : Int32} (hX : CXok X Y own cc nL d) (hd : decode cc pc = .ok (.invokestatic index, 3)) (hL : LMath own index Lib.Math.max.name Lib.Math.max.code) (h1 : 1 ≤ d) (hcat : (st.map fun v => v.category).sum ≤ 8) (k : J X Y nL Q (pc + 3) lv (.int (jmax x y) :: st) G φ) : J X Y nL Q pc lv (.int y :: .int x :: st) G φ := fun hφ hw H locs ls hP hS hl => by
  obtain ⟨hr1, hr2, hr3, hr4⟩ := hX.2.2.2.2.2.2.2.2.2
  have hts := hX.2.2.2.2.1
  exact va_mmax hX.1 hX.2.1 (hX.2.2.1.trans hl.1.symm) hX.2.2.2.1 (hts _ hL.1) (hts _ hL.2.1) (hts _ hL.2.2.1) (hts _ hL.2.2.2) (by omega) (by omega) hr3 hr4 hd (k hφ hw H locs ls hP hS hl)
theorem J_mmin {x y : Int32} (hX : CXok X Y own cc nL d) (hd : decode cc pc = .ok (.invokestatic index, 3)) (hL : LMath own index Lib.Math.min.name Lib.Math.min.code) (h1 : 1 ≤ d) (hcat : (st.map fun v => v.category).sum ≤ 8) (k : J X Y nL Q (pc + 3) lv (.int (jmin x y) :: st) G φ) : J X Y nL Q pc lv (.int y :: .int x :: st) G φ := fun hφ hw H locs ls hP hS hl => by
  obtain ⟨hr1, hr2, hr3, hr4⟩ := hX.2.2.2.2.2.2.2.2.2
  have hts := hX.2.2.2.2.1
  exact va_mmin hX.1 hX.2.1 (hX.2.2.1.trans hl.1.symm) hX.2.2.2.1 (hts _ hL.1) (hts _ hL.2.1) (hts _ hL.2.2.1) (hts _ hL.2.2.2) (by omega) (by omega) hr3 hr4 hd (k hφ hw H locs ls hP hS hl)
def LCp (own : String) (index : Nat) : Prop := Cond.methodLink own index arraycopyName ∈ lw_good ∧ Cond.native arraycopyName ∈ lw_good ∧ Cond.static arraycopyName ∈ lw_good ∧ Cond.initialized "java/lang/System" ∈ lw_good
theorem nfw : nativeFrameWords "java/lang/System" "arraycopy" 5 + 11 ≤ 100 := by decide +kernel
theorem acp_of {sp dp n : Int32} {n0 n1 : Nat} (h : acp sp dp n n0 n1 = true) : ¬ sp < 0 ∧ ¬ dp < 0 ∧ ¬ n < 0 ∧ sp.toNatClampNeg + n.toNatClampNeg ≤ n0 ∧ dp.toNatClampNeg + n.toNatClampNeg ≤ n1 := by
  simpa only [acp, Bool.and_eq_true, decide_eq_true_eq] using h
theorem J_cpI {a b n0 n1 : Nat} {sp dp n : Int32} {f : GM → Option α} (hX : CXok X Y own cc nL d) (hd : decode cc pc = .ok (.invokestatic index, 3)) (hL : LCp own index) (h1 : 1 ≤ d) (hcat : (st.map fun v => v.category).sum ≤ 8) (ha : SHk a = 10) (hb : SHk b = 10) (hn0 : LN a = n0) (hn1 : LN b = n1) (k : ∀ G1, J X Y nL Q (pc + 3) lv st G1 (f G1 = some v)) : J X Y nL Q pc lv (.int n :: .int dp :: .ref (AD Y b) :: .int sp :: .ref (AD Y a) :: st) G (gd (acp sp dp n n0 n1) (lt (cpI G a sp.toNatClampNeg b dp.toNatClampNeg n.toNatClampNeg) f) = some v) := fun hφ hw H locs ls hP hS hl => by
  obtain ⟨hr1, hr2, hr3, hr4⟩ := hX.2.2.2.2.2.2.2.2.2
  have hts := hX.2.2.2.2.1
  obtain ⟨g1, g2⟩ := gd_some hφ
  subst hn0; subst hn1
  obtain ⟨q1, q2, q3, q4, q5⟩ := acp_of g1
  have h7 := nfw
  refine va_copyi (n0 := LN a) (n1 := LN b) (f := G.1 a) (g := G.1 b) hX.1 hX.2.1 (hX.2.2.1.trans hl.1.symm) hX.2.2.2.1 (hts _ hL.1) (hts _ hL.2.1) (hts _ hL.2.2.1) (hts _ hL.2.2.2) hX.2.2.2.2.2.1 hP (wc_D hX.2.2.2.2.2.2.1 G) hS a b 0 0 (by rw [wc_get (sh_lt ha (by omega)), co_int ha (by omega)]) (by rw [wc_get (sh_lt hb (by omega)), co_int hb (by omega)]) rfl rfl rfl q1 q2 q3 q4 q5 (fun i hi => rfl) (by omega) (by omega) hd (fun H1 locs1 hP1 _ hS1 => ?_)
  rw [set_cI hb] at hP1
  exact k _ g2 hw H1 locs1 ls hP1 hS1 hl
theorem J_cpJ {a b n0 n1 : Nat} {sp dp n : Int32} {f : GM → Option α} (hX : CXok X Y own cc nL d) (hd : decode cc pc = .ok (.invokestatic index, 3)) (hL : LCp own index) (h1 : 1 ≤ d) (hcat : (st.map fun v => v.category).sum ≤ 8) (ha : SHk a = 12) (hb : SHk b = 12) (hn0 : LN a = n0) (hn1 : LN b = n1) (k : ∀ G1, J X Y nL Q (pc + 3) lv st G1 (f G1 = some v)) : J X Y nL Q pc lv (.int n :: .int dp :: .ref (AD Y b) :: .int sp :: .ref (AD Y a) :: st) G (gd (acp sp dp n n0 n1) (lt (cpJ G a sp.toNatClampNeg b dp.toNatClampNeg n.toNatClampNeg) f) = some v) := fun hφ hw H locs ls hP hS hl => by
  obtain ⟨hr1, hr2, hr3, hr4⟩ := hX.2.2.2.2.2.2.2.2.2
  have hts := hX.2.2.2.2.1
  obtain ⟨g1, g2⟩ := gd_some hφ
  subst hn0; subst hn1
  obtain ⟨q1, q2, q3, q4, q5⟩ := acp_of g1
  have h7 := nfw
  refine va_copyl (n0 := LN a) (n1 := LN b) (f := G.2.1 a) (g := G.2.1 b) hX.1 hX.2.1 (hX.2.2.1.trans hl.1.symm) hX.2.2.2.1 (hts _ hL.1) (hts _ hL.2.1) (hts _ hL.2.2.1) (hts _ hL.2.2.2) hX.2.2.2.2.2.1 hP (wc_D hX.2.2.2.2.2.2.1 G) hS a b 2 2 (by rw [wc_get (sh_lt ha (by omega)), co_long ha]) (by rw [wc_get (sh_lt hb (by omega)), co_long hb]) rfl rfl rfl q1 q2 q3 q4 q5 (fun i hi => rfl) (by omega) (by omega) hd (fun H1 locs1 hP1 _ hS1 => ?_)
  rw [set_cJ hb] at hP1
  exact k _ g2 hw H1 locs1 ls hP1 hS1 hl
end JM

