/-! BASE: a typed memory, its picture of the heap, the judgement J and its rows (begun from the kit's EXAMPLE.claim) -/
def lw_good : List Cond := lw_tbl.filter goodWord
def nestWord : Cond → Bool
  | .fieldLinkNest .. => true
  | .methodLinkNest .. => true
  | _ => false
def lw_nest : List Cond := lw_tbl.filter nestWord
theorem mg {w : Cond} (i : Nat) (h : lw_tbl[i]? = some w) (hg : goodWord w = true) : w ∈ lw_good := List.mem_filter.mpr ⟨List.mem_of_getElem? h, hg⟩
theorem mn {w : Cond} (i : Nat) (h : lw_tbl[i]? = some w) (hg : nestWord w = true) : w ∈ lw_nest := List.mem_filter.mpr ⟨List.mem_of_getElem? h, hg⟩
theorem good_w {w : Cond} (h : w ∈ lw_good) : goodWord w = true := (List.mem_filter.mp h).2
theorem nest_warm {w : Cond} {s U : State} (hn : w ∈ lw_nest) (hW : s.WarmedH U.vm) (h : va_Nw w s) : va_Nw w U := by
  have h1 := (List.mem_filter.mp hn).2
  cases w <;> first | (cases h1; done) | exact va_Nw.warmF hW h | exact va_Nw.warmM hW h
theorem nest_same {w : Cond} {u U : State} (hn : w ∈ lw_nest) (hv : U.vm = u.vm) (h : va_Nw w u) : va_Nw w U := by
  have h1 := (List.mem_filter.mp hn).2
  cases w <;> first | (cases h1; done) | exact va_Nw.same rfl hv.symm h

def NC : Nat := 213
def TBt : List (Nat × Nat) := [(8, 0), (4, 0), (3, 0), (10, 5), (10, 5), (5, 0), (10, 64), (10, 64), (5, 0), (10, 64), (10, 3), (10, 8), (14, 8), (10, 45), (10, 45), (10, 45), (10, 45), (10, 45), (10, 45), (10, 45), (10, 45), (10, 45), (10, 46), (4, 0), (3, 0), (10, 5), (10, 5), (5, 0), (10, 64), (10, 64), (5, 0), (10, 64), (10, 3), (10, 8), (14, 8), (10, 45), (10, 45), (10, 45), (10, 45), (10, 45), (10, 45), (10, 45), (10, 45), (10, 45), (10, 46), (16, 3), (13, 3), (1, 0), (2, 0), (10, 3), (10, 9), (10, 15), (10, 3), (6, 0), (11, 800), (1, 0), (2, 0), (10, 3), (10, 9), (10, 15), (10, 3), (10, 45), (7, 0), (15, 4), (12, 60), (12, 60), (12, 60), (12, 60), (10, 4), (10, 4), (13, 4), (0, 0), (10, 15), (10, 3), (10, 45), (10, 45), (14, 40), (10, 45), (10, 45), (10, 45), (10, 45), (10, 45), (10, 45), (10, 45), (10, 45), (10, 45), (10, 45), (10, 45), (10, 45), (10, 45), (10, 45), (10, 45), (10, 45), (10, 45), (10, 45), (10, 45), (10, 45), (10, 45), (10, 45), (10, 45), (10, 45), (10, 45), (10, 45), (10, 45), (10, 45), (10, 45), (10, 45), (10, 45), (10, 45), (10, 45), (10, 45), (10, 45), (10, 45), (10, 45), (10, 45), (10, 45), (10, 45), (10, 40), (10, 45), (10, 46), (4, 0), (3, 0), (10, 5), (10, 5), (5, 0), (10, 64), (10, 64), (5, 0), (10, 64), (10, 3), (10, 8), (14, 8), (10, 45), (10, 45), (10, 45), (10, 45), (10, 45), (10, 45), (10, 45), (10, 45), (10, 45), (10, 46), (4, 0), (3, 0), (10, 5), (10, 5), (5, 0), (10, 64), (10, 64), (5, 0), (10, 64), (10, 3), (10, 8), (14, 8), (10, 45), (10, 45), (10, 45), (10, 45), (10, 45), (10, 45), (10, 45), (10, 45), (10, 45), (10, 46), (4, 0), (3, 0), (10, 5), (10, 5), (5, 0), (10, 64), (10, 64), (5, 0), (10, 64), (10, 3), (10, 8), (14, 8), (10, 45), (10, 45), (10, 45), (10, 45), (10, 45), (10, 45), (10, 45), (10, 45), (10, 45), (10, 46), (9, 0), (10, 4), (10, 4), (12, 240), (12, 60), (11, 800), (10, 6), (10, 48), (10, 30), (10, 18), (10, 48), (10, 270), (13, 3), (10, 15), (10, 15), (10, 5), (10, 5), (10, 3), (10, 3), (10, 45), (10, 90), (10, 9), (10, 3), (10, 24), (10, 1800), (10, 40), (10, 368)]
def SHk (a : Nat) : Nat := (TBt.getD a (99, 0)).1
def LN (a : Nat) : Nat := (TBt.getD a (99, 0)).2
def NFt : List Nat := [5, 5, 1, 12, 10, 6, 11, 4, 14, 45]
def NF (k : Nat) : Nat := NFt.getD k 0
def FTt : List (List Nat) := [[0, 0, 0, 2, 2], [2, 2, 2, 2, 2], [1], [0, 0, 0, 0, 2, 2, 0, 0, 0, 2, 2, 2], [2, 0, 2, 0, 0, 0, 2, 2, 2, 2], [2, 0, 0, 0, 0, 0], [2, 0, 2, 2, 0, 0, 0, 0, 0, 0, 0], [2, 2, 2, 2], [2, 2, 2, 2, 2, 2, 2, 2, 2, 2, 2, 2, 2, 2], [0, 2, 2, 2, 2, 2, 0, 0, 0, 0, 0, 1, 0, 0, 0, 0, 2, 2, 2, 2, 2, 2, 2, 2, 2, 2, 0, 0, 2, 2, 2, 0, 0, 1, 2, 2, 0, 2, 2, 2, 0, 0, 2, 2, 2]]
def FTy (k j : Nat) : Nat := (FTt.getD k []).getD j 9
def OFt : List (List Nat) := [[0, 0, 0, 1, 2], [1, 2, 3, 4, 5], [0], [0, 0, 0, 0, 1, 2, 0, 0, 0, 3, 5, 6], [1, 0, 9, 0, 0, 0, 10, 11, 20, 21], [1, 0, 0, 0, 0, 0], [1, 0, 2, 8, 0, 0, 0, 0, 0, 0, 0], [1, 6, 7, 8], [0, 0, 45, 46, 47, 53, 62, 71, 74, 75, 76, 117, 118, 119], [0, 1, 2, 3, 4, 5, 0, 0, 0, 0, 0, 0, 0, 0, 0, 0, 6, 7, 8, 9, 10, 11, 12, 13, 14, 15, 0, 0, 16, 17, 18, 0, 0, 0, 19, 20, 0, 21, 22, 23, 0, 0, 24, 25, 26]]
def OFF (k j : Nat) : Nat := (OFt.getD k []).getD j 0
def P0 (a j : Nat) : Nat := if SHk a < 10 then a + OFF (SHk a) j else if SHk a = 16 then 120 + 22 * j else a + 1 + j
abbrev cls : List vw_C := [(RX0, TX0, 5), (RX2, TX2, 5), (RX3, TX3, 1), (RX4, TX4, 12), (RX5, TX5, 10), (RX6, TX6, 6), (RX7, TX7, 11), (RX8, TX8, 4), (RX9, TX9, 14), (RX10, TX10, 45)]
theorem inG0 : ∀ w ∈ u_ws RX0 TX0 5, w ∈ lw_good := by decide +kernel
theorem inG1 : ∀ w ∈ u_ws RX2 TX2 5, w ∈ lw_good := by decide +kernel
theorem inG2 : ∀ w ∈ u_ws RX3 TX3 1, w ∈ lw_good := by decide +kernel
theorem inG3 : ∀ w ∈ u_ws RX4 TX4 12, w ∈ lw_good := by decide +kernel
theorem inG4 : ∀ w ∈ u_ws RX5 TX5 10, w ∈ lw_good := by decide +kernel
theorem inG5 : ∀ w ∈ u_ws RX6 TX6 6, w ∈ lw_good := by decide +kernel
theorem inG6 : ∀ w ∈ u_ws RX7 TX7 11, w ∈ lw_good := by decide +kernel
theorem inG7 : ∀ w ∈ u_ws RX8 TX8 4, w ∈ lw_good := by decide +kernel
theorem inG8 : ∀ w ∈ u_ws RX9 TX9 14, w ∈ lw_good := by decide +kernel
theorem inG9 : ∀ w ∈ u_ws RX10 TX10 45, w ∈ lw_good := by decide +kernel
def NS : Nat := 13
def slen : List Nat := [4, 5, 4, 4, 7, 5, 3, 5, 3, 7, 2, 4, 6]
def sbyt : List (List Int32) := [[104, 97, 108, 108], [99, 97, 114, 100, 115], [114, 111, 119, 115], [101, 97, 99, 104], [99, 111, 108, 117, 109, 110, 115], [112, 114, 105, 122, 101], [116, 119, 111], [104, 111, 117, 115, 101], [114, 111, 119], [106, 97, 99, 107, 112, 111, 116], [98, 121], [115, 111, 108, 100], [99, 97, 108, 108, 101, 114]]
def sIdx : List (Nat × String) := [(59, "hall"), (110, "cards"), (116, "rows"), (120, "each"), (124, "columns"), (80, "prize"), (145, "two"), (147, "house"), (149, "row"), (86, "jackpot"), (157, "by"), (91, "sold"), (96, "caller")]

abbrev GM : Type := (Nat → Nat → Int32) × (Nat → Nat → Int64) × Nat × Nat
def up2 {α : Type} (f : Nat → Nat → α) (a k : Nat) (v : α) : Nat → Nat → α := fun a' k' => if a' = a then (if k' = k then v else f a' k') else f a' k'
def gI (G : GM) (a k : Nat) : Int32 := G.1 a k
def gJ (G : GM) (a k : Nat) : Int64 := G.2.1 a k
def nw (G : GM) : Nat := G.2.2.1
def nx (G : GM) : Nat := G.2.2.2
def sI (G : GM) (a k : Nat) (v : Int32) : GM := (up2 G.1 a k v, G.2)
def sJ (G : GM) (a k : Nat) (v : Int64) : GM := (G.1, up2 G.2.1 a k v, G.2.2)
def sNw (G : GM) (b : Nat) : GM := (G.1, G.2.1, b, G.2.2.2)
def sNx (G : GM) (b : Nat) : GM := (G.1, G.2.1, G.2.2.1, b)
def cp2 {α : Type} (f : Nat → Nat → α) (a i b j n : Nat) : Nat → Nat → α := fun a' => if a' = b then va_cpy (f a) (f b) i j n else f a'
def cpI (G : GM) (a i b j n : Nat) : GM := (cp2 G.1 a i b j n, G.2)
def cpJ (G : GM) (a i b j n : Nat) : GM := (G.1, cp2 G.2.1 a i b j n, G.2.2)
def WF (G : GM) : Prop := SHk (nw G) = 4 ∧ SHk (nx G) = 4
abbrev DX : Type := va_G × (Nat → ClassId) × (Nat → Nat) × (Nat → Nat) × (Nat → Nat)
def AD (Y : DX) (a : Nat) : Nat := Y.2.2.1 a
def yk (Y : DX) (a : Nat) : Nat := Y.2.2.2.1 a
def ptr (G : GM) (a j : Nat) : Nat := if a = 0 then (if j = 0 then nw G else if j = 1 then nx G else P0 a j) else P0 a j
def fv (Y : DX) (G : GM) (a j : Nat) : Value := if FTy (SHk a) j = 0 then .int (gI G a j) else if FTy (SHk a) j = 1 then .long (gJ G a j) else .ref (AD Y (ptr G a j))
def cellOf (Y : DX) (G : GM) (a : Nat) : va_E :=
  if SHk a < 10 then .inr (SHk a, (List.range (NF (SHk a))).map (fv Y G a))
  else if SHk a = 12 then .inl (Y.2.1 12, LN a, .inr (.inl (G.2.1 a)))
  else if SHk a < 14 then .inl (Y.2.1 (SHk a), LN a, .inl (G.1 a))
  else .inl (Y.2.1 (SHk a), LN a, .inr (.inr (.inr (.inr fun j => some (AD Y (P0 a j))))))
def wcells (Y : DX) (G : GM) : va_W := (List.range NC).map fun a => (AD Y a, cellOf Y G a)
def AY (Y : DX) (q : Nat) : Prop := ∃ a, a < NC ∧ q = AD Y a
def yI (Y : DX) : Prop := ∀ a b, a < NC → b < NC → AD Y a = AD Y b → a = b
def tysY (Y : DX) : List (ClassId × FieldType) := [(Y.2.1 10, .int), (Y.2.1 11, .byte), (Y.2.1 12, .long), (Y.2.1 13, .boolean), (Y.2.1 14, .array .int), (Y.2.1 15, .array .long), (Y.2.1 16, .object "BingoHall$Hall")]
def Strs (Y : DX) (U : State) (H : Heap) : Prop := vk_S NS slen sbyt (yk Y) Y.2.2.2.2 (AY Y) U H ∧ (∀ k q, sIdx[k]? = some q → vk_R RX7 q.1 q.2 (yk Y k) U) ∧ va_Z "java/lang/String" "COMPACT_STRINGS" "Z" (.int 1) (AY Y) U H ∧ va_Zq "jdk/internal/util/Preconditions" "SIOOBE_FORMATTER" "Ljava/util/function/BiFunction;" (AY Y) U H
def RelU (Y : DX) (G : GM) (U : State) : Prop := va_P Y.1 cls (wcells Y G) U.heap ∧ va_K Y.1 cls (tysY Y) U ∧ yI Y ∧ Strs Y U U.heap ∧ (∀ w ∈ lw_nest, va_Nw w U) ∧ WF G
theorem sh_lt {a k : Nat} (h : SHk a = k) (hk : k < 20) : a < NC := by
  refine Nat.lt_of_not_le fun hn => ?_
  have h1 : TBt.getD a (99, 0) = (99, 0) := by
    have h2 : TBt.length ≤ a := hn
    simp [h2]
  unfold SHk at h
  rw [h1] at h
  omega
theorem wc_get {Y : DX} {G : GM} {a : Nat} (h : a < NC) : (wcells Y G)[a]? = some (AD Y a, cellOf Y G a) := by
  simp [wcells, h]
theorem wc_D {Y : DX} (h : yI Y) (G : GM) : va_D (AY Y) (wcells Y G) := by
  have key : ∀ (k : Nat) (q : Nat × va_E), (wcells Y G)[k]? = some q → k < NC ∧ q.1 = AD Y k := by
    intro k q hq
    have hk : k < NC := by
      have := (List.getElem?_eq_some_iff.mp hq).1
      simpa [wcells] using this
    rw [wc_get hk] at hq
    cases hq
    exact ⟨hk, rfl⟩
  refine ⟨fun i j p q hp hq hpq => ?_, fun k q hq => ?_⟩
  · obtain ⟨h1, h2⟩ := key i p hp
    obtain ⟨h3, h4⟩ := key j q hq
    exact h i j h1 h3 (by rw [← h2, ← h4]; exact hpq)
  · obtain ⟨h1, h2⟩ := key k q hq
    exact ⟨k, h1, h2⟩
theorem co_obj {Y : DX} {G : GM} {a k : Nat} (h : SHk a = k) (hk : k < 10) : cellOf Y G a = .inr (k, (List.range (NF k)).map (fv Y G a)) := by
  subst h; simp [cellOf, hk]
theorem co_int {Y : DX} {G : GM} {a k : Nat} (h : SHk a = k) (hk : k = 10 ∨ k = 11 ∨ k = 13) : cellOf Y G a = .inl (Y.2.1 k, LN a, .inl (G.1 a)) := by
  subst h; rcases hk with hk | hk | hk <;> simp [cellOf, hk]
theorem co_long {Y : DX} {G : GM} {a : Nat} (h : SHk a = 12) : cellOf Y G a = .inl (Y.2.1 12, LN a, .inr (.inl (G.2.1 a))) := by
  simp [cellOf, h]
theorem co_ref {Y : DX} {G : GM} {a k : Nat} (h : SHk a = k) (hk : k = 14 ∨ k = 15 ∨ k = 16) : cellOf Y G a = .inl (Y.2.1 k, LN a, .inr (.inr (.inr (.inr fun j => some (AD Y (P0 a j)))))) := by
  subst h; rcases hk with hk | hk | hk <;> simp [cellOf, hk]
theorem wc_set {Y : DX} {G G' : GM} {a : Nat} {e : va_E} (ha : a < NC) (he : e = cellOf Y G' a) (ho : ∀ b, b ≠ a → cellOf Y G' b = cellOf Y G b) : (wcells Y G).set a (AD Y a, e) = wcells Y G' := by
  apply List.ext_getElem?
  intro i
  rw [List.getElem?_set]
  by_cases hi : a = i
  · subst hi
    have hl : a < (wcells Y G).length := by simpa [wcells] using ha
    rw [if_pos rfl, if_pos hl, wc_get ha, he]
  · rw [if_neg hi]
    by_cases hn : i < NC
    · rw [wc_get hn, wc_get hn, ho i (fun h => hi h.symm)]
    · have h1 : (wcells Y G)[i]? = none := by simp [wcells]; omega
      have h2 : (wcells Y G')[i]? = none := by simp [wcells]; omega
      rw [h1, h2]
theorem co_sI {Y : DX} {G : GM} {a k b : Nat} {v : Int32} (h : b ≠ a) : cellOf Y (sI G a k v) b = cellOf Y G b := by
  have e : (sI G a k v).1 b = G.1 b := by funext j; simp [sI, up2, h]
  have e2 : fv Y (sI G a k v) b = fv Y G b := by
    funext j
    simp only [fv, gI, e]
    rfl
  simp only [cellOf, e, e2]
  rfl
theorem co_sJ {Y : DX} {G : GM} {a k b : Nat} {v : Int64} (h : b ≠ a) : cellOf Y (sJ G a k v) b = cellOf Y G b := by
  have e : (sJ G a k v).2.1 b = G.2.1 b := by funext j; simp [sJ, up2, h]
  have e2 : fv Y (sJ G a k v) b = fv Y G b := by
    funext j
    simp only [fv, gJ, e]
    rfl
  simp only [cellOf, e, e2]
  rfl
theorem mapset {n k : Nat} {f g : Nat → Value} {v : Value} (hk : k < n) (hv : v = g k) (ho : ∀ j, j ≠ k → g j = f j) : ((List.range n).map f).set k v = (List.range n).map g := by
  apply List.ext_getElem?
  intro i
  rw [List.getElem?_set]
  by_cases hi : k = i
  · subst hi
    simp [hk, hv]
  · rw [if_neg hi]
    simp only [List.getElem?_map]
    by_cases hn : i < n
    · simp [hn, ho i (fun h => hi h.symm)]
    · simp [hn]
theorem set_fI {Y : DX} {G : GM} {a c k : Nat} {v : Int32} (h : SHk a = c) (hc : c < 10) (hk : k < NF c) (hf : FTy c k = 0) : (wcells Y G).set a (AD Y a, .inr (c, ((List.range (NF c)).map (fv Y G a)).set k (.int v))) = wcells Y (sI G a k v) := by
  refine wc_set (sh_lt h (by omega)) ?_ (fun b hb => co_sI hb)
  rw [co_obj h hc]
  congr 2
  refine mapset hk ?_ (fun j hj => ?_)
  · simp [fv, h, hf, gI, sI, up2]
  · simp only [fv, gI, gJ, sI, up2, ptr, nw, nx, if_true, if_neg hj]
theorem set_fJ {Y : DX} {G : GM} {a c k : Nat} {v : Int64} (h : SHk a = c) (hc : c < 10) (hk : k < NF c) (hf : FTy c k = 1) : (wcells Y G).set a (AD Y a, .inr (c, ((List.range (NF c)).map (fv Y G a)).set k (.long v))) = wcells Y (sJ G a k v) := by
  refine wc_set (sh_lt h (by omega)) ?_ (fun b hb => co_sJ hb)
  rw [co_obj h hc]
  congr 2
  refine mapset hk ?_ (fun j hj => ?_)
  · simp [fv, h, hf, gJ, sJ, up2]
  · simp only [fv, gI, gJ, sJ, up2, ptr, nw, nx, if_true, if_neg hj]
theorem set_aI {Y : DX} {G : GM} {a c i : Nat} {v : Int32} (h : SHk a = c) (hc : c = 10 ∨ c = 11 ∨ c = 13) : (wcells Y G).set a (AD Y a, .inl (Y.2.1 c, LN a, .inl (upd (G.1 a) i v))) = wcells Y (sI G a i v) := by
  refine wc_set (sh_lt h (by omega)) ?_ (fun b hb => co_sI hb)
  rw [co_int h hc]
  congr 4
  funext j
  simp [sI, up2, upd]
theorem set_aJ {Y : DX} {G : GM} {a i : Nat} {v : Int64} (h : SHk a = 12) : (wcells Y G).set a (AD Y a, .inl (Y.2.1 12, LN a, .inr (.inl (vp_updL (G.2.1 a) i v)))) = wcells Y (sJ G a i v) := by
  refine wc_set (sh_lt h (by omega)) ?_ (fun b hb => co_sJ hb)
  rw [co_long h]
  congr 5
  funext j
  simp [sJ, up2, vp_updL]
theorem co_cpI {Y : DX} {G : GM} {a i b j n x : Nat} (h : x ≠ b) : cellOf Y (cpI G a i b j n) x = cellOf Y G x := by
  have e : (cpI G a i b j n).1 x = G.1 x := by simp [cpI, cp2, h]
  have e2 : fv Y (cpI G a i b j n) x = fv Y G x := by
    funext j
    simp only [fv, gI, e]
    rfl
  simp only [cellOf, e, e2]
  rfl
theorem co_cpJ {Y : DX} {G : GM} {a i b j n x : Nat} (h : x ≠ b) : cellOf Y (cpJ G a i b j n) x = cellOf Y G x := by
  have e : (cpJ G a i b j n).2.1 x = G.2.1 x := by simp [cpJ, cp2, h]
  have e2 : fv Y (cpJ G a i b j n) x = fv Y G x := by
    funext j
    simp only [fv, gJ, e]
    rfl
  simp only [cellOf, e, e2]
  rfl
theorem set_cI {Y : DX} {G : GM} {a i b j n : Nat} (h : SHk b = 10) : (wcells Y G).set b (AD Y b, .inl (Y.2.1 10, LN b, .inl (va_cpy (G.1 a) (G.1 b) i j n))) = wcells Y (cpI G a i b j n) := by
  refine wc_set (sh_lt h (by omega)) ?_ (fun b hb => co_cpI hb)
  rw [co_int h (Or.inl rfl)]
  simp [cpI, cp2]
theorem set_cJ {Y : DX} {G : GM} {a i b j n : Nat} (h : SHk b = 12) : (wcells Y G).set b (AD Y b, .inl (Y.2.1 12, LN b, .inr (.inl (va_cpy (G.2.1 a) (G.2.1 b) i j n)))) = wcells Y (cpJ G a i b j n) := by
  refine wc_set (sh_lt h (by omega)) ?_ (fun b hb => co_cpJ hb)
  rw [co_long h]
  simp [cpJ, cp2]
theorem wf_sI {G : GM} {a k : Nat} {v : Int32} (h : WF G) : WF (sI G a k v) := h
theorem wf_sJ {G : GM} {a k : Nat} {v : Int64} (h : WF G) : WF (sJ G a k v) := h

