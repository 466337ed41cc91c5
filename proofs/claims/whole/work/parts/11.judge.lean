/-! THE JUDGEMENT J: the machine's rows over the typed memory; a program text in the option world beside them -/
abbrev CX : Type := Program × Launch × Env × Room × State × MethodId × Array Value × List Frame × Method × Code × Nat × Nat
abbrev XR (X : CX) : Room := X.2.2.2.1
abbrev XS (X : CX) : State := X.2.2.2.2.1
abbrev XM (X : CX) : MethodId := X.2.2.2.2.2.1
abbrev XA (X : CX) : Array Value := X.2.2.2.2.2.2.1
abbrev XC (X : CX) : Code := X.2.2.2.2.2.2.2.2.2.1
abbrev WX (X : CX) (H : Heap) (locs : List Loc) (Q : State → Prop) (g : JFrame) : Prop := W X.1 X.2.1 X.2.2.1 (XR X) (XS X) (XM X) (XA X) X.2.2.2.2.2.2.2.1 X.2.2.2.2.2.2.2.2.1 (XC X) H locs X.2.2.2.2.2.2.2.2.2.2.1 X.2.2.2.2.2.2.2.2.2.2.2 Q g
def KX (X : CX) (Y : DX) (nL : Nat) (Q : State → Prop) (pc : Nat) (lv : List (Nat × Value)) (st : List Value) (G : GM) : Prop :=
  WF G → ∀ (H : Heap) (locs : List Loc) (ls : Array Slot), va_P Y.1 cls (wcells Y G) H → va_S (AY Y) (XS X).heap H locs → lv_has ls nL lv → WX X H locs Q (F0 (XM X) pc ls st)
def J (X : CX) (Y : DX) (nL : Nat) (Q : State → Prop) (pc : Nat) (lv : List (Nat × Value)) (st : List Value) (G : GM) (φ : Prop) : Prop := φ → KX X Y nL Q pc lv st G
def rmd (d : Nat) : Room := { frames := d, cells := 0, slots := 0, locals := 200 * d }
def CXok (X : CX) (Y : DX) (own : String) (cc : ByteArray) (nL d : Nat) : Prop :=
  X.1.tables.exec = Jvm.exec ∧ (XC X).code = cc ∧ (XC X).maxLocals = nL ∧ (XS X).vm.findClass own = some (XM X).cls ∧ (∀ w ∈ lw_good, w.before (XA X) (XS X) = true) ∧ va_K Y.1 cls (tysY Y) (XS X) ∧ yI Y ∧ Strs Y (XS X) (XS X).heap ∧ (∀ w ∈ lw_nest, va_Nw w (XS X)) ∧ (d ≤ (XR X).frames ∧ 200 * d ≤ (XR X).locals ∧ X.2.2.2.2.2.2.2.2.2.2.1 ≤ (XR X).cells ∧ X.2.2.2.2.2.2.2.2.2.2.2 ≤ (XR X).slots)
def inb (i : Int32) (n : Nat) : Bool := decide (¬ i < 0) && decide (i.toNatClampNeg < n)
theorem inb_in {i : Int32} {n : Nat} (h : inb i n = true) : vp_in i n := by
  simp only [inb, Bool.and_eq_true, decide_eq_true_eq] at h
  exact fun q => q.elim h.1 (fun q => by omega)
def gd {α : Type} (c : Bool) (p : Option α) : Option α := if c = true then p else none
def lt {α β : Type} (x : α) (f : α → β) : β := f x
def ob {α β : Type} (x : Option (α × GM)) (f : α → GM → Option β) : Option β := match x with
  | none => none
  | some (r, G) => f r G
def ov {β : Type} (x : Option GM) (f : GM → Option β) : Option β := match x with
  | none => none
  | some G => f G
theorem gd_some {α : Type} {c : Bool} {p : Option α} {v : α} (h : gd c p = some v) : c = true ∧ p = some v := by
  unfold gd at h
  by_cases hc : c = true
  · rw [if_pos hc] at h; exact ⟨hc, h⟩
  · rw [if_neg hc] at h; cases h
theorem ob_some {α β : Type} {x : Option (α × GM)} {f : α → GM → Option β} {v : β} (h : ob x f = some v) : ∃ r G, x = some (r, G) ∧ f r G = some v := by
  cases x with
  | none => cases h
  | some q => exact ⟨q.1, q.2, rfl, h⟩
theorem ov_some {β : Type} {x : Option GM} {f : GM → Option β} {v : β} (h : ov x f = some v) : ∃ G, x = some G ∧ f G = some v := by
  cases x with
  | none => cases h
  | some q => exact ⟨q, rfl, h⟩
abbrev MI : Type := MethodName × ByteArray × Nat × Option FieldType
def wdM (M : MI) : List Cond := Cond.code M.1 M.2.1 M.2.2.1 M.2.2.2 :: lw_good
def OkI (Y : DX) (d : Nat) (M : MI) (A : List Value) (G : GM) (r : Int32) (G' : GM) : Prop := ∀ l, Met l M.1 (wdM M) (rmd d) (va_Pc A (RelU Y G)) (va_Qi (fun v (_ : Unit) => v = r) (fun _ t => RelU Y G' t) (AY Y)) 0 0 (AY Y)
def OkJ (Y : DX) (d : Nat) (M : MI) (A : List Value) (G : GM) (r : Int64) (G' : GM) : Prop := ∀ l, Met l M.1 (wdM M) (rmd d) (va_Pc A (RelU Y G)) (va_Ql (fun v (_ : Unit) => v = r) (fun _ t => RelU Y G' t) (AY Y)) 0 0 (AY Y)
def OkV (Y : DX) (d : Nat) (M : MI) (A : List Value) (G : GM) (G' : GM) : Prop := ∀ l, Met l M.1 (wdM M) (rmd d) (va_Pc A (RelU Y G)) (va_Qv (fun (_ : Unit) => True) (fun _ t => RelU Y G' t) (AY Y)) 0 0 (AY Y)
def OkR (Y : DX) (d : Nat) (M : MI) (A : List Value) (G : GM) (r : Nat) (G' : GM) : Prop := ∀ l, Met l M.1 (wdM M) (rmd d) (va_Pc A (RelU Y G)) (va_Qr (fun (_ : Unit) => True) (fun _ a t => a = AD Y r ∧ RelU Y G' t) (AY Y)) 0 0 (AY Y)
def LF (own : String) (index c j : Nat) : Prop := c < 10 ∧ j < NF c ∧ ∃ q : vw_C, cls[c]? = some q ∧ q.2.2 = NF c ∧ (q.2.1 j).1 = q.1 ∧ (∀ w ∈ u_ws q.1 q.2.1 q.2.2, w ∈ lw_good) ∧ ((Cond.fieldLink own index q.1 (q.2.1 j).2.1 (q.2.1 j).2.2.1) ∈ lw_good ∨ ∃ host, (Cond.fieldLinkNest own index q.1 (q.2.1 j).2.1 (q.2.1 j).2.2.1 host) ∈ lw_nest)
def LPt (c j : Nat) (ty : FieldType) : Prop := ∃ q : vw_C, cls[c]? = some q ∧ (∃ ty0 : Nat → FieldType, ∀ k, k < q.2.2 → parseFieldDescriptor (q.2.1 k).2.2.1 = some (ty0 k)) ∧ (∀ a, a < q.2.2 → ∀ b, b < q.2.2 → a ≠ b → (q.2.1 a).2.1 ≠ (q.2.1 b).2.1) ∧ (q.2.1 j).2.2.2 = false ∧ parseFieldDescriptor (q.2.1 j).2.2.1 = some ty
section JR
variable {X : CX} {Y : DX} {own : String} {cc : ByteArray} {nL d pc tgt : Nat} {off : Int} {Q : State → Prop} {lv lv' : List (Nat × Value)} {st : List Value} {G : GM} {φ : Prop} {α : Type} {v : α} {p q : Option α}
theorem J_gd {c : Bool} (k : c = true → J X Y nL Q pc lv st G (p = some v)) : J X Y nL Q pc lv st G (gd c p = some v) := fun hφ => k (gd_some hφ).1 (gd_some hφ).2
theorem J_lt {β : Type} {x : β} {f : β → Option α} {mk : β → Value} (k : ∀ y, J X Y nL Q pc lv (mk y :: st) G (f y = some v)) : J X Y nL Q pc lv (mk x :: st) G (lt x f = some v) := k x
theorem J_sub (ks : List Nat) (h : lv_pick lv ks = lv') (k : J X Y nL Q pc lv' st G φ) : J X Y nL Q pc lv st G φ := fun hφ hw H locs ls hP hS hl => k hφ hw H locs ls hP hS (lv_sub hl ks h)

theorem J_iconst {n : Int} {x : Int32} (hX : CXok X Y own cc nL d) (hd : decode cc pc = .ok (.iconst n, 1)) (hv : Int32.ofInt n = x) (k : J X Y nL Q (pc + 1) lv (.int x :: st) G φ) : J X Y nL Q pc lv (st) G φ := fun hφ hw H locs ls hP hS hl => lv_iconst hX.1 hX.2.1 hd hv (k hφ hw H locs ls hP hS hl)
theorem J_bipush {n : Int} {x : Int32} (hX : CXok X Y own cc nL d) (hd : decode cc pc = .ok (.bipush n, 2)) (hv : (Int8.ofInt n).toInt32 = x) (k : J X Y nL Q (pc + 2) lv (.int x :: st) G φ) : J X Y nL Q pc lv (st) G φ := fun hφ hw H locs ls hP hS hl => lv_bipush hX.1 hX.2.1 hd hv (k hφ hw H locs ls hP hS hl)
theorem J_sipush {n : Int} {x : Int32} (hX : CXok X Y own cc nL d) (hd : decode cc pc = .ok (.sipush n, 3)) (hv : (Int16.ofInt n).toInt32 = x) (k : J X Y nL Q (pc + 3) lv (.int x :: st) G φ) : J X Y nL Q pc lv (st) G φ := fun hφ hw H locs ls hP hS hl => lv_sipush hX.1 hX.2.1 hd hv (k hφ hw H locs ls hP hS hl)
theorem J_lconst {n : Fin 2} {x : Int64} (hX : CXok X Y own cc nL d) (hd : decode cc pc = .ok (.lconst n, 1)) (hv : Int64.ofNat (n : Nat) = x) (k : J X Y nL Q (pc + 1) lv (.long x :: st) G φ) : J X Y nL Q pc lv (st) G φ := fun hφ hw H locs ls hP hS hl => lv_lconst hX.1 hX.2.1 hd hv (k hφ hw H locs ls hP hS hl)
theorem J_ldc {index : Nat} {x : Int32} (hX : CXok X Y own cc nL d) (hd : decode cc pc = .ok (.ldc index, 2)) (hc : Cond.constant own index x ∈ lw_good) (k : J X Y nL Q (pc + 2) lv (.int x :: st) G φ) : J X Y nL Q pc lv st G φ := fun hφ hw H locs ls hP hS hl => lv_ldc hX.1 hX.2.1 hX.2.2.2.1 (hX.2.2.2.2.1 _ hc) hd (k hφ hw H locs ls hP hS hl)
theorem J_ldc2 {index : Nat} {x : Int64} (hX : CXok X Y own cc nL d) (hd : decode cc pc = .ok (.ldc2_w index, 3)) (hc : Cond.constantLong own index x ∈ lw_good) (k : J X Y nL Q (pc + 3) lv (.long x :: st) G φ) : J X Y nL Q pc lv st G φ := fun hφ hw H locs ls hP hS hl => lv_ldc2 hX.1 hX.2.1 hX.2.2.2.1 (hX.2.2.2.2.1 _ hc) hd (k hφ hw H locs ls hP hS hl)
theorem J_ldcS (i : Nat) {index : Nat} {tx : String} (hX : CXok X Y RX7 cc nL d) (hd : decode cc pc = .ok (.ldc index, 2)) (hs : sIdx[i]? = some (index, tx)) (k : J X Y nL Q (pc + 2) lv (.ref (yk Y i) :: st) G φ) : J X Y nL Q pc lv st G φ := fun hφ hw H locs ls hP hS hl => va_ldcS hX.1 hX.2.1 hX.2.2.2.1 (hX.2.2.2.2.2.2.2.1.2.1 i _ hs) hd (k hφ hw H locs ls hP hS hl)
theorem J_iload_n (i : Nat) {k0 : Fin 4} {z : Nat} {x : Int32} (hX : CXok X Y own cc nL d) (hd : decode cc pc = .ok (.iload_n k0, 1)) (hz : (k0 : Nat) = z) (hi : lv[i]? = some (z, .int x)) (k : J X Y nL Q (pc + 1) lv (.int x :: st) G φ) : J X Y nL Q pc lv st G φ := fun hφ hw H locs ls hP hS hl => lv_iload_n hX.1 hX.2.1 hd hz (lv_at hl i hi) (k hφ hw H locs ls hP hS hl)
theorem J_iload (i : Nat) {z : Nat} {x : Int32} (hX : CXok X Y own cc nL d) (hd : decode cc pc = .ok (.iload z, 2)) (hi : lv[i]? = some (z, .int x)) (k : J X Y nL Q (pc + 2) lv (.int x :: st) G φ) : J X Y nL Q pc lv st G φ := fun hφ hw H locs ls hP hS hl => lv_iload hX.1 hX.2.1 hd (lv_at hl i hi) (k hφ hw H locs ls hP hS hl)
theorem J_lload_n (i : Nat) {k0 : Fin 4} {z : Nat} {x : Int64} (hX : CXok X Y own cc nL d) (hd : decode cc pc = .ok (.lload_n k0, 1)) (hz : (k0 : Nat) = z) (hi : lv[i]? = some (z, .long x)) (k : J X Y nL Q (pc + 1) lv (.long x :: st) G φ) : J X Y nL Q pc lv st G φ := fun hφ hw H locs ls hP hS hl => lv_lload_n hX.1 hX.2.1 hd hz (lv_at hl i hi) (k hφ hw H locs ls hP hS hl)
theorem J_lload (i : Nat) {z : Nat} {x : Int64} (hX : CXok X Y own cc nL d) (hd : decode cc pc = .ok (.lload z, 2)) (hi : lv[i]? = some (z, .long x)) (k : J X Y nL Q (pc + 2) lv (.long x :: st) G φ) : J X Y nL Q pc lv st G φ := fun hφ hw H locs ls hP hS hl => lv_lload hX.1 hX.2.1 hd (lv_at hl i hi) (k hφ hw H locs ls hP hS hl)
theorem J_aload_n (i : Nat) {k0 : Fin 4} {z : Nat} {x : Nat} (hX : CXok X Y own cc nL d) (hd : decode cc pc = .ok (.aload_n k0, 1)) (hz : (k0 : Nat) = z) (hi : lv[i]? = some (z, .ref x)) (k : J X Y nL Q (pc + 1) lv (.ref x :: st) G φ) : J X Y nL Q pc lv st G φ := fun hφ hw H locs ls hP hS hl => lv_aload_n hX.1 hX.2.1 hd hz (lv_at hl i hi) (k hφ hw H locs ls hP hS hl)
theorem J_aload (i : Nat) {z : Nat} {x : Nat} (hX : CXok X Y own cc nL d) (hd : decode cc pc = .ok (.aload z, 2)) (hi : lv[i]? = some (z, .ref x)) (k : J X Y nL Q (pc + 2) lv (.ref x :: st) G φ) : J X Y nL Q pc lv st G φ := fun hφ hw H locs ls hP hS hl => lv_aload hX.1 hX.2.1 hd (lv_at hl i hi) (k hφ hw H locs ls hP hS hl)
theorem J_istore_n {k0 : Fin 4} {z : Nat} {x : Int32} (hX : CXok X Y own cc nL d) (hd : decode cc pc = .ok (.istore_n k0, 1)) (hz : (k0 : Nat) = z) (hn : z < nL) (hl2 : (z, Value.int x) :: lv.filter (fun q => !(q.1 == z) && !(q.1 + 1 == z && q.2.category == 2)) = lv') (k : J X Y nL Q (pc + 1) lv' st G φ) : J X Y nL Q pc lv (.int x :: st) G φ := fun hφ hw H locs ls hP hS hl => lv_istore_n hX.1 hX.2.1 hd hz hl hn hl2 (fun ls hl => k hφ hw H locs ls hP hS hl)
theorem J_istore {z : Nat} {x : Int32} (hX : CXok X Y own cc nL d) (hd : decode cc pc = .ok (.istore z, 2)) (hn : z < nL) (hl2 : (z, Value.int x) :: lv.filter (fun q => !(q.1 == z) && !(q.1 + 1 == z && q.2.category == 2)) = lv') (k : J X Y nL Q (pc + 2) lv' st G φ) : J X Y nL Q pc lv (.int x :: st) G φ := fun hφ hw H locs ls hP hS hl => lv_istore hX.1 hX.2.1 hd hl hn hl2 (fun ls hl => k hφ hw H locs ls hP hS hl)
theorem J_lstore_n {k0 : Fin 4} {z : Nat} {x : Int64} (hX : CXok X Y own cc nL d) (hd : decode cc pc = .ok (.lstore_n k0, 1)) (hz : (k0 : Nat) = z) (hn : z + 1 < nL) (hl2 : (z, Value.long x) :: lv.filter (fun q => !(q.1 == z) && (!(q.1 == z + 1) && !(q.1 + 1 == z && q.2.category == 2))) = lv') (k : J X Y nL Q (pc + 1) lv' st G φ) : J X Y nL Q pc lv (.long x :: st) G φ := fun hφ hw H locs ls hP hS hl => lv_lstore_n hX.1 hX.2.1 hd hz hl hn hl2 (fun ls hl => k hφ hw H locs ls hP hS hl)
theorem J_lstore {z : Nat} {x : Int64} (hX : CXok X Y own cc nL d) (hd : decode cc pc = .ok (.lstore z, 2)) (hn : z + 1 < nL) (hl2 : (z, Value.long x) :: lv.filter (fun q => !(q.1 == z) && (!(q.1 == z + 1) && !(q.1 + 1 == z && q.2.category == 2))) = lv') (k : J X Y nL Q (pc + 2) lv' st G φ) : J X Y nL Q pc lv (.long x :: st) G φ := fun hφ hw H locs ls hP hS hl => lv_lstore hX.1 hX.2.1 hd hl hn hl2 (fun ls hl => k hφ hw H locs ls hP hS hl)
theorem J_astore_n {k0 : Fin 4} {z : Nat} {x : Nat} (hX : CXok X Y own cc nL d) (hd : decode cc pc = .ok (.astore_n k0, 1)) (hz : (k0 : Nat) = z) (hn : z < nL) (hl2 : (z, Value.ref x) :: lv.filter (fun q => !(q.1 == z) && !(q.1 + 1 == z && q.2.category == 2)) = lv') (k : J X Y nL Q (pc + 1) lv' st G φ) : J X Y nL Q pc lv (.ref x :: st) G φ := fun hφ hw H locs ls hP hS hl => lv_astore_n hX.1 hX.2.1 hd hz hl hn hl2 (fun ls hl => k hφ hw H locs ls hP hS hl)
theorem J_astore {z : Nat} {x : Nat} (hX : CXok X Y own cc nL d) (hd : decode cc pc = .ok (.astore z, 2)) (hn : z < nL) (hl2 : (z, Value.ref x) :: lv.filter (fun q => !(q.1 == z) && !(q.1 + 1 == z && q.2.category == 2)) = lv') (k : J X Y nL Q (pc + 2) lv' st G φ) : J X Y nL Q pc lv (.ref x :: st) G φ := fun hφ hw H locs ls hP hS hl => lv_astore hX.1 hX.2.1 hd hl hn hl2 (fun ls hl => k hφ hw H locs ls hP hS hl)
theorem J_iinc (i : Nat) {z : Nat} {n : Int} {x y : Int32} (hX : CXok X Y own cc nL d) (hd : decode cc pc = .ok (.iinc z n, 3)) (hi : lv[i]? = some (z, .int x)) (hv : Int32.ofInt n = y) (hn : z < nL) (hl2 : (z, Value.int (x + y)) :: lv.filter (fun q => !(q.1 == z) && !(q.1 + 1 == z && q.2.category == 2)) = lv') (k : J X Y nL Q (pc + 3) lv' st G φ) : J X Y nL Q pc lv st G φ := fun hφ hw H locs ls hP hS hl => lv_iinc hX.1 hX.2.1 hd hl hi (by rw [hv]) hn hl2 (fun ls hl => k hφ hw H locs ls hP hS hl)
theorem J_iadd {x y : Int32} (hX : CXok X Y own cc nL d) (hd : decode cc pc = .ok (.iadd, 1)) (k : J X Y nL Q (pc + 1) lv (.int (x + y) :: st) G φ) : J X Y nL Q pc lv (.int y :: .int x :: st) G φ := fun hφ hw H locs ls hP hS hl => lv_iadd hX.1 hX.2.1 hd (k hφ hw H locs ls hP hS hl)
theorem J_isub {x y : Int32} (hX : CXok X Y own cc nL d) (hd : decode cc pc = .ok (.isub, 1)) (k : J X Y nL Q (pc + 1) lv (.int (x - y) :: st) G φ) : J X Y nL Q pc lv (.int y :: .int x :: st) G φ := fun hφ hw H locs ls hP hS hl => lv_isub hX.1 hX.2.1 hd (k hφ hw H locs ls hP hS hl)
theorem J_imul {x y : Int32} (hX : CXok X Y own cc nL d) (hd : decode cc pc = .ok (.imul, 1)) (k : J X Y nL Q (pc + 1) lv (.int (x * y) :: st) G φ) : J X Y nL Q pc lv (.int y :: .int x :: st) G φ := fun hφ hw H locs ls hP hS hl => lv_imul hX.1 hX.2.1 hd (k hφ hw H locs ls hP hS hl)
theorem J_iand {x y : Int32} (hX : CXok X Y own cc nL d) (hd : decode cc pc = .ok (.iand, 1)) (k : J X Y nL Q (pc + 1) lv (.int (x &&& y) :: st) G φ) : J X Y nL Q pc lv (.int y :: .int x :: st) G φ := fun hφ hw H locs ls hP hS hl => lv_iand hX.1 hX.2.1 hd (k hφ hw H locs ls hP hS hl)
theorem J_ior {x y : Int32} (hX : CXok X Y own cc nL d) (hd : decode cc pc = .ok (.ior, 1)) (k : J X Y nL Q (pc + 1) lv (.int (x ||| y) :: st) G φ) : J X Y nL Q pc lv (.int y :: .int x :: st) G φ := fun hφ hw H locs ls hP hS hl => lv_ior hX.1 hX.2.1 hd (k hφ hw H locs ls hP hS hl)
theorem J_ishl {x y : Int32} (hX : CXok X Y own cc nL d) (hd : decode cc pc = .ok (.ishl, 1)) (k : J X Y nL Q (pc + 1) lv (.int (x <<< (y &&& 31)) :: st) G φ) : J X Y nL Q pc lv (.int y :: .int x :: st) G φ := fun hφ hw H locs ls hP hS hl => lv_ishl hX.1 hX.2.1 hd (k hφ hw H locs ls hP hS hl)
theorem J_ishr {x y : Int32} (hX : CXok X Y own cc nL d) (hd : decode cc pc = .ok (.ishr, 1)) (k : J X Y nL Q (pc + 1) lv (.int (x >>> (y &&& 31)) :: st) G φ) : J X Y nL Q pc lv (.int y :: .int x :: st) G φ := fun hφ hw H locs ls hP hS hl => lv_ishr hX.1 hX.2.1 hd (k hφ hw H locs ls hP hS hl)
theorem J_ladd {x y : Int64} (hX : CXok X Y own cc nL d) (hd : decode cc pc = .ok (.ladd, 1)) (k : J X Y nL Q (pc + 1) lv (.long (x + y) :: st) G φ) : J X Y nL Q pc lv (.long y :: .long x :: st) G φ := fun hφ hw H locs ls hP hS hl => lv_ladd hX.1 hX.2.1 hd (k hφ hw H locs ls hP hS hl)
theorem J_lsub {x y : Int64} (hX : CXok X Y own cc nL d) (hd : decode cc pc = .ok (.lsub, 1)) (k : J X Y nL Q (pc + 1) lv (.long (x - y) :: st) G φ) : J X Y nL Q pc lv (.long y :: .long x :: st) G φ := fun hφ hw H locs ls hP hS hl => lv_lsub hX.1 hX.2.1 hd (k hφ hw H locs ls hP hS hl)
theorem J_lmul {x y : Int64} (hX : CXok X Y own cc nL d) (hd : decode cc pc = .ok (.lmul, 1)) (k : J X Y nL Q (pc + 1) lv (.long (x * y) :: st) G φ) : J X Y nL Q pc lv (.long y :: .long x :: st) G φ := fun hφ hw H locs ls hP hS hl => lv_lmul hX.1 hX.2.1 hd (k hφ hw H locs ls hP hS hl)
theorem J_land {x y : Int64} (hX : CXok X Y own cc nL d) (hd : decode cc pc = .ok (.land, 1)) (k : J X Y nL Q (pc + 1) lv (.long (x &&& y) :: st) G φ) : J X Y nL Q pc lv (.long y :: .long x :: st) G φ := fun hφ hw H locs ls hP hS hl => lv_land hX.1 hX.2.1 hd (k hφ hw H locs ls hP hS hl)
theorem J_lor {x y : Int64} (hX : CXok X Y own cc nL d) (hd : decode cc pc = .ok (.lor, 1)) (k : J X Y nL Q (pc + 1) lv (.long (x ||| y) :: st) G φ) : J X Y nL Q pc lv (.long y :: .long x :: st) G φ := fun hφ hw H locs ls hP hS hl => lv_lor hX.1 hX.2.1 hd (k hφ hw H locs ls hP hS hl)
theorem J_lshl {x : Int64} {y : Int32} (hX : CXok X Y own cc nL d) (hd : decode cc pc = .ok (.lshl, 1)) (k : J X Y nL Q (pc + 1) lv (.long (x <<< (y.toInt64 &&& 63)) :: st) G φ) : J X Y nL Q pc lv (.int y :: .long x :: st) G φ := fun hφ hw H locs ls hP hS hl => lv_lshl hX.1 hX.2.1 hd rfl (k hφ hw H locs ls hP hS hl)
theorem J_lshr {x : Int64} {y : Int32} (hX : CXok X Y own cc nL d) (hd : decode cc pc = .ok (.lshr, 1)) (k : J X Y nL Q (pc + 1) lv (.long (x >>> (y.toInt64 &&& 63)) :: st) G φ) : J X Y nL Q pc lv (.int y :: .long x :: st) G φ := fun hφ hw H locs ls hP hS hl => lv_lshr hX.1 hX.2.1 hd rfl (k hφ hw H locs ls hP hS hl)
theorem J_lneg {x : Int64} (hX : CXok X Y own cc nL d) (hd : decode cc pc = .ok (.lneg, 1)) (k : J X Y nL Q (pc + 1) lv (.long (-x) :: st) G φ) : J X Y nL Q pc lv (.long x :: st) G φ := fun hφ hw H locs ls hP hS hl => lv_lneg hX.1 hX.2.1 hd (k hφ hw H locs ls hP hS hl)
theorem J_i2l {x : Int32} (hX : CXok X Y own cc nL d) (hd : decode cc pc = .ok (.i2l, 1)) (k : J X Y nL Q (pc + 1) lv (.long x.toInt64 :: st) G φ) : J X Y nL Q pc lv (.int x :: st) G φ := fun hφ hw H locs ls hP hS hl => lv_i2l hX.1 hX.2.1 hd rfl (k hφ hw H locs ls hP hS hl)
theorem J_l2i {x : Int64} (hX : CXok X Y own cc nL d) (hd : decode cc pc = .ok (.l2i, 1)) (k : J X Y nL Q (pc + 1) lv (.int x.toInt32 :: st) G φ) : J X Y nL Q pc lv (.long x :: st) G φ := fun hφ hw H locs ls hP hS hl => lv_l2i hX.1 hX.2.1 hd rfl (k hφ hw H locs ls hP hS hl)
theorem J_i2b {x : Int32} (hX : CXok X Y own cc nL d) (hd : decode cc pc = .ok (.i2b, 1)) (k : J X Y nL Q (pc + 1) lv (.int x.toInt8.toInt32 :: st) G φ) : J X Y nL Q pc lv (.int x :: st) G φ := fun hφ hw H locs ls hP hS hl => lv_i2b hX.1 hX.2.1 hd rfl (k hφ hw H locs ls hP hS hl)
theorem J_i2s {x : Int32} (hX : CXok X Y own cc nL d) (hd : decode cc pc = .ok (.i2s, 1)) (k : J X Y nL Q (pc + 1) lv (.int x.toInt16.toInt32 :: st) G φ) : J X Y nL Q pc lv (.int x :: st) G φ := fun hφ hw H locs ls hP hS hl => lv_i2s hX.1 hX.2.1 hd rfl (k hφ hw H locs ls hP hS hl)
theorem J_lcmp {x y : Int64} (hX : CXok X Y own cc nL d) (hd : decode cc pc = .ok (.lcmp, 1)) (k : J X Y nL Q (pc + 1) lv (.int (lg_cmp x y) :: st) G φ) : J X Y nL Q pc lv (.long y :: .long x :: st) G φ := fun hφ hw H locs ls hP hS hl => W.lcmp hX.1 hX.2.1 hd (k hφ hw H locs ls hP hS hl)
theorem J_dup {x : Value} (hX : CXok X Y own cc nL d) (hd : decode cc pc = .ok (.dup, 1)) (hc : x.category = 1) (k : J X Y nL Q (pc + 1) lv (x :: x :: st) G φ) : J X Y nL Q pc lv (x :: st) G φ := fun hφ hw H locs ls hP hS hl => lv_dup hX.1 hX.2.1 hd hc (k hφ hw H locs ls hP hS hl)
theorem J_dup2 {x y : Value} (hX : CXok X Y own cc nL d) (hd : decode cc pc = .ok (.dup2, 1)) (hc : x.category = 1) (hc2 : y.category = 1) (k : J X Y nL Q (pc + 1) lv (x :: y :: x :: y :: st) G φ) : J X Y nL Q pc lv (x :: y :: st) G φ := fun hφ hw H locs ls hP hS hl => lv_dup2_11 hX.1 hX.2.1 hd hc hc2 (k hφ hw H locs ls hP hS hl)
theorem J_idiv {x y : Int32} (hX : CXok X Y own cc nL d) (hd : decode cc pc = .ok (.idiv, 1)) (k : J X Y nL Q (pc + 1) lv (.int (x / y) :: st) G (p = some v)) : J X Y nL Q pc lv (.int y :: .int x :: st) G (gd (decide (¬ y = 0)) p = some v) := fun hφ hw H locs ls hP hS hl => lv_idiv hX.1 hX.2.1 hd (of_decide_eq_true (gd_some hφ).1) (k (gd_some hφ).2 hw H locs ls hP hS hl)
theorem J_irem {x y : Int32} (hX : CXok X Y own cc nL d) (hd : decode cc pc = .ok (.irem, 1)) (k : J X Y nL Q (pc + 1) lv (.int (x - x / y * y) :: st) G (p = some v)) : J X Y nL Q pc lv (.int y :: .int x :: st) G (gd (decide (¬ y = 0)) p = some v) := fun hφ hw H locs ls hP hS hl => lv_irem hX.1 hX.2.1 hd (of_decide_eq_true (gd_some hφ).1) (k (gd_some hφ).2 hw H locs ls hP hS hl)
theorem J_ldiv {x y : Int64} (hX : CXok X Y own cc nL d) (hd : decode cc pc = .ok (.ldiv, 1)) (k : J X Y nL Q (pc + 1) lv (.long (x / y) :: st) G (p = some v)) : J X Y nL Q pc lv (.long y :: .long x :: st) G (gd (decide (¬ y = 0)) p = some v) := fun hφ hw H locs ls hP hS hl => lv_ldiv hX.1 hX.2.1 hd (of_decide_eq_true (gd_some hφ).1) (k (gd_some hφ).2 hw H locs ls hP hS hl)
theorem J_lrem {x y : Int64} (hX : CXok X Y own cc nL d) (hd : decode cc pc = .ok (.lrem, 1)) (k : J X Y nL Q (pc + 1) lv (.long (x - x / y * y) :: st) G (p = some v)) : J X Y nL Q pc lv (.long y :: .long x :: st) G (gd (decide (¬ y = 0)) p = some v) := fun hφ hw H locs ls hP hS hl => lv_lrem hX.1 hX.2.1 hd (of_decide_eq_true (gd_some hφ).1) (k (gd_some hφ).2 hw H locs ls hP hS hl)
theorem J_if_eq {x : Int32} [Decidable (x = 0)] (hX : CXok X Y own cc nL d) (hd : decode cc pc = .ok (.ifCond .eq off, 3)) (ht : (pc : Int) + off = (tgt : Int)) (kt : J X Y nL Q tgt lv st G (p = some v)) (kf : J X Y nL Q (pc + 3) lv st G (q = some v)) : J X Y nL Q pc lv (.int x :: st) G ((if x = 0 then p else q) = some v) := fun hφ hw H locs ls hP hS hl => lv_if_eq hX.1 hX.2.1 hd ht (fun c => kt (by rw [if_pos c] at hφ; exact hφ) hw H locs ls hP hS hl) (fun c => kf (by rw [if_neg c] at hφ; exact hφ) hw H locs ls hP hS hl)
theorem J_icmp_eq {x y : Int32} [Decidable (x = y)] (hX : CXok X Y own cc nL d) (hd : decode cc pc = .ok (.if_icmp .eq off, 3)) (ht : (pc : Int) + off = (tgt : Int)) (kt : J X Y nL Q tgt lv st G (p = some v)) (kf : J X Y nL Q (pc + 3) lv st G (q = some v)) : J X Y nL Q pc lv (.int y :: .int x :: st) G ((if x = y then p else q) = some v) := fun hφ hw H locs ls hP hS hl => lv_icmp_eq hX.1 hX.2.1 hd ht (fun c => kt (by rw [if_pos c] at hφ; exact hφ) hw H locs ls hP hS hl) (fun c => kf (by rw [if_neg c] at hφ; exact hφ) hw H locs ls hP hS hl)
theorem J_if_lt {x : Int32} [Decidable (x < 0)] (hX : CXok X Y own cc nL d) (hd : decode cc pc = .ok (.ifCond .lt off, 3)) (ht : (pc : Int) + off = (tgt : Int)) (kt : J X Y nL Q tgt lv st G (p = some v)) (kf : J X Y nL Q (pc + 3) lv st G (q = some v)) : J X Y nL Q pc lv (.int x :: st) G ((if x < 0 then p else q) = some v) := fun hφ hw H locs ls hP hS hl => lv_if_lt hX.1 hX.2.1 hd ht (fun c => kt (by rw [if_pos c] at hφ; exact hφ) hw H locs ls hP hS hl) (fun c => kf (by rw [if_neg c] at hφ; exact hφ) hw H locs ls hP hS hl)
theorem J_icmp_lt {x y : Int32} [Decidable (x < y)] (hX : CXok X Y own cc nL d) (hd : decode cc pc = .ok (.if_icmp .lt off, 3)) (ht : (pc : Int) + off = (tgt : Int)) (kt : J X Y nL Q tgt lv st G (p = some v)) (kf : J X Y nL Q (pc + 3) lv st G (q = some v)) : J X Y nL Q pc lv (.int y :: .int x :: st) G ((if x < y then p else q) = some v) := fun hφ hw H locs ls hP hS hl => lv_icmp_lt hX.1 hX.2.1 hd ht (fun c => kt (by rw [if_pos c] at hφ; exact hφ) hw H locs ls hP hS hl) (fun c => kf (by rw [if_neg c] at hφ; exact hφ) hw H locs ls hP hS hl)
theorem J_if_ge {x : Int32} [Decidable (0 ≤ x)] (hX : CXok X Y own cc nL d) (hd : decode cc pc = .ok (.ifCond .ge off, 3)) (ht : (pc : Int) + off = (tgt : Int)) (kt : J X Y nL Q tgt lv st G (p = some v)) (kf : J X Y nL Q (pc + 3) lv st G (q = some v)) : J X Y nL Q pc lv (.int x :: st) G ((if 0 ≤ x then p else q) = some v) := fun hφ hw H locs ls hP hS hl => lv_if_ge hX.1 hX.2.1 hd ht (fun c => kt (by rw [if_pos c] at hφ; exact hφ) hw H locs ls hP hS hl) (fun c => kf (by rw [if_neg c] at hφ; exact hφ) hw H locs ls hP hS hl)
theorem J_icmp_ge {x y : Int32} [Decidable (y ≤ x)] (hX : CXok X Y own cc nL d) (hd : decode cc pc = .ok (.if_icmp .ge off, 3)) (ht : (pc : Int) + off = (tgt : Int)) (kt : J X Y nL Q tgt lv st G (p = some v)) (kf : J X Y nL Q (pc + 3) lv st G (q = some v)) : J X Y nL Q pc lv (.int y :: .int x :: st) G ((if y ≤ x then p else q) = some v) := fun hφ hw H locs ls hP hS hl => lv_icmp_ge hX.1 hX.2.1 hd ht (fun c => kt (by rw [if_pos c] at hφ; exact hφ) hw H locs ls hP hS hl) (fun c => kf (by rw [if_neg c] at hφ; exact hφ) hw H locs ls hP hS hl)
theorem J_if_gt {x : Int32} [Decidable (0 < x)] (hX : CXok X Y own cc nL d) (hd : decode cc pc = .ok (.ifCond .gt off, 3)) (ht : (pc : Int) + off = (tgt : Int)) (kt : J X Y nL Q tgt lv st G (p = some v)) (kf : J X Y nL Q (pc + 3) lv st G (q = some v)) : J X Y nL Q pc lv (.int x :: st) G ((if 0 < x then p else q) = some v) := fun hφ hw H locs ls hP hS hl => lv_if_gt hX.1 hX.2.1 hd ht (fun c => kt (by rw [if_pos c] at hφ; exact hφ) hw H locs ls hP hS hl) (fun c => kf (by rw [if_neg c] at hφ; exact hφ) hw H locs ls hP hS hl)
theorem J_icmp_gt {x y : Int32} [Decidable (y < x)] (hX : CXok X Y own cc nL d) (hd : decode cc pc = .ok (.if_icmp .gt off, 3)) (ht : (pc : Int) + off = (tgt : Int)) (kt : J X Y nL Q tgt lv st G (p = some v)) (kf : J X Y nL Q (pc + 3) lv st G (q = some v)) : J X Y nL Q pc lv (.int y :: .int x :: st) G ((if y < x then p else q) = some v) := fun hφ hw H locs ls hP hS hl => lv_icmp_gt hX.1 hX.2.1 hd ht (fun c => kt (by rw [if_pos c] at hφ; exact hφ) hw H locs ls hP hS hl) (fun c => kf (by rw [if_neg c] at hφ; exact hφ) hw H locs ls hP hS hl)
theorem J_if_le {x : Int32} [Decidable (x ≤ 0)] (hX : CXok X Y own cc nL d) (hd : decode cc pc = .ok (.ifCond .le off, 3)) (ht : (pc : Int) + off = (tgt : Int)) (kt : J X Y nL Q tgt lv st G (p = some v)) (kf : J X Y nL Q (pc + 3) lv st G (q = some v)) : J X Y nL Q pc lv (.int x :: st) G ((if x ≤ 0 then p else q) = some v) := fun hφ hw H locs ls hP hS hl => lv_if_le hX.1 hX.2.1 hd ht (fun c => kt (by rw [if_pos c] at hφ; exact hφ) hw H locs ls hP hS hl) (fun c => kf (by rw [if_neg c] at hφ; exact hφ) hw H locs ls hP hS hl)
theorem J_icmp_le {x y : Int32} [Decidable (x ≤ y)] (hX : CXok X Y own cc nL d) (hd : decode cc pc = .ok (.if_icmp .le off, 3)) (ht : (pc : Int) + off = (tgt : Int)) (kt : J X Y nL Q tgt lv st G (p = some v)) (kf : J X Y nL Q (pc + 3) lv st G (q = some v)) : J X Y nL Q pc lv (.int y :: .int x :: st) G ((if x ≤ y then p else q) = some v) := fun hφ hw H locs ls hP hS hl => lv_icmp_le hX.1 hX.2.1 hd ht (fun c => kt (by rw [if_pos c] at hφ; exact hφ) hw H locs ls hP hS hl) (fun c => kf (by rw [if_neg c] at hφ; exact hφ) hw H locs ls hP hS hl)
theorem J_if_ne {x : Int32} [Decidable (x = 0)] (hX : CXok X Y own cc nL d) (hd : decode cc pc = .ok (.ifCond .ne off, 3)) (ht : (pc : Int) + off = (tgt : Int)) (kt : J X Y nL Q tgt lv st G (p = some v)) (kf : J X Y nL Q (pc + 3) lv st G (q = some v)) : J X Y nL Q pc lv (.int x :: st) G ((if x = 0 then q else p) = some v) := fun hφ hw H locs ls hP hS hl => lv_if_ne hX.1 hX.2.1 hd ht (fun c => kt (by rw [if_neg c] at hφ; exact hφ) hw H locs ls hP hS hl) (fun c => kf (by rw [if_pos c] at hφ; exact hφ) hw H locs ls hP hS hl)
theorem J_icmp_ne {x y : Int32} [Decidable (x = y)] (hX : CXok X Y own cc nL d) (hd : decode cc pc = .ok (.if_icmp .ne off, 3)) (ht : (pc : Int) + off = (tgt : Int)) (kt : J X Y nL Q tgt lv st G (p = some v)) (kf : J X Y nL Q (pc + 3) lv st G (q = some v)) : J X Y nL Q pc lv (.int y :: .int x :: st) G ((if x = y then q else p) = some v) := fun hφ hw H locs ls hP hS hl => lv_icmp_ne hX.1 hX.2.1 hd ht (fun c => kt (by rw [if_neg c] at hφ; exact hφ) hw H locs ls hP hS hl) (fun c => kf (by rw [if_pos c] at hφ; exact hφ) hw H locs ls hP hS hl)
theorem J_goto (hX : CXok X Y own cc nL d) (hd : decode cc pc = .ok (.goto off, 3)) (ht : (pc : Int) + off = (tgt : Int)) (k : J X Y nL Q tgt lv st G φ) : J X Y nL Q pc lv st G φ := fun hφ hw H locs ls hP hS hl => lv_goto hX.1 hX.2.1 hd ht (k hφ hw H locs ls hP hS hl)
theorem J_get {a c j index : Nat} {v0 : Value} (hX : CXok X Y own cc nL d) (hd : decode cc pc = .ok (.getfield index, 3)) (hF : LF own index c j) (hk : SHk a = c) (hv : WF G → fv Y G a j = v0) (k : J X Y nL Q (pc + 3) lv (v0 :: st) G φ) : J X Y nL Q pc lv (.ref (AD Y a) :: st) G φ := by
  intro hφ hw H locs ls hP hS hl
  obtain ⟨hc, hj, ⟨C, T, N⟩, h1, h2, h3, h4, h5⟩ := hF
  dsimp only at h2 h3 h4 h5
  have he : (wcells Y G)[a]? = some (AD Y a, .inr (c, (List.range (NF c)).map (fv Y G a))) := by rw [wc_get (sh_lt hk (by omega)), co_obj hk hc]
  have hv2 : ((List.range (NF c)).map (fv Y G a))[j]? = some v0 := by simp [hj, hv hw]
  rcases h5 with h5 | ⟨host, h5⟩
  · exact va_get hX.1 hX.2.1 hX.2.2.2.2.1 h4 hX.2.2.2.1 hX.2.2.2.2.2.1 hP a he h1 j (by omega) (hX.2.2.2.2.1 _ h5) (fun x hx => by rw [h3] at hx; exact hx) hv2 hd (k hφ hw H locs ls hP hS hl)
  · exact va_getN hX.1 hX.2.1 hX.2.2.2.2.1 h4 hX.2.2.2.1 hX.2.2.2.2.2.1 hP a he h1 j (by omega) (va_Nw.use rfl (hX.2.2.2.2.2.2.2.2.1 _ h5)) (fun x hx => by rw [h3] at hx; exact hx) hv2 hd (k hφ hw H locs ls hP hS hl)
theorem J_getI {a c j index : Nat} (hX : CXok X Y own cc nL d) (hd : decode cc pc = .ok (.getfield index, 3)) (hF : LF own index c j) (hk : SHk a = c) (hf : FTy c j = 0) (k : J X Y nL Q (pc + 3) lv (.int (gI G a j) :: st) G φ) : J X Y nL Q pc lv (.ref (AD Y a) :: st) G φ :=
  J_get hX hd hF hk (fun _ => by unfold fv; rw [hk, if_pos hf]) k
theorem J_getJ {a c j index : Nat} (hX : CXok X Y own cc nL d) (hd : decode cc pc = .ok (.getfield index, 3)) (hF : LF own index c j) (hk : SHk a = c) (hf : FTy c j = 1) (k : J X Y nL Q (pc + 3) lv (.long (gJ G a j) :: st) G φ) : J X Y nL Q pc lv (.ref (AD Y a) :: st) G φ :=
  J_get hX hd hF hk (fun _ => by unfold fv; rw [hk, if_neg (by omega), if_pos hf]) k
theorem ptr_P0 {a j : Nat} (h : SHk a ≠ 8 ∨ 2 ≤ j) : ptr G a j = P0 a j := by
  unfold ptr
  by_cases ha : a = 0
  · subst ha
    rcases h with h | h
    · exact absurd (by decide) h
    · rw [if_pos rfl, if_neg (by omega), if_neg (by omega)]
  · rw [if_neg ha]
theorem J_getR {a b c j index : Nat} (hX : CXok X Y own cc nL d) (hd : decode cc pc = .ok (.getfield index, 3)) (hF : LF own index c j) (hk : SHk a = c) (hf : FTy c j = 2) (h8 : c ≠ 8 ∨ 2 ≤ j) (hb : a + OFF c j = b) (k : J X Y nL Q (pc + 3) lv (.ref (AD Y b) :: st) G φ) : J X Y nL Q pc lv (.ref (AD Y a) :: st) G φ :=
  J_get hX hd hF hk (fun _ => by unfold fv; rw [hk, if_neg (by omega), if_neg (by omega), ptr_P0 (by rw [hk]; exact h8)]; unfold P0; rw [hk, if_pos hF.1, hb]) k
theorem J_getNow {index : Nat} (hX : CXok X Y own cc nL d) (hd : decode cc pc = .ok (.getfield index, 3)) (hF : LF own index 8 0) (k : SHk (nw G) = 4 → J X Y nL Q (pc + 3) lv (.ref (AD Y (nw G)) :: st) G φ) : J X Y nL Q pc lv (.ref (AD Y 0) :: st) G φ := fun hφ hw =>
  J_get (v0 := .ref (AD Y (nw G))) hX hd hF (by decide) (fun _ => by unfold fv ptr; rw [if_neg (by decide), if_neg (by decide), if_pos rfl, if_pos rfl]) (k hw.1) hφ hw
theorem J_getNext {index : Nat} (hX : CXok X Y own cc nL d) (hd : decode cc pc = .ok (.getfield index, 3)) (hF : LF own index 8 1) (k : SHk (nx G) = 4 → J X Y nL Q (pc + 3) lv (.ref (AD Y (nx G)) :: st) G φ) : J X Y nL Q pc lv (.ref (AD Y 0) :: st) G φ := fun hφ hw =>
  J_get (v0 := .ref (AD Y (nx G))) hX hd hF (by decide) (fun _ => by unfold fv ptr; rw [if_neg (by decide), if_neg (by decide), if_pos rfl, if_neg (by decide), if_pos rfl]) (k hw.2) hφ hw
theorem J_put {a c j index : Nat} {v0 : Value} {ty : FieldType} {G1 : GM} (hX : CXok X Y own cc nL d) (hd : decode cc pc = .ok (.putfield index, 3)) (hF : LF own index c j) (hL : LPt c j ty) (hk : SHk a = c) (hn : narrow ty v0 = v0) (hfit : fits ty v0 = true) (hset : (wcells Y G).set a (AD Y a, .inr (c, ((List.range (NF c)).map (fv Y G a)).set j v0)) = wcells Y G1) (hwf : WF G → WF G1) (k : J X Y nL Q (pc + 3) lv st G1 φ) : J X Y nL Q pc lv (v0 :: .ref (AD Y a) :: st) G φ := by
  intro hφ hw H locs ls hP hS hl
  obtain ⟨hc, hj, ⟨C, T, N⟩, h1, h2, h3, h4, h5⟩ := hF
  obtain ⟨q, g1, ⟨ty0, g2⟩, g3, g4, g5⟩ := hL
  cases Option.some.inj (h1.symm.trans g1)
  dsimp only at h2 h3 h4 h5 g2 g3 g4 g5
  have he : (wcells Y G)[a]? = some (AD Y a, .inr (c, (List.range (NF c)).map (fv Y G a))) := by rw [wc_get (sh_lt hk (by omega)), co_obj hk hc]
  have hlen : j < ((List.range (NF c)).map (fv Y G a)).length := by simpa using hj
  have hD := wc_D hX.2.2.2.2.2.2.1 G
  have kk : ∀ (H1 : Heap) (locs1 : List Loc), va_P Y.1 cls ((wcells Y G).set a (AD Y a, .inr (c, ((List.range (NF c)).map (fv Y G a)).set j v0))) H1 → va_D (AY Y) ((wcells Y G).set a (AD Y a, .inr (c, ((List.range (NF c)).map (fv Y G a)).set j v0))) → va_S (AY Y) (XS X).heap H1 locs1 → WX X H1 locs1 Q (F0 (XM X) (pc + 3) ls st) := fun H1 locs1 hP1 _ hS1 => k hφ (hwf hw) H1 locs1 ls (hset ▸ hP1) hS1 hl
  rcases h5 with h5 | ⟨host, h5⟩
  · exact va_put hX.1 hX.2.1 hX.2.2.2.2.1 h4 ty0 g2 g3 hX.2.2.2.1 hX.2.2.2.2.2.1 hP hD hS a he h1 j (by omega) (hX.2.2.2.2.1 _ h5) (fun x hx => by rw [h3] at hx; exact hx) g4 g5 hn hfit hlen hd kk
  · exact va_putN hX.1 hX.2.1 hX.2.2.2.2.1 h4 ty0 g2 g3 hX.2.2.2.1 hX.2.2.2.2.2.1 hP hD hS a he h1 j (by omega) (va_Nw.use rfl (hX.2.2.2.2.2.2.2.2.1 _ h5)) (fun x hx => by rw [h3] at hx; exact hx) g4 g5 hn hfit hlen hd kk
theorem J_putI {a c j index : Nat} {x : Int32} {f : GM → Option α} (hX : CXok X Y own cc nL d) (hd : decode cc pc = .ok (.putfield index, 3)) (hF : LF own index c j) (hL : LPt c j .int) (hk : SHk a = c) (hf : FTy c j = 0) (k : ∀ G1, J X Y nL Q (pc + 3) lv st G1 (f G1 = some v)) : J X Y nL Q pc lv (.int x :: .ref (AD Y a) :: st) G (lt (sI G a j x) f = some v) :=
  J_put (G1 := sI G a j x) hX hd hF hL hk rfl rfl (set_fI hk hF.1 hF.2.1 hf) (fun h => h) (k _)
theorem J_putJ {a c j index : Nat} {x : Int64} {f : GM → Option α} (hX : CXok X Y own cc nL d) (hd : decode cc pc = .ok (.putfield index, 3)) (hF : LF own index c j) (hL : LPt c j .long) (hk : SHk a = c) (hf : FTy c j = 1) (k : ∀ G1, J X Y nL Q (pc + 3) lv st G1 (f G1 = some v)) : J X Y nL Q pc lv (.long x :: .ref (AD Y a) :: st) G (lt (sJ G a j x) f = some v) :=
  J_put (G1 := sJ G a j x) hX hd hF hL hk rfl rfl (set_fJ hk hF.1 hF.2.1 hf) (fun h => h) (k _)

theorem set_fN {G : GM} {b : Nat} : (wcells Y G).set 0 (AD Y 0, .inr (8, ((List.range (NF 8)).map (fv Y G 0)).set 0 (.ref (AD Y b)))) = wcells Y (sNw G b) := by
  refine wc_set (by decide) ?_ (fun x hx => ?_)
  · rw [co_obj (k := 8) (by decide) (by decide)]
    congr 2
  · have e : fv Y (sNw G b) x = fv Y G x := by
      funext j
      simp only [fv, ptr, sNw, gI, gJ, nw, nx, if_neg hx]
    simp only [cellOf, e]
    rfl
theorem set_fM {G : GM} {b : Nat} : (wcells Y G).set 0 (AD Y 0, .inr (8, ((List.range (NF 8)).map (fv Y G 0)).set 1 (.ref (AD Y b)))) = wcells Y (sNx G b) := by
  refine wc_set (by decide) ?_ (fun x hx => ?_)
  · rw [co_obj (k := 8) (by decide) (by decide)]
    congr 2
  · have e : fv Y (sNx G b) x = fv Y G x := by
      funext j
      simp only [fv, ptr, sNx, gI, gJ, nw, nx, if_neg hx]
    simp only [cellOf, e]
    rfl
theorem J_putNow {b index : Nat} {f : GM → Option α} (hX : CXok X Y own cc nL d) (hd : decode cc pc = .ok (.putfield index, 3)) (hF : LF own index 8 0) (hL : LPt 8 0 (.object "BingoHall$Hall")) (hb : SHk b = 4) (k : ∀ G1, J X Y nL Q (pc + 3) lv st G1 (f G1 = some v)) : J X Y nL Q pc lv (.ref (AD Y b) :: .ref (AD Y 0) :: st) G (lt (sNw G b) f = some v) :=
  J_put (G1 := sNw G b) hX hd hF hL (by decide) rfl rfl set_fN (fun h => ⟨hb, h.2⟩) (k _)
theorem J_putNext {b index : Nat} {f : GM → Option α} (hX : CXok X Y own cc nL d) (hd : decode cc pc = .ok (.putfield index, 3)) (hF : LF own index 8 1) (hL : LPt 8 1 (.object "BingoHall$Hall")) (hb : SHk b = 4) (k : ∀ G1, J X Y nL Q (pc + 3) lv st G1 (f G1 = some v)) : J X Y nL Q pc lv (.ref (AD Y b) :: .ref (AD Y 0) :: st) G (lt (sNx G b) f = some v) :=
  J_put (G1 := sNx G b) hX hd hF hL (by decide) rfl rfl set_fM (fun h => ⟨h.1, hb⟩) (k _)

theorem J_iald {a n : Nat} {i : Int32} (hX : CXok X Y own cc nL d) (hd : decode cc pc = .ok (.iaload, 1)) (hk : SHk a = 10) (hn : LN a = n) (k : J X Y nL Q (pc + 1) lv (.int (gI G a i.toNatClampNeg) :: st) G (p = some v)) : J X Y nL Q pc lv (.int i :: .ref (AD Y a) :: st) G (gd (inb i n) p = some v) := fun hφ hw H locs ls hP hS hl =>
  va_iald (n := LN a) (f := G.1 a) hX.1 hX.2.1 hX.2.2.2.2.2.1 hP a 0 (by rw [wc_get (sh_lt hk (by omega)), co_int hk (by omega)]) rfl (by rw [hn]; exact inb_in (gd_some hφ).1) hd (k (gd_some hφ).2 hw H locs ls hP hS hl)
theorem J_bald {a n : Nat} {i : Int32} (hX : CXok X Y own cc nL d) (hd : decode cc pc = .ok (.baload, 1)) (hk : SHk a = 11) (hn : LN a = n) (k : J X Y nL Q (pc + 1) lv (.int (gI G a i.toNatClampNeg) :: st) G (p = some v)) : J X Y nL Q pc lv (.int i :: .ref (AD Y a) :: st) G (gd (inb i n) p = some v) := fun hφ hw H locs ls hP hS hl =>
  va_bald (n := LN a) (f := G.1 a) hX.1 hX.2.1 hX.2.2.2.2.2.1 hP a 1 (by rw [wc_get (sh_lt hk (by omega)), co_int hk (by omega)]) rfl (by rw [hn]; exact inb_in (gd_some hφ).1) hd (k (gd_some hφ).2 hw H locs ls hP hS hl)
theorem J_zald {a n : Nat} {i : Int32} (hX : CXok X Y own cc nL d) (hd : decode cc pc = .ok (.baload, 1)) (hk : SHk a = 13) (hn : LN a = n) (k : J X Y nL Q (pc + 1) lv (.int (gI G a i.toNatClampNeg) :: st) G (p = some v)) : J X Y nL Q pc lv (.int i :: .ref (AD Y a) :: st) G (gd (inb i n) p = some v) := fun hφ hw H locs ls hP hS hl =>
  va_zald (n := LN a) (f := G.1 a) hX.1 hX.2.1 hX.2.2.2.2.2.1 hP a 3 (by rw [wc_get (sh_lt hk (by omega)), co_int hk (by omega)]) rfl (by rw [hn]; exact inb_in (gd_some hφ).1) hd (k (gd_some hφ).2 hw H locs ls hP hS hl)
theorem J_lald {a n : Nat} {i : Int32} (hX : CXok X Y own cc nL d) (hd : decode cc pc = .ok (.laload, 1)) (hk : SHk a = 12) (hn : LN a = n) (k : J X Y nL Q (pc + 1) lv (.long (gJ G a i.toNatClampNeg) :: st) G (p = some v)) : J X Y nL Q pc lv (.int i :: .ref (AD Y a) :: st) G (gd (inb i n) p = some v) := fun hφ hw H locs ls hP hS hl =>
  va_lald (n := LN a) (f := G.2.1 a) hX.1 hX.2.1 hX.2.2.2.2.2.1 hP a 2 (by rw [wc_get (sh_lt hk (by omega)), co_long hk]) rfl (by rw [hn]; exact inb_in (gd_some hφ).1) hd (k (gd_some hφ).2 hw H locs ls hP hS hl)
theorem J_aald {a b c n : Nat} {i : Int32} (hX : CXok X Y own cc nL d) (hd : decode cc pc = .ok (.aaload, 1)) (hk : SHk a = c) (hc : c = 14 ∨ c = 15 ∨ c = 16) (hn : LN a = n) (hb : P0 a i.toNatClampNeg = b) (k : inb i n = true → J X Y nL Q (pc + 1) lv (.ref (AD Y b) :: st) G (p = some v)) : J X Y nL Q pc lv (.int i :: .ref (AD Y a) :: st) G (gd (inb i n) p = some v) := by
  intro hφ hw H locs ls hP hS hl
  have hin : vp_in i (LN a) := by rw [hn]; exact inb_in (gd_some hφ).1
  have he : (wcells Y G)[a]? = some (AD Y a, .inl (Y.2.1 c, LN a, .inr (.inr (.inr (.inr fun j => some (AD Y (P0 a j))))))) := by rw [wc_get (sh_lt hk (by omega)), co_ref hk hc]
  have hlt : i.toNatClampNeg < LN a := Nat.not_le.mp fun q => hin (Or.inr q)
  have hkk := k (gd_some hφ).1 (gd_some hφ).2 hw H locs ls hP hS hl
  have h0 : ∃ ty, (tysY Y)[c - 10]? = some (Y.2.1 c, ty) ∧ ty.isReference = true := by
    rcases hc with rfl | rfl | rfl
    · exact ⟨_, rfl, rfl⟩
    · exact ⟨_, rfl, rfl⟩
    · exact ⟨_, rfl, rfl⟩
  obtain ⟨ty, ht, hr⟩ := h0
  refine W.aald (v := va_rf (some (AD Y b))) (ty := ty) hX.1 hX.2.1 (hP a _ he) ((hX.2.2.2.2.2.1.2 _ _ ht).1 (LN a) (fun j => va_rf (some (AD Y (P0 a j))))) hr (fun q => by cases q) (by show ¬ (i < 0 ∨ (arrV _ _ _).slots.size ≤ _); rw [arrV_size]; exact hin) (by show (arrV _ _ _).slots[_]? = _; rw [arrV_read _ _ hlt]; subst hb; rfl) rfl rfl hd hkk

theorem J_iast {a n : Nat} {i x : Int32} {f : GM → Option α} (hX : CXok X Y own cc nL d) (hd : decode cc pc = .ok (.iastore, 1)) (hk : SHk a = 10) (hn : LN a = n) (k : ∀ G1, J X Y nL Q (pc + 1) lv st G1 (f G1 = some v)) : J X Y nL Q pc lv (.int x :: .int i :: .ref (AD Y a) :: st) G (gd (inb i n) (lt (sI G a i.toNatClampNeg x) f) = some v) := fun hφ hw H locs ls hP hS hl =>
  va_iast (n := LN a) (f := G.1 a) hX.1 hX.2.1 hX.2.2.2.2.2.1 hP (wc_D hX.2.2.2.2.2.2.1 G) hS a 0 (by rw [wc_get (sh_lt hk (by omega)), co_int hk (by omega)]) rfl (by rw [hn]; exact inb_in (gd_some hφ).1) hd (fun H1 locs1 hP1 _ hS1 => k (sI G a i.toNatClampNeg x) (gd_some hφ).2 hw H1 locs1 ls (by rw [set_aI hk (by omega)] at hP1; exact hP1) hS1 hl)
theorem J_bast {a n : Nat} {i x : Int32} {f : GM → Option α} (hX : CXok X Y own cc nL d) (hd : decode cc pc = .ok (.bastore, 1)) (hk : SHk a = 11) (hn : LN a = n) (k : ∀ G1, J X Y nL Q (pc + 1) lv st G1 (f G1 = some v)) : J X Y nL Q pc lv (.int x :: .int i :: .ref (AD Y a) :: st) G (gd (inb i n) (lt (sI G a i.toNatClampNeg (vp_nar .byte x)) f) = some v) := fun hφ hw H locs ls hP hS hl =>
  va_bast (n := LN a) (f := G.1 a) hX.1 hX.2.1 hX.2.2.2.2.2.1 hP (wc_D hX.2.2.2.2.2.2.1 G) hS a 1 (by rw [wc_get (sh_lt hk (by omega)), co_int hk (by omega)]) rfl (by rw [hn]; exact inb_in (gd_some hφ).1) hd (fun H1 locs1 hP1 _ hS1 => k (sI G a i.toNatClampNeg (vp_nar .byte x)) (gd_some hφ).2 hw H1 locs1 ls (by rw [set_aI hk (by omega)] at hP1; exact hP1) hS1 hl)
theorem J_zast {a n : Nat} {i x : Int32} {f : GM → Option α} (hX : CXok X Y own cc nL d) (hd : decode cc pc = .ok (.bastore, 1)) (hk : SHk a = 13) (hn : LN a = n) (k : ∀ G1, J X Y nL Q (pc + 1) lv st G1 (f G1 = some v)) : J X Y nL Q pc lv (.int x :: .int i :: .ref (AD Y a) :: st) G (gd (inb i n) (lt (sI G a i.toNatClampNeg (vp_nar .boolean x)) f) = some v) := fun hφ hw H locs ls hP hS hl =>
  va_zast (n := LN a) (f := G.1 a) hX.1 hX.2.1 hX.2.2.2.2.2.1 hP (wc_D hX.2.2.2.2.2.2.1 G) hS a 3 (by rw [wc_get (sh_lt hk (by omega)), co_int hk (by omega)]) rfl (by rw [hn]; exact inb_in (gd_some hφ).1) hd (fun H1 locs1 hP1 _ hS1 => k (sI G a i.toNatClampNeg (vp_nar .boolean x)) (gd_some hφ).2 hw H1 locs1 ls (by rw [set_aI hk (by omega)] at hP1; exact hP1) hS1 hl)
theorem J_last {a n : Nat} {i : Int32} {x : Int64} {f : GM → Option α} (hX : CXok X Y own cc nL d) (hd : decode cc pc = .ok (.lastore, 1)) (hk : SHk a = 12) (hn : LN a = n) (k : ∀ G1, J X Y nL Q (pc + 1) lv st G1 (f G1 = some v)) : J X Y nL Q pc lv (.long x :: .int i :: .ref (AD Y a) :: st) G (gd (inb i n) (lt (sJ G a i.toNatClampNeg x) f) = some v) := fun hφ hw H locs ls hP hS hl =>
  va_last (n := LN a) (f := G.2.1 a) hX.1 hX.2.1 hX.2.2.2.2.2.1 hP (wc_D hX.2.2.2.2.2.2.1 G) hS a 2 (by rw [wc_get (sh_lt hk (by omega)), co_long hk]) rfl (by rw [hn]; exact inb_in (gd_some hφ).1) hd (fun H1 locs1 hP1 _ hS1 => k (sJ G a i.toNatClampNeg x) (gd_some hφ).2 hw H1 locs1 ls (by rw [set_aJ hk] at hP1; exact hP1) hS1 hl)
theorem J_alen {a c n : Nat} (hX : CXok X Y own cc nL d) (hd : decode cc pc = .ok (.arraylength, 1)) (hk : SHk a = c) (hc : c = 10 ∨ c = 12) (hn : LN a = n) (k : J X Y nL Q (pc + 1) lv (.int (Int32.ofNat n) :: st) G φ) : J X Y nL Q pc lv (.ref (AD Y a) :: st) G φ := by
  intro hφ hw H locs ls hP hS hl
  subst hn
  rcases hc with rfl | rfl
  · exact va_alen hX.1 hX.2.1 hX.2.2.2.2.2.1 hP a 0 (x := (LN a, .inl (G.1 a))) (by rw [wc_get (sh_lt hk (by omega)), co_int hk (by omega)]) rfl rfl hd (k hφ hw H locs ls hP hS hl)
  · exact va_alen hX.1 hX.2.1 hX.2.2.2.2.2.1 hP a 2 (x := (LN a, .inr (.inl (G.2.1 a)))) (by rw [wc_get (sh_lt hk (by omega)), co_long hk]) rfl rfl hd (k hφ hw H locs ls hP hS hl)

end JR
