/-! THE CONSTRUCTORS: worlds as lists, addresses in the order of the making (begun from the kit's EXAMPLE.claim and NAMES.whole's va_mna) -/
def A2 (ty : FieldType) (U : State) : Prop := (Cond.arrayOver (.array ty)).before #[] U = true
theorem A2.moved {ty : FieldType} {u U : State} (hvm : u.vm.Alike U.vm) (h : A2 ty u) : A2 ty U := Jvm.Stand.arrayOver_alikeB hvm h
theorem A2.use {ty : FieldType} {A : Array Value} {U : State} (h : A2 ty U) : (Cond.arrayOver (.array ty)).before A U = true := Jvm.Stand.arrayOver_alikeB (Vm.Alike.refl _) h
def AOs (U : State) : Prop := va_AO "BingoHall$Hall" U ∧ A2 .int U ∧ A2 .long U
theorem AOs.moved {u U : State} (hvm : u.vm.Alike U.vm) (h : AOs u) : AOs U := ⟨h.1.moved hvm, h.2.1.moved hvm, h.2.2.moved hvm⟩
theorem ac_g10 : Cond.arrayClass .int ∈ lw_good := (mg 217 (by decide +kernel) rfl)
theorem ac_g11 : Cond.arrayClass .byte ∈ lw_good := (mg 411 (by decide +kernel) rfl)
theorem ac_g12 : Cond.arrayClass .long ∈ lw_good := (mg 433 (by decide +kernel) rfl)
theorem ac_g13 : Cond.arrayClass .boolean ∈ lw_good := (mg 348 (by decide +kernel) rfl)
abbrev WXk (X : CX) (H : Heap) (locs : List Loc) (c k : Nat) (Q : State → Prop) (g : JFrame) : Prop := W X.1 X.2.1 X.2.2.1 (XR X) (XS X) (XM X) (XA X) X.2.2.2.2.2.2.2.1 X.2.2.2.2.2.2.2.2.1 (XC X) H locs c k Q g
def CA (B : Nat) : Nat → Prop := fun q => B ≤ q
def KC (X : CX) (Y : DX) (B nL : Nat) (Q : State → Prop) (pc : Nat) (lv : List (Nat × Value)) (st : List Value) (Wd : va_W) (sz c k : Nat) : Prop :=
  ∀ (H : Heap) (locs : List Loc) (ls : Array Slot), va_P Y.1 cls Wd H → va_D (CA B) Wd → H.size = sz → va_S (CA B) (XS X).heap H locs → lv_has ls nL lv → WXk X H locs c k Q (F0 (XM X) pc ls st)
def CCok (X : CX) (Y : DX) (B : Nat) (own : String) (cc : ByteArray) (nL d Cm Sm : Nat) : Prop :=
  X.1.tables.exec = Jvm.exec ∧ (XC X).code = cc ∧ (XC X).maxLocals = nL ∧ (XS X).vm.findClass own = some (XM X).cls ∧ (∀ w ∈ lw_good, w.before (XA X) (XS X) = true) ∧ va_K Y.1 cls (tysY Y) (XS X) ∧ (∀ w ∈ lw_nest, va_Nw w (XS X)) ∧ (d ≤ (XR X).frames ∧ 200 * d ≤ (XR X).locals ∧ Cm ≤ (XR X).cells ∧ Sm ≤ (XR X).slots) ∧ B ≤ (XS X).heap.size ∧ AOs (XS X)
def RC (Y : DX) (B : Nat) (Wd : va_W) (sz : Nat) (U : State) : Prop := va_P Y.1 cls Wd U.heap ∧ va_D (CA B) Wd ∧ U.heap.size = sz ∧ va_K Y.1 cls (tysY Y) U ∧ (∀ w ∈ lw_nest, va_Nw w U) ∧ B ≤ U.heap.size ∧ AOs U
def rmc (d cm sm : Nat) : Room := { frames := d, cells := cm, slots := sm, locals := 200 * d }
def OkC (Y : DX) (B d : Nat) (M : MI) (cm sm h : Nat) (W0 W1 : va_W) (sz1 : Nat) : Prop := ∀ l, Met l M.1 (wdM M) (rmc d cm sm) (va_Pc [.ref h] (RC Y B W0 (h + 1))) (va_Qv (fun (_ : Unit) => True) (fun _ t => RC Y B W1 sz1 t) (CA B)) cm sm (CA B)
theorem gpx (ws suf : va_W) (i : Nat) : (ws ++ suf)[ws.length + i]? = suf[i]? := by rw [List.getElem?_append_right (by omega)]; congr 1; omega
theorem spx (ws suf : va_W) (i : Nat) (x : Nat × va_E) : (ws ++ suf).set (ws.length + i) x = ws ++ suf.set i x := by rw [List.set_append_right _ _ (by omega)]; congr 2; omega
theorem rc_blind {Y : DX} {B sz : Nat} {Wd : va_W} {A : List Value} : FrameBlind (va_Pc A (RC Y B Wd sz)) := by
  intro a U g mk q
  obtain ⟨q0, qP, qD, qz, qK, qN, qB⟩ := q
  exact ⟨q0, qP, qD, qz, va_K.moved (u := U) (U := U.calling g mk a) (Vm.Alike.refl U.vm) qK, fun w h => nest_same (u := U) (U := U.calling g mk a) h rfl (qN w h), qB.1, AOs.moved (u := U) (U := U.calling g mk a) (Vm.Alike.refl U.vm) qB.2⟩
def LF1 (own : String) (index c j : Nat) : Prop := c < 10 ∧ j < NF c ∧ ∃ q : vw_C, cls[c]? = some q ∧ q.2.2 = NF c ∧ (q.2.1 j).1 = q.1 ∧ (∀ w ∈ u_ws q.1 q.2.1 q.2.2, w ∈ lw_good) ∧ (Cond.fieldLink own index q.1 (q.2.1 j).2.1 (q.2.1 j).2.2.1) ∈ lw_good
def LPf (c j : Nat) (ty : FieldType) : Prop := ∃ q : vw_C, cls[c]? = some q ∧ (∃ ty0 : Nat → FieldType, ∀ k, k < q.2.2 → parseFieldDescriptor (q.2.1 k).2.2.1 = some (ty0 k)) ∧ (∀ a, a < q.2.2 → ∀ b, b < q.2.2 → a ≠ b → (q.2.1 a).2.1 ≠ (q.2.1 b).2.1) ∧ (q.2.1 j).2.2.2 = true ∧ parseFieldDescriptor (q.2.1 j).2.2.1 = some ty
def LCt (own : String) (index : Nat) (M : MI) : Prop := (M.1.cls ≠ "java/lang/invoke/MethodHandle" ∧ M.1.cls ≠ "java/lang/invoke/VarHandle" ∧ (parseMethodDescriptor M.1.desc).map (fun d => d.parameters.length) = some 0) ∧ M.1.name = "<init>" ∧ M.2.2.2 = none ∧ (Cond.code M.1 M.2.1 M.2.2.1 M.2.2.2 ∈ lw_good ∧ Cond.instanceMethod M.1 ∈ lw_good ∧ Cond.initialized M.1.cls ∈ lw_good) ∧ (Cond.methodLink own index M.1 ∈ lw_good ∨ ∃ host, Cond.methodLinkNest own index M.1 host ∈ lw_nest)
section CR
variable {X : CX} {Y : DX} {own : String} {cc : ByteArray} {B nL d dc pc tgt Cm Sm sz sz1 c k c1 k1 cm sm : Nat} {off : Int} {Q : State → Prop} {lv lv' : List (Nat × Value)} {st : List Value} {Wd W1 : va_W} {M : MI}

theorem C_iconst {n : Int} {x : Int32} (hX : CCok X Y B own cc nL d Cm Sm) (hd : decode cc pc = .ok (.iconst n, 1)) (hv : Int32.ofInt n = x) (kk : KC X Y B nL Q (pc + 1) lv (.int x :: st) Wd sz c k) : KC X Y B nL Q pc lv (st) Wd sz c k := fun H locs ls hP hD hz hS hl => lv_iconst hX.1 hX.2.1 hd hv (kk H locs ls hP hD hz hS hl)
theorem C_bipush {n : Int} {x : Int32} (hX : CCok X Y B own cc nL d Cm Sm) (hd : decode cc pc = .ok (.bipush n, 2)) (hv : (Int8.ofInt n).toInt32 = x) (kk : KC X Y B nL Q (pc + 2) lv (.int x :: st) Wd sz c k) : KC X Y B nL Q pc lv (st) Wd sz c k := fun H locs ls hP hD hz hS hl => lv_bipush hX.1 hX.2.1 hd hv (kk H locs ls hP hD hz hS hl)
theorem C_sipush {n : Int} {x : Int32} (hX : CCok X Y B own cc nL d Cm Sm) (hd : decode cc pc = .ok (.sipush n, 3)) (hv : (Int16.ofInt n).toInt32 = x) (kk : KC X Y B nL Q (pc + 3) lv (.int x :: st) Wd sz c k) : KC X Y B nL Q pc lv (st) Wd sz c k := fun H locs ls hP hD hz hS hl => lv_sipush hX.1 hX.2.1 hd hv (kk H locs ls hP hD hz hS hl)
theorem C_lconst {n : Fin 2} {x : Int64} (hX : CCok X Y B own cc nL d Cm Sm) (hd : decode cc pc = .ok (.lconst n, 1)) (hv : Int64.ofNat (n : Nat) = x) (kk : KC X Y B nL Q (pc + 1) lv (.long x :: st) Wd sz c k) : KC X Y B nL Q pc lv (st) Wd sz c k := fun H locs ls hP hD hz hS hl => lv_lconst hX.1 hX.2.1 hd hv (kk H locs ls hP hD hz hS hl)
theorem C_dup {x : Value} (hX : CCok X Y B own cc nL d Cm Sm) (hd : decode cc pc = .ok (.dup, 1)) (hc : x.category = 1) (kk : KC X Y B nL Q (pc + 1) lv (x :: x :: st) Wd sz c k) : KC X Y B nL Q pc lv (x :: st) Wd sz c k := fun H locs ls hP hD hz hS hl => lv_dup hX.1 hX.2.1 hd hc (kk H locs ls hP hD hz hS hl)
theorem C_aload (i : Nat) {k0 : Fin 4} {z : Nat} {x : Nat} (hX : CCok X Y B own cc nL d Cm Sm) (hd : decode cc pc = .ok (.aload_n k0, 1)) (hz0 : (k0 : Nat) = z) (hi : lv[i]? = some (z, .ref x)) (kk : KC X Y B nL Q (pc + 1) lv (.ref x :: st) Wd sz c k) : KC X Y B nL Q pc lv st Wd sz c k := fun H locs ls hP hD hz hS hl => lv_aload_n hX.1 hX.2.1 hd hz0 (lv_at hl i hi) (kk H locs ls hP hD hz hS hl)
theorem C_iload (i : Nat) {k0 : Fin 4} {z : Nat} {x : Int32} (hX : CCok X Y B own cc nL d Cm Sm) (hd : decode cc pc = .ok (.iload_n k0, 1)) (hz0 : (k0 : Nat) = z) (hi : lv[i]? = some (z, .int x)) (kk : KC X Y B nL Q (pc + 1) lv (.int x :: st) Wd sz c k) : KC X Y B nL Q pc lv st Wd sz c k := fun H locs ls hP hD hz hS hl => lv_iload_n hX.1 hX.2.1 hd hz0 (lv_at hl i hi) (kk H locs ls hP hD hz hS hl)
theorem C_istore {k0 : Fin 4} {z : Nat} {x : Int32} (hX : CCok X Y B own cc nL d Cm Sm) (hd : decode cc pc = .ok (.istore_n k0, 1)) (hz0 : (k0 : Nat) = z) (hn : z < nL) (hl2 : (z, Value.int x) :: lv.filter (fun q => !(q.1 == z) && !(q.1 + 1 == z && q.2.category == 2)) = lv') (kk : KC X Y B nL Q (pc + 1) lv' st Wd sz c k) : KC X Y B nL Q pc lv (.int x :: st) Wd sz c k := fun H locs ls hP hD hz hS hl => lv_istore_n hX.1 hX.2.1 hd hz0 hl hn hl2 (fun ls hl => kk H locs ls hP hD hz hS hl)
theorem C_astore {k0 : Fin 4} {z : Nat} {x : Nat} (hX : CCok X Y B own cc nL d Cm Sm) (hd : decode cc pc = .ok (.astore_n k0, 1)) (hz0 : (k0 : Nat) = z) (hn : z < nL) (hl2 : (z, Value.ref x) :: lv.filter (fun q => !(q.1 == z) && !(q.1 + 1 == z && q.2.category == 2)) = lv') (kk : KC X Y B nL Q (pc + 1) lv' st Wd sz c k) : KC X Y B nL Q pc lv (.ref x :: st) Wd sz c k := fun H locs ls hP hD hz hS hl => lv_astore_n hX.1 hX.2.1 hd hz0 hl hn hl2 (fun ls hl => kk H locs ls hP hD hz hS hl)
theorem C_iinc (i : Nat) {z : Nat} {n : Int} {x y : Int32} (hX : CCok X Y B own cc nL d Cm Sm) (hd : decode cc pc = .ok (.iinc z n, 3)) (hi : lv[i]? = some (z, .int x)) (hv : x + Int32.ofInt n = y) (hn : z < nL) (hl2 : (z, Value.int y) :: lv.filter (fun q => !(q.1 == z) && !(q.1 + 1 == z && q.2.category == 2)) = lv') (kk : KC X Y B nL Q (pc + 3) lv' st Wd sz c k) : KC X Y B nL Q pc lv st Wd sz c k := fun H locs ls hP hD hz hS hl => lv_iinc hX.1 hX.2.1 hd hl hi hv hn hl2 (fun ls hl => kk H locs ls hP hD hz hS hl)
theorem C_goto (hX : CCok X Y B own cc nL d Cm Sm) (hd : decode cc pc = .ok (.goto off, 3)) (ht : (pc : Int) + off = (tgt : Int)) (kk : KC X Y B nL Q tgt lv st Wd sz c k) : KC X Y B nL Q pc lv st Wd sz c k := fun H locs ls hP hD hz hS hl => lv_goto hX.1 hX.2.1 hd ht (kk H locs ls hP hD hz hS hl)
theorem C_geY {x y : Int32} (hX : CCok X Y B own cc nL d Cm Sm) (hd : decode cc pc = .ok (.if_icmp .ge off, 3)) (ht : (pc : Int) + off = (tgt : Int)) (h : y ≤ x) (kk : KC X Y B nL Q tgt lv st Wd sz c k) : KC X Y B nL Q pc lv (.int y :: .int x :: st) Wd sz c k := fun H locs ls hP hD hz hS hl => lv_icmp_ge hX.1 hX.2.1 hd ht (fun _ => kk H locs ls hP hD hz hS hl) (fun q => absurd h q)
theorem C_geN {x y : Int32} (hX : CCok X Y B own cc nL d Cm Sm) (hd : decode cc pc = .ok (.if_icmp .ge off, 3)) (ht : (pc : Int) + off = (tgt : Int)) (h : ¬ y ≤ x) (kk : KC X Y B nL Q (pc + 3) lv st Wd sz c k) : KC X Y B nL Q pc lv (.int y :: .int x :: st) Wd sz c k := fun H locs ls hP hD hz hS hl => lv_icmp_ge hX.1 hX.2.1 hd ht (fun q => absurd q h) (fun _ => kk H locs ls hP hD hz hS hl)
theorem C_obj {idx a : Nat} (hX : CCok X Y B own cc nL d Cm Sm) (hd : decode cc pc = .ok (.invokespecial idx, 3)) (h1 : Cond.methodLink own idx objectInit ∈ lw_good) (h2 : Cond.instanceMethod objectInit ∈ lw_good) (h3 : Cond.code objectInit ⟨#[0xb1]⟩ 1 none ∈ lw_good) (hdd : 1 ≤ d) (kk : KC X Y B nL Q (pc + 3) lv [] Wd sz c k) : KC X Y B nL Q pc lv [.ref a] Wd sz c k := fun H locs ls hP hD hz hS hl => by
  obtain ⟨r1, r2, r3, r4⟩ := hX.2.2.2.2.2.2.2.1
  exact W.objInit hX.1 hX.2.1 hX.2.2.2.1 (hX.2.2.2.2.1 _ h1) (hX.2.2.2.2.1 _ h2) (hX.2.2.2.2.1 _ h3) rfl (hl.1.trans hX.2.2.1.symm) rfl hd (by omega) (by have h9 : 2 * (F0 (XM X) pc ls [Value.ref a]).monitorRoom + ((([] : List Value).map fun v => v.category).sum) ≤ 8 := lv_room (Nat.zero_le _); omega) (kk H locs ls hP hD hz hS hl)
theorem C_new {C : String} {T : u_T} {N ci index : Nat} (hX : CCok X Y B own cc nL d Cm Sm) (hd : decode cc pc = .ok (.new index, 3)) (hcl : Cond.classLink own index C ∈ lw_good) (hins : Cond.instantiable C N ∈ lw_good) (hini : Cond.initialized C ∈ lw_good) (hc : cls[ci]? = some (C, T, N)) (hws : ∀ w ∈ u_ws C T N, w ∈ lw_good) (ty : Nat → FieldType) (hty : ∀ k, k < N → parseFieldDescriptor (T k).2.2.1 = some (ty k)) {fs : List Value} (hfs : ∀ j, j < N → defaultValue (ty j) = vp_V fs j) (hC : c + 1 ≤ Cm) (hSm : k + N ≤ Sm) (hsz : sz + 1 = sz1) (hc1 : c + 1 = c1) (hk1 : k + N = k1)
    (kk : KC X Y B nL Q (pc + 3) lv (.ref sz :: st) (Wd ++ [(sz, .inr (ci, fs))]) sz1 c1 k1) : KC X Y B nL Q pc lv st Wd sz c k := by
  intro H locs ls hP hD hz hS hl
  subst hsz; subst hc1; subst hk1
  obtain ⟨r1, r2, r3, r4⟩ := hX.2.2.2.2.2.2.2.1
  have hts := hX.2.2.2.2.1
  have hKn := hX.2.2.2.2.2.1.1 ci _ hc
  have hB := hX.2.2.2.2.2.2.2.2.1
  refine W.newcK hX.1 hX.2.1 hX.2.2.2.1 (hts _ hcl) (hts _ hins) (hts _ hini) rfl hd (by omega) (by omega) hKn.2.1 hz fun H1 kC hkC e1 z1 o1 => ?_
  have hk : ∀ (k : Nat) (x : Nat × va_E), Wd[k]? = some x → H1[x.1]? = H[x.1]? := fun k x hx => o1 x.1 (by rw [← hz]; exact (hP k x hx).lt)
  refine kk H1 locs ls ((hP.kept hk).app (fun k x hx => ?_)) (hD.push hP hz.symm (by show B ≤ sz; have := hS.1; omega)) z1 ⟨by have := hS.1; omega, fun x h1 h2 => (o1 x (by have := hS.1; omega)).trans (hS.2.1 x h1 h2), hS.2.2⟩ hl
  have hz0 : k < 1 := (List.getElem?_eq_some_iff.mp hx).1
  rw [show k = 0 by omega] at hx
  cases hx
  exact ⟨_, hc, (u_born ty hts hws hKn hkC e1 hty).to hfs⟩
theorem C_newaI {atype : ArrayType} {ty : FieldType} {kd n : Nat} {n0 : Int32} (hX : CCok X Y B own cc nL d Cm Sm) (hd : decode cc pc = .ok (.newarray atype, 2)) (hty : newarray.typeOf atype = ty) (hdv : defaultValue ty = .int 0) (harr : Cond.arrayClass ty ∈ lw_good) (hra : va_RA (XS X) (Y.2.1 kd) ty → (XS X).vm.findClass ("[" ++ ty.toString) = some (Y.2.1 kd)) (hk0 : (tysY Y)[kd - 10]? = some (Y.2.1 kd, ty)) (hn : ¬ n0 < 0) (hN : n0.toNatClampNeg = n) (hbytes : n * componentBytes ty ≤ 536870912) (hC : c + 1 ≤ Cm) (hSm : k + n ≤ Sm) (hsz : sz + 1 = sz1) (hc1 : c + 1 = c1) (hk1 : k + n = k1)
    (kk : KC X Y B nL Q (pc + 2) lv (.ref sz :: st) (Wd ++ [(sz, .inl (Y.2.1 kd, n, .inl fun _ => 0))]) sz1 c1 k1) : KC X Y B nL Q pc lv (.int n0 :: st) Wd sz c k := by
  intro H locs ls hP hD hz hS hl
  subst hsz; subst hty; subst hc1; subst hk1
  obtain ⟨r1, r2, r3, r4⟩ := hX.2.2.2.2.2.2.2.1
  have hB := hX.2.2.2.2.2.2.2.2.1
  refine va_newaK hX.1 hX.2.1 (hX.2.2.2.2.1 _ harr) rfl hd rfl hn hN hbytes (by omega) (by omega) hz fun H1 cA e1 z1 o1 hAr hNm => ?_
  have hcA : cA = Y.2.1 kd := Option.some.inj (hNm.symm.trans (hra (hX.2.2.2.2.2.1.2 _ _ hk0).2))
  subst hcA
  have hk : ∀ (k : Nat) (x : Nat × va_E), Wd[k]? = some x → H1[x.1]? = H[x.1]? := fun k x hx => o1 x.1 (by rw [← hz]; exact (hP k x hx).lt)
  refine kk H1 locs ls ((hP.kept hk).app (fun k x hx => ?_)) (hD.push hP hz.symm (by show B ≤ sz; have := hS.1; omega)) z1 ⟨by have := hS.1; omega, fun x h1 h2 => (o1 x (by have := hS.1; omega)).trans (hS.2.1 x h1 h2), hS.2.2⟩ hl
  have hz0 : k < 1 := (List.getElem?_eq_some_iff.mp hx).1
  rw [show k = 0 by omega] at hx
  cases hx
  rw [hdv] at e1
  exact e1
theorem C_newaJ {n : Nat} {n0 : Int32} (hX : CCok X Y B own cc nL d Cm Sm) (hd : decode cc pc = .ok (.newarray .long, 2)) (hn : ¬ n0 < 0) (hN : n0.toNatClampNeg = n) (hbytes : n * componentBytes .long ≤ 536870912) (hC : c + 1 ≤ Cm) (hSm : k + n ≤ Sm) (hsz : sz + 1 = sz1) (hc1 : c + 1 = c1) (hk1 : k + n = k1)
    (kk : KC X Y B nL Q (pc + 2) lv (.ref sz :: st) (Wd ++ [(sz, .inl (Y.2.1 12, n, .inr (.inl fun _ => 0)))]) sz1 c1 k1) : KC X Y B nL Q pc lv (.int n0 :: st) Wd sz c k := by
  intro H locs ls hP hD hz hS hl
  subst hsz; subst hc1; subst hk1
  obtain ⟨r1, r2, r3, r4⟩ := hX.2.2.2.2.2.2.2.1
  have hB := hX.2.2.2.2.2.2.2.2.1
  refine va_newaK (atype := .long) hX.1 hX.2.1 (hX.2.2.2.2.1 _ ac_g12) rfl hd rfl hn hN hbytes (by omega) (by omega) hz fun H1 cA e1 z1 o1 hAr hNm => ?_
  have h9 : (XS X).vm.findClass ("[" ++ FieldType.long.toString) = some (Y.2.1 12) := (hX.2.2.2.2.2.1.2 2 _ rfl).2
  have hcA : cA = Y.2.1 12 := Option.some.inj (hNm.symm.trans h9)
  subst hcA
  have hk : ∀ (k : Nat) (x : Nat × va_E), Wd[k]? = some x → H1[x.1]? = H[x.1]? := fun k x hx => o1 x.1 (by rw [← hz]; exact (hP k x hx).lt)
  refine kk H1 locs ls ((hP.kept hk).app (fun k x hx => ?_)) (hD.push hP hz.symm (by show B ≤ sz; have := hS.1; omega)) z1 ⟨by have := hS.1; omega, fun x h1 h2 => (o1 x (by have := hS.1; omega)).trans (hS.2.1 x h1 h2), hS.2.2⟩ hl
  have hz0 : k < 1 := (List.getElem?_eq_some_iff.mp hx).1
  rw [show k = 0 by omega] at hx
  cases hx
  exact e1
theorem C_anew {n index : Nat} {n0 : Int32} (hX : CCok X Y B own cc nL d Cm Sm) (hd : decode cc pc = .ok (.anewarray index, 3)) (hcl : Cond.classLink own index "BingoHall$Hall" ∈ lw_good) (hn : ¬ n0 < 0) (hN : n0.toNatClampNeg = n) (hbytes : n * 4 ≤ 536870912) (hC : c + 1 ≤ Cm) (hSm : k + n ≤ Sm) (hsz : sz + 1 = sz1) (hc1 : c + 1 = c1) (hk1 : k + n = k1)
    (kk : KC X Y B nL Q (pc + 3) lv (.ref sz :: st) (Wd ++ [(sz, .inl (Y.2.1 16, n, .inr (.inr (.inr (.inr fun _ => none)))))]) sz1 c1 k1) : KC X Y B nL Q pc lv (.int n0 :: st) Wd sz c k := by
  intro H locs ls hP hD hz hS hl
  subst hsz; subst hN; subst hc1; subst hk1
  obtain ⟨r1, r2, r3, r4⟩ := hX.2.2.2.2.2.2.2.1
  have hB := hX.2.2.2.2.2.2.2.2.1
  refine W.anew hX.1 hX.2.1 hX.2.2.2.1 (hX.2.2.2.2.1 _ hcl) (va_AO.use hX.2.2.2.2.2.2.2.2.2.1) rfl hd rfl hn hbytes (by omega) (by omega) fun cA kA comp f1 f2 f3 f4 => ?_
  obtain ⟨kA9, comp9, g1, g2, g3, g4⟩ := (hX.2.2.2.2.2.1.2 6 _ rfl).2
  have hcA : cA = Y.2.1 16 := Option.some.inj (f1.symm.trans g4)
  subst hcA
  generalize hH1 : H.push ({ cls := Y.2.1 16, slots := Array.replicate n0.toNatClampNeg .null, vm := .none } : Cell) = H1
  have z1 : H1.size = sz + 1 := by rw [← hH1, Array.size_push, hz]
  have e1 : H1[sz]? = some (arrV (Y.2.1 16) n0.toNatClampNeg (fun _ => .null)) := by rw [← hH1, ← hz, Array.getElem?_push_size, ← arrV_new]
  have o1 : ∀ q, q < sz → H1[q]? = H[q]? := fun q hq => by rw [← hH1, Array.getElem?_push, if_neg (by omega)]
  have hk : ∀ (k : Nat) (x : Nat × va_E), Wd[k]? = some x → H1[x.1]? = H[x.1]? := fun k x hx => o1 x.1 (by rw [← hz]; exact (hP k x hx).lt)
  rw [hz]
  refine kk H1 locs ls ((hP.kept hk).app (fun k x hx => ?_)) (hD.push hP hz.symm (by show B ≤ sz; have := hS.1; omega)) z1 ⟨by have := hS.1; omega, fun x h1 h2 => (o1 x (by have := hS.1; omega)).trans (hS.2.1 x h1 h2), hS.2.2⟩ hl
  have hz0 : k < 1 := (List.getElem?_eq_some_iff.mp hx).1
  rw [show k = 0 by omega] at hx
  cases hx
  exact e1
theorem vr_outer (c : ClassId) (N h0 : Nat) : ∀ i : Nat, Jvm.Free.Multi.outerC c N h0 i = arrV c N (fun j => va_rf (if j < i then some (h0 + 1 + j) else none))
  | 0 => by
    show ({ cls := c, slots := Array.replicate N .null, vm := .none } : Cell) = _
    rw [arrV_new]
    refine congrArg (arrV c N) (funext fun j => ?_)
    simp [va_rf]
  | i + 1 => by
    show (Jvm.Free.Multi.outerC c N h0 i).setSlot i (.ref (h0 + 1 + i)) = _
    rw [vr_outer c N h0 i, arrV_store]
    refine congrArg (arrV c N) (funext fun j => ?_)
    by_cases e : j = i
    · subst e
      simp [updV, va_rf]
    · by_cases h : j < i
      · simp [updV, e, h, Nat.lt_succ_of_lt h]
      · simp [updV, e, h, show ¬ j < i + 1 by omega]
theorem va_D.push2 {A : Nat → Prop} {ws : va_W} {D : va_G} {cl : List vw_C} {H : Heap} {h n : Nat} {e0 e : va_E} (hD : va_D A ws) (hP : va_P D cl ws H) (hh : H.size = h) (hA : ∀ q, h ≤ q → A q) : va_D A (ws ++ ((h, e0) :: (List.range n).map fun i => (h + 1 + i, e))) := by
  have hs : ∀ (k : Nat) (q : Nat × va_E), (((h, e0) :: (List.range n).map fun i => (h + 1 + i, e)) : va_W)[k]? = some q → q.1 = h + k := by
    intro k q hk
    cases k with
    | zero => cases hk; rfl
    | succ k =>
      rw [List.getElem?_cons_succ, List.getElem?_map] at hk
      by_cases hn : k < n
      · rw [List.getElem?_range hn] at hk
        cases hk
        show h + 1 + k = h + (k + 1)
        omega
      · have hn0 : (List.range n)[k]? = none := List.getElem?_eq_none (by rw [List.length_range]; omega)
        rw [hn0] at hk
        cases hk
  refine ⟨fun i j p q hi hj hpq => ?_, fun k q hk => ?_⟩
  · by_cases h1 : i < ws.length <;> by_cases h2 : j < ws.length
    · rw [List.getElem?_append_left h1] at hi
      rw [List.getElem?_append_left h2] at hj
      exact hD.1 i j p q hi hj hpq
    · rw [List.getElem?_append_left h1] at hi
      rw [List.getElem?_append_right (by omega)] at hj
      have := (hP i p hi).lt
      have := hs _ _ hj
      omega
    · rw [List.getElem?_append_right (by omega)] at hi
      rw [List.getElem?_append_left h2] at hj
      have := (hP j q hj).lt
      have := hs _ _ hi
      omega
    · rw [List.getElem?_append_right (by omega)] at hi hj
      have := hs _ _ hi
      have := hs _ _ hj
      omega
  · by_cases h1 : k < ws.length
    · rw [List.getElem?_append_left h1] at hk
      exact hD.2 k q hk
    · rw [List.getElem?_append_right (by omega)] at hk
      have := hs _ _ hk
      exact hA _ (by omega)
theorem C_mna {ty : FieldType} {index kd kd2 : Nat} {n0 m0 : Int32} {n m : Nat} {z : vp_A} (hX : CCok X Y B own cc nL d Cm Sm) (hd : decode cc pc = .ok (.multianewarray index 2, 4)) (hcl : Cond.classLink own index ("[" ++ (FieldType.array ty).toString) ∈ lw_good) (hov : A2 ty (XS X)) (harr : Cond.arrayClass ty ∈ lw_good) (hra : va_RA (XS X) (Y.2.1 kd2) ty → (XS X).vm.findClass (FieldType.array ty).toString = some (Y.2.1 kd2)) (hk0 : (tysY Y)[kd - 10]? = some (Y.2.1 kd, .array ty)) (hk2 : (tysY Y)[kd2 - 10]? = some (Y.2.1 kd2, ty))
    (hn : ¬ n0 < 0) (hm : ¬ m0 < 0) (hN : n0.toNatClampNeg = n) (hM : m0.toNatClampNeg = m) (hb1 : n * 4 ≤ 536870912) (hb2 : m * componentBytes ty ≤ 536870912) (hb3 : m ≤ 536870912) (hdf : fits ty (defaultValue ty) = true) (hdd : (defaultValue ty).isDefault = true) (hz0 : ∀ cq : ClassId, Jvm.Free.Multi.innerC cq m (defaultValue ty) = vp_cell cq z) (hC : c + (1 + n) ≤ Cm) (hSm : k + (n + n * m) ≤ Sm) (hsz : sz + 1 + n = sz1) (hc1 : c + 1 + n = c1) (hk1 : k + n + n * m = k1)
    (kk : KC X Y B nL Q (pc + 4) lv (.ref sz :: st) (Wd ++ ((sz, .inl (Y.2.1 kd, n, .inr (.inr (.inr (.inr fun j => if j < n then some (sz + 1 + j) else none))))) :: (List.range n).map fun j => (sz + 1 + j, .inl (Y.2.1 kd2, z)))) sz1 c1 k1) : KC X Y B nL Q pc lv (.int m0 :: .int n0 :: st) Wd sz c k := by
  intro H locs ls hP hD hz hS hl T hT Xs
  subst hsz; subst hN; subst hM; subst hc1; subst hk1
  obtain ⟨r1, r2, r3, r4⟩ := hX.2.2.2.2.2.2.2.1
  have hB := hX.2.2.2.2.2.2.2.2.1
  have hts := hX.2.2.2.2.1
  obtain ⟨vm₁, cA, comp, -, fA, fC, hO, -, X', step⟩ := Xs.multianewarray2F hX.1 hX.2.2.2.1 (hts _ hcl) hov.use (hts _ harr) (g := F0 (XM X) pc ls (.int m0 :: .int n0 :: st)) rfl (by rw [hX.2.1]; exact hd) rfl hn hm hb1 hb2 hb3 hdf hdd (by omega) (by omega)
  have ec : comp = Y.2.1 kd2 := Option.some.inj (fC.symm.trans (hra (hX.2.2.2.2.2.1.2 _ _ hk2).2))
  have ea : cA = Y.2.1 kd := Option.some.inj (fA.symm.trans (hX.2.2.2.2.2.1.2 _ _ hk0).2)
  subst ec; subst ea
  have hTh : (T.setVm vm₁).heap = H := hT
  obtain ⟨f1, f2, -, -⟩ := Jvm.Free.Multi.fill_facts (T.setVm vm₁) (Y.2.1 kd) (Y.2.1 kd2) n0.toNatClampNeg m0.toNatClampNeg (defaultValue ty) n0.toNatClampNeg
  have hold : ∀ x : Nat, x < H.size → (Jvm.Free.Multi.fill (T.setVm vm₁) (Y.2.1 kd) (Y.2.1 kd2) n0.toNatClampNeg m0.toNatClampNeg (defaultValue ty) n0.toNatClampNeg).heap[x]? = H[x]? := fun x hx => by
    have := Jvm.Free.Multi.fill_old (T.setVm vm₁) (Y.2.1 kd) (Y.2.1 kd2) n0.toNatClampNeg m0.toNatClampNeg (defaultValue ty) (a := x) (by rw [hTh]; exact hx) n0.toNatClampNeg
    rw [hTh] at this
    exact this
  have hrow : ∀ j : Nat, j < n0.toNatClampNeg → (Jvm.Free.Multi.fill (T.setVm vm₁) (Y.2.1 kd) (Y.2.1 kd2) n0.toNatClampNeg m0.toNatClampNeg (defaultValue ty) n0.toNatClampNeg).heap[H.size + 1 + j]? = some (vp_cell (Y.2.1 kd2) z) := fun j hj => by
    have := Jvm.Free.Multi.fill_inner (T.setVm vm₁) (Y.2.1 kd) (Y.2.1 kd2) n0.toNatClampNeg m0.toNatClampNeg (defaultValue ty) n0.toNatClampNeg j hj
    rw [hTh, hz0] at this
    exact this
  rw [hTh] at f1 f2
  generalize Jvm.Free.Multi.fill (T.setVm vm₁) (Y.2.1 kd) (Y.2.1 kd2) n0.toNatClampNeg m0.toNatClampNeg (defaultValue ty) n0.toNatClampNeg = F at X' step f1 f2 hold hrow
  have hout : Jvm.Free.Multi.outerC (Y.2.1 kd) n0.toNatClampNeg H.size n0.toNatClampNeg = vp_cell (Y.2.1 kd) (n0.toNatClampNeg, .inr (.inr (.inr (.inr (fun i => if i < n0.toNatClampNeg then some (H.size + 1 + i) else none))))) := by
    rw [vp_cell_q]
    exact vr_outer (Y.2.1 kd) n0.toNatClampNeg H.size n0.toNatClampNeg
  rw [hout] at f2
  rw [hz] at f1 f2 hrow hold
  have hP1 : va_P Y.1 cls (Wd ++ ((sz, .inl (Y.2.1 kd, n0.toNatClampNeg, .inr (.inr (.inr (.inr fun j => if j < n0.toNatClampNeg then some (sz + 1 + j) else none))))) :: (List.range n0.toNatClampNeg).map fun j => (sz + 1 + j, .inl (Y.2.1 kd2, z)))) F.heap := by
    refine (hP.kept (fun k9 x hx => hold x.1 (by rw [← hz]; exact (hP k9 x hx).lt))).app (fun k9 x hx => ?_)
    cases k9 with
    | zero => cases hx; exact f2
    | succ k9 =>
      rw [List.getElem?_cons_succ, List.getElem?_map] at hx
      by_cases hn9 : k9 < n0.toNatClampNeg
      · rw [List.getElem?_range hn9] at hx
        cases hx
        exact hrow k9 hn9
      · have hn0 : (List.range n0.toNatClampNeg)[k9]? = none := List.getElem?_eq_none (by rw [List.length_range]; omega)
        rw [hn0] at hx
        cases hx
  obtain ⟨t, a1, b1⟩ := kk F.heap locs ls hP1 (hD.push2 hP hz (fun q hq => by show B ≤ q; have := hS.1; omega)) f1 ⟨by have := hS.1; omega, fun x h1 h2 => (hold x (by have := hS.1; omega)).trans (hS.2.1 x h1 h2), hS.2.2⟩ hl F rfl X'
  refine ⟨t, step t ?_, b1⟩
  have e : T.heap.size = sz := by rw [hT, hz]
  rw [e]
  exact a1
theorem C_putF {i a ci j index : Nat} {fs : List Value} {v0 : Value} {ty : FieldType} (hX : CCok X Y B own cc nL d Cm Sm) (hin2 : X.2.2.2.2.2.2.2.2.1.name = "<init>") (hd : decode cc pc = .ok (.putfield index, 3)) (hF : LF1 own index ci j) (hL : LPf ci j ty) (hown : (cls[ci]?).map (fun q => q.1) = some own) (hg : Wd[i]? = some (a, .inr (ci, fs))) (hfs : fs.length = NF ci) (hn : narrow ty v0 = v0) (hfit : fits ty v0 = true) (hset : Wd.set i (a, .inr (ci, fs.set j v0)) = W1) (kk : KC X Y B nL Q (pc + 3) lv st W1 sz c k) : KC X Y B nL Q pc lv (v0 :: .ref a :: st) Wd sz c k := by
  intro H locs ls hP hD hz hS hl
  obtain ⟨hcj, hj, ⟨C, T, N⟩, h1, h2, h3, h4, h5⟩ := hF
  obtain ⟨q, g1, ⟨ty0, g2⟩, g3, g4, g5⟩ := hL
  cases Option.some.inj (h1.symm.trans g1)
  dsimp only at h2 h3 h4 h5 g2 g3 g4 g5
  obtain ⟨q9, hq1, hq2⟩ := Option.map_eq_some_iff.mp hown
  cases Option.some.inj (h1.symm.trans hq1)
  dsimp only at hq2
  have hts := hX.2.2.2.2.1
  have hK := hX.2.2.2.2.2.1
  have hk : j < N := by omega
  have hap := va_apart (own := own) hts h4 ty0 g2 g3 hK h1
  obtain ⟨r, e0, cell, q1, q2, q3, q4⟩ := hP i _ hg
  have hr : r = (C, T, N) := Option.some.inj (e0.symm.trans h1)
  subst hr
  obtain ⟨hSl, hfc, kC, hkC, hkind⟩ := hK.1 ci _ h1
  obtain ⟨cf, kf, fi, f, hi, hsl⟩ := hSl j hk
  have hlay := hts _ (h4 _ (u_in_lay hk))
  unfold u_lay at hlay
  rw [if_pos g4] at hlay
  have hst := (u_facts hfc hkC (u_lays hts h4 hk) hi).1
  have hcf : (XM X).cls = cf := by
    obtain ⟨_, _, c', _, _, _, -, -, hf', -, -, -, hown2, -⟩ := Cond.laysFinal_spec hlay
    have e1 : c' = cf := by have := hi.symm.trans hf'; simp at this; exact this.1.symm
    rw [h3, hq2] at hown2
    rw [← e1]; exact Option.some.inj (hX.2.2.2.1.symm.trans hown2)
  have h6 := u_fits hfc hkC hkind (Or.inr hlay) hi g5 hn hfit
  refine W.putFinK hX.1 hX.2.1 hX.2.2.2.1 (hts _ h5) (by have h9 := hi; rw [h3] at h9; exact h9) hst hcf hin2 (by rw [q2]; exact h6) q1 q3 (by rw [hsl]; exact k2_hasslot (q4 j hk)) rfl rfl hd fun H' e1 e2 e3 => ?_
  rw [hsl] at e1 ⊢
  exact kk H' _ ls (hset ▸ hP.set hD hg ⟨_, h1, t_OB.to (V := updV (vp_V fs) j v0) ⟨_, e1, q2, q3, t_set q4 hap hk v0⟩ (fun x _ => vp_updV_set (by omega) v0 x)⟩ e3) (hset ▸ hD.set hg) (e2.trans hz) (hS.put e2 e3 (hD.2 i _ hg)) hl
theorem C_putN {i a ci j index : Nat} {fs : List Value} {v0 : Value} {ty : FieldType} (hX : CCok X Y B own cc nL d Cm Sm) (hd : decode cc pc = .ok (.putfield index, 3)) (hF : LF own index ci j) (hL : LPt ci j ty) (hg : Wd[i]? = some (a, .inr (ci, fs))) (hfs : fs.length = NF ci) (hn : narrow ty v0 = v0) (hfit : fits ty v0 = true) (hset : Wd.set i (a, .inr (ci, fs.set j v0)) = W1) (kk : KC X Y B nL Q (pc + 3) lv st W1 sz c k) : KC X Y B nL Q pc lv (v0 :: .ref a :: st) Wd sz c k := by
  intro H locs ls hP hD hz hS hl
  obtain ⟨hcj, hj, ⟨C, T, N⟩, h1, h2, h3, h4, h5⟩ := hF
  obtain ⟨q, g1, ⟨ty0, g2⟩, g3, g4, g5⟩ := hL
  cases Option.some.inj (h1.symm.trans g1)
  dsimp only at h2 h3 h4 h5 g2 g3 g4 g5
  have hts := hX.2.2.2.2.1
  have hK := hX.2.2.2.2.2.1
  have hk : j < N := by omega
  have hap := va_apart (own := own) hts h4 ty0 g2 g3 hK h1
  obtain ⟨r, e0, cell, q1, q2, q3, q4⟩ := hP i _ hg
  have hr : r = (C, T, N) := Option.some.inj (e0.symm.trans h1)
  subst hr
  obtain ⟨hSl, hfc, kC, hkC, hkind⟩ := hK.1 ci _ h1
  obtain ⟨cf, kf, fi, f, hi, hsl⟩ := hSl j hk
  have hlay := hts _ (h4 _ (u_in_lay hk))
  unfold u_lay at hlay
  rw [if_neg (by rw [g4]; decide)] at hlay
  have hst := (u_facts hfc hkC (u_lays hts h4 hk) hi).1
  have h6 := u_store hfc hkC hkind hlay hi g5 hn hfit
  have hi2 := hi
  rw [h3] at hi2
  rcases h5 with h5 | ⟨host, h5⟩
  · refine W.putK hX.1 hX.2.1 (f := f) ⟨hX.2.2.2.1, hts _ h5, ⟨_, _, _, hi2⟩, hst⟩ (by rw [q2]; exact h6) q1 q3 (by rw [hsl]; exact k2_hasslot (q4 j hk)) rfl rfl hd fun H' e1 e2 e3 => ?_
    rw [hsl] at e1 ⊢
    refine kk H' _ ls (hset ▸ hP.set hD hg ⟨_, h1, t_OB.to (V := updV (vp_V fs) j v0) ⟨_, e1, q2, q3, t_set q4 hap hk v0⟩ (fun x _ => vp_updV_set (by omega) v0 x)⟩ e3) (hset ▸ hD.set hg) (e2.trans hz) (hS.put e2 e3 (hD.2 i _ hg)) hl
  · refine va_WputK hX.1 hX.2.1 (f := f) hX.2.2.2.1 (va_Nw.use rfl (hX.2.2.2.2.2.2.1 _ h5)) hi2 hst (by rw [q2]; exact h6) q1 q3 (by rw [hsl]; exact k2_hasslot (q4 j hk)) rfl rfl hd fun H' e1 e2 e3 => ?_
    rw [hsl] at e1 ⊢
    refine kk H' _ ls (hset ▸ hP.set hD hg ⟨_, h1, t_OB.to (V := updV (vp_V fs) j v0) ⟨_, e1, q2, q3, t_set q4 hap hk v0⟩ (fun x _ => vp_updV_set (by omega) v0 x)⟩ e3) (hset ▸ hD.set hg) (e2.trans hz) (hS.put e2 e3 (hD.2 i _ hg)) hl
theorem C_get {i a ci j index : Nat} {fs : List Value} {v0 : Value} (hX : CCok X Y B own cc nL d Cm Sm) (hd : decode cc pc = .ok (.getfield index, 3)) (hF : LF own index ci j) (hg : Wd[i]? = some (a, .inr (ci, fs))) (hv : fs[j]? = some v0) (kk : KC X Y B nL Q (pc + 3) lv (v0 :: st) Wd sz c k) : KC X Y B nL Q pc lv (.ref a :: st) Wd sz c k := by
  intro H locs ls hP hD hz hS hl
  obtain ⟨hcj, hj, ⟨C, T, N⟩, h1, h2, h3, h4, h5⟩ := hF
  dsimp only at h2 h3 h4 h5
  rcases h5 with h5 | ⟨host, h5⟩
  · exact va_get hX.1 hX.2.1 hX.2.2.2.2.1 h4 hX.2.2.2.1 hX.2.2.2.2.2.1 hP i hg h1 j (by omega) (hX.2.2.2.2.1 _ h5) (fun x hx => by rw [h3] at hx; exact hx) hv hd (kk H locs ls hP hD hz hS hl)
  · exact va_getN hX.1 hX.2.1 hX.2.2.2.2.1 h4 hX.2.2.2.1 hX.2.2.2.2.2.1 hP i hg h1 j (by omega) (va_Nw.use rfl (hX.2.2.2.2.2.2.1 _ h5)) (fun x hx => by rw [h3] at hx; exact hx) hv hd (kk H locs ls hP hD hz hS hl)
theorem C_iast {q0 a n : Nat} {i x : Int32} {f : Nat → Int32} (hX : CCok X Y B own cc nL d Cm Sm) (hd : decode cc pc = .ok (.iastore, 1)) (ha : Wd[q0]? = some (a, .inl (Y.2.1 10, n, .inl f))) (hin : inb i n = true) (hset : Wd.set q0 (a, .inl (Y.2.1 10, n, .inl (upd f i.toNatClampNeg x))) = W1) (kk : KC X Y B nL Q (pc + 1) lv st W1 sz c k) : KC X Y B nL Q pc lv (.int x :: .int i :: .ref a :: st) Wd sz c k := by
  intro H locs ls hP hD hz hS hl
  have hin := inb_in hin
  refine W.iast hX.1 hX.2.1 (hP q0 _ ha) ((hX.2.2.2.2.2.1.2 0 _ rfl).1 n (fun j => .int (f j))) (fun q => by cases q) (by show ¬ (i < 0 ∨ (arrV _ _ _).slots.size ≤ _); rw [arrV_size]; exact hin) rfl rfl hd fun H1 e z oq => ?_
  refine kk H1 _ ls (hset ▸ hP.set hD ha ?_ oq) (hset ▸ hD.set ha) (z.trans hz) (hS.put z oq (hD.2 q0 _ ha)) hl
  show H1[a]? = some (vp_cell _ _)
  rw [e]
  rw [vp_cell_i, vp_cell_i, arrV_store]
  congr 2
  funext j
  simp [upd, updV]
  split <;> rfl
theorem C_aast {q0 qk a n v : Nat} {i : Int32} {f : Nat → Option Nat} {vs : List Value} (hX : CCok X Y B own cc nL d Cm Sm) (hd : decode cc pc = .ok (.aastore, 1)) (ha : Wd[q0]? = some (a, .inl (Y.2.1 16, n, .inr (.inr (.inr (.inr f)))))) (hv : Wd[qk]? = some (v, .inr (4, vs))) (hin : inb i n = true) (hset : Wd.set q0 (a, .inl (Y.2.1 16, n, .inr (.inr (.inr (.inr (va_up f i.toNatClampNeg (some v))))))) = W1) (kk : KC X Y B nL Q (pc + 1) lv st W1 sz c k) : KC X Y B nL Q pc lv (.ref v :: .int i :: .ref a :: st) Wd sz c k := by
  intro H locs ls hP hD hz hS hl
  have hin := inb_in hin
  have hlt : i.toNatClampNeg < n := Nat.not_le.mp fun q => hin (Or.inr q)
  have h0 : ¬ i < 0 := fun q => hin (Or.inl q)
  have hK := hX.2.2.2.2.2.1
  obtain ⟨r', hr', cellV, g1, g2, g3, -⟩ := hP qk _ hv
  have hcls := (hK.1 4 (RX5, TX5, 10) rfl).2
  obtain ⟨kA, comp, k1, k2, k3, -⟩ := (hK.2 6 _ rfl).2
  have hcomp : comp = Y.1.1 4 := Option.some.inj (k3.symm.trans hcls.1)
  subst hcomp
  obtain ⟨kC, hkC, -⟩ := hcls.2
  refine W.aast hX.1 hX.2.1 (hP q0 _ ha) (fun q h => by cases h) (fun h => by cases h) k1 k2 rfl hkC ⟨h0, by show _ < (arrV _ _ _).slots.size; rw [arrV_size]; exact hlt⟩ g1 (fun q h => by rw [g3] at h; cases h) (by rw [g2]; exact hkC) (by rw [g2]; exact va_assign hcls) rfl rfl hd fun H1 e z oq => ?_
  refine kk H1 _ ls (hset ▸ hP.set hD ha ?_ oq) (hset ▸ hD.set ha) (z.trans hz) (hS.put z oq (hD.2 q0 _ ha)) hl
  show H1[a]? = some (vp_cell _ _)
  rw [e]
  rw [vp_cell_q, vp_cell_q, arrV_store]
  refine congrArg (fun z => some (arrV (Y.2.1 16) n z)) (funext fun j => ?_)
  by_cases hj : j = i.toNatClampNeg
  · subst hj; simp [updV, va_up, va_rf]
  · simp [updV, va_up, hj]
theorem C_img {ws A B1 S T : va_W} {e0 : Nat × va_E} {a n v : Nat} {i : Int32} {f : Nat → Option Nat} {vs : List Value} (hX : CCok X Y B own cc nL d Cm Sm) (hd : decode cc pc = .ok (.aastore, 1)) (hin : inb i n = true) (kk : KC X Y B nL Q (pc + 1) lv st ((ws ++ (e0 :: (A ++ (B1 ++ ((a, .inl (Y.2.1 16, n, .inr (.inr (.inr (.inr (va_up f i.toNatClampNeg (some v))))))) :: S))))) ++ ((v, .inr (4, vs)) :: T)) sz c k) : KC X Y B nL Q pc lv (.ref v :: .int i :: .ref a :: st) ((ws ++ (e0 :: (A ++ (B1 ++ ((a, .inl (Y.2.1 16, n, .inr (.inr (.inr (.inr f))))) :: S))))) ++ ((v, .inr (4, vs)) :: T)) sz c k := by
  have e : ∀ x : Nat × va_E, (ws ++ (e0 :: (A ++ (B1 ++ (x :: S))))) ++ ((v, .inr (4, vs)) :: T) = (ws ++ (e0 :: (A ++ B1))) ++ (x :: (S ++ ((v, .inr (4, vs)) :: T))) := fun x => by simp only [List.append_assoc, List.cons_append]
  have e2 : ∀ x : Nat × va_E, (ws ++ (e0 :: (A ++ (B1 ++ (x :: S))))) ++ ((v, .inr (4, vs)) :: T) = ((ws ++ (e0 :: (A ++ B1))) ++ (x :: S)) ++ ((v, .inr (4, vs)) :: T) := fun x => by simp only [List.append_assoc, List.cons_append]
  refine C_aast (f := f) (vs := vs) (q0 := (ws ++ (e0 :: (A ++ B1))).length + 0) (qk := ((ws ++ (e0 :: (A ++ B1))) ++ ((a, .inl (Y.2.1 16, n, .inr (.inr (.inr (.inr f))))) :: S)).length + 0) hX hd ?_ ?_ hin ?_ kk
  · rw [e, gpx]; rfl
  · rw [e2, gpx]; rfl
  · rw [e, e, spx]; rfl
theorem C_call {index h : Nat} (hX : CCok X Y B own cc nL d Cm Sm) (hd : decode cc pc = .ok (.invokespecial index, 3)) (hL : LCt own index M) (ho : OkC Y B dc M cm sm h Wd W1 sz1) (hsz : h + 1 = sz) (hcat : (st.map fun v => v.category).sum ≤ 8) (hdc : dc + 1 ≤ d) (hml : M.2.2.1 ≤ 100) (hC : c + cm ≤ Cm) (hSm : k + sm ≤ Sm) (hc1 : c + cm = c1) (hk1 : k + sm = k1) (kk : KC X Y B nL Q (pc + 3) lv st W1 sz1 c1 k1) : KC X Y B nL Q pc lv (.ref h :: st) Wd sz c k := by
  intro H locs ls hP hD hz hS hl
  subst hc1; subst hk1
  obtain ⟨hy, hnm, hret, ⟨hcode, hinst, hini⟩, hlink⟩ := hL
  obtain ⟨y, bytes, maxL, ret⟩ := M
  dsimp only at hy hnm hret hcode hinst hini hlink hml
  subst hret
  obtain ⟨r1, r2, r3, r4⟩ := hX.2.2.2.2.2.2.2.1
  have hB := hX.2.2.2.2.2.2.2.2.1
  have hts := hX.2.2.2.2.1
  have hroom : (rmc dc cm sm).frames + 1 ≤ (XR X).frames ∧ 8 + (maxL + 11) + (rmc dc cm sm).locals ≤ (XR X).locals := by
    show dc + 1 ≤ _ ∧ 8 + (maxL + 11) + 200 * dc ≤ _
    omega
  have hpre : PreS (XS X) H (va_Pc [.ref h] (RC Y B Wd (h + 1))) [.ref h] := ⟨rc_blind, fun U hU hW => ⟨rfl, by rw [hU]; exact hP, hD, by rw [hU, hz, hsz], va_K.moved hW.alike hX.2.2.2.2.2.1, fun w h9 => nest_warm h9 hW (hX.2.2.2.2.2.2.1 w h9), by rw [hU]; have := hS.1; omega, hX.2.2.2.2.2.2.2.2.2.moved hW.alike⟩⟩
  have hgw : GoodIn lw_good (wdM (y, bytes, maxL, none)) := good_wd hcode
  have hrun : va_Run X.1 X.2.1 X.2.2.1 (XR X) (XS X) (XM X) (XA X) X.2.2.2.2.2.2.2.1 X.2.2.2.2.2.2.2.2.1 (XC X) H locs c k cm sm (F0 (XM X) pc ls (.ref h :: st)) st (va_Qv (fun (_ : Unit) => True) (fun _ t => RC Y B W1 sz1 t) (CA B) (Value.ref h :: []).toArray) (CA B) := by
    rcases hlink with hlink | ⟨host, hlink⟩
    · exact va_runI (As := []) ⟨hX.1, hX.2.1, hX.2.2.1, hX.2.2.2.1, hts⟩ (ho X.2.1) (cwI 0 hts hgw rfl rfl rfl (hts _ hini) (hts _ hlink) (hts _ hinst) hnm hy hroom) hpre rfl rfl hl.1 rfl (lv_room hcat) hd ⟨by omega, by omega⟩
    · exact va_runIN (As := []) ⟨hX.1, hX.2.1, hX.2.2.1, hX.2.2.2.1, hts⟩ (ho X.2.1) ⟨va_cnB 0 hts hgw rfl rfl rfl (hX.2.2.2.2.2.2.1 _ hlink) (hts _ hini) hy hroom, hnm, hts _ hinst⟩ hpre rfl rfl hl.1 rfl (lv_room hcat) hd ⟨by omega, by omega⟩
  refine va_callv hrun hS (fun q _ h => h) (fun q h => h) (fun u t H1 locs1 ht hvm hpost hB1 hz1 hk1 hS1 => ?_)
  exact kk H1 locs1 ls (by rw [← ht]; exact hB1.1) hB1.2.1 (by rw [← ht]; exact hB1.2.2.1) hS1 hl
theorem C_eqW (h : Wd = W1) (kk : KC X Y B nL Q pc lv st W1 sz c k) : KC X Y B nL Q pc lv st Wd sz c k := h ▸ kk
def RetC0 (X : CX) (Y : DX) (B : Nat) (cc : ByteArray) (nL : Nat) (Q : State → Prop) (W1 : va_W) (sz c k : Nat) : Prop := ∀ pc lv, decode cc pc = .ok (.return_, 1) → KC X Y B nL Q pc lv [] W1 sz c k
theorem okCt_of {y : MethodName} {bytes : ByteArray} {maxL h : Nat} {W0 : va_W} (hy : plainName y.cls = true) (hsl : 1 ≤ maxL) (body : ∀ X Q, CCok X Y B y.cls bytes maxL d cm sm → X.2.2.2.2.2.2.2.2.1.name = y.name → RetC0 X Y B bytes maxL Q W1 sz1 cm sm → KC X Y B maxL Q 0 [(0, .ref h)] [] W0 (h + 1) 0 0) : OkC Y B d (y, bytes, maxL, none) cm sm h W0 W1 sz1 := by
  intro l
  refine Met.ofW (cc := bytes) (maxL := maxL) (ret := none) hy rfl ?_
  intro p e s m args below meth c s₁ Bd hml hv
  obtain ⟨rfl, hP, hD, hz, hK, hN, hB, hAO⟩ := hv
  have hts := atoms_spec (ws := wdM (y, bytes, maxL, none)) Bd.pre
  have hown : s.vm.findClass y.cls = some m.cls := findClass_of_methodNamed Bd.named
  have hx := Bd.exec
  have hb := Bd.bytes
  have hr := Bd.returns
  have hlocks := Bd.notSynchronized
  have hX : CCok (p, l, e, (headSpec (wdM (y, bytes, maxL, none)) (rmc d cm sm)).room, s, m, ([.ref h] : List Value).toArray, below, meth, c, 0, 0) Y B y.cls bytes maxL d cm sm := ⟨hx, hb, hml, hown, fun w hw => hts w (List.mem_cons_of_mem _ hw), hK, hN, ⟨Nat.le_refl _, Nat.le_refl _, Nat.le_refl _, Nat.le_refl _⟩, hB, hAO⟩
  rw [lg_entry_eq]
  refine body (p, l, e, (headSpec (wdM (y, bytes, maxL, none)) (rmc d cm sm)).room, s, m, ([.ref h] : List Value).toArray, below, meth, c, 0, 0) _ hX (name_of_methodNamed Bd.named Bd.method).1 ?_ s.heap [] _ hP hD hz va_S.rf (lv_entry [.ref h] hsl)
  intro pc lv hd H locs ls hP hD hz hS hl
  exact W.vret hx hb hr (fun t ht hW => ⟨⟨(), rfl, trivial, by rw [ht]; exact hP, hD, by rw [ht]; exact hz, va_K.moved hW.alike hK, fun w h9 => nest_warm h9 hW (hN w h9), by rw [ht]; have h9 : s.heap.size ≤ H.size := hS.1; exact Nat.le_trans hB h9, hAO.moved hW.alike⟩, hS.F ht⟩) hS.2.2 hd
end CR

