/-! CALLS, a method's start and its end -/
theorem strs_moved {Y : DX} {u U : State} {H H1 : Heap} (hW : u.WarmedH U.vm) (hk : ∀ a : Nat, a < H.size → ¬ AY Y a → H1[a]? = H[a]?) (h : Strs Y u H) : Strs Y U H1 :=
  ⟨(h.1.moved hW.alike).kept hk, fun k q hq => vk_R.warm hW (h.2.1 k q hq), (va_Z.moved hW.alike h.2.2.1).kept hk, (va_Zq.moved hW.alike h.2.2.2).kept hk⟩
theorem strs_same {Y : DX} {u U : State} {H : Heap} (hv : U.vm = u.vm) (h : Strs Y u H) : Strs Y U H :=
  ⟨h.1.moved (by rw [hv]; exact Vm.Alike.refl _), fun k q hq => vk_R.same hv (h.2.1 k q hq), va_Z.moved (by rw [hv]; exact Vm.Alike.refl _) h.2.2.1, va_Zq.moved (by rw [hv]; exact Vm.Alike.refl _) h.2.2.2⟩
theorem rel_of {X : CX} {Y : DX} {own : String} {cc : ByteArray} {nL d : Nat} {G : GM} {H : Heap} {locs : List Loc} (hX : CXok X Y own cc nL d) (hw : WF G) (hP : va_P Y.1 cls (wcells Y G) H) (hS : va_S (AY Y) (XS X).heap H locs) (U : State) (hU : U.heap = H) (hW : (XS X).WarmedH U.vm) : RelU Y G U :=
  ⟨by rw [hU]; exact hP, va_K.moved hW.alike hX.2.2.2.2.2.1, hX.2.2.2.2.2.2.1, by rw [hU]; exact strs_moved hW hS.2.1 hX.2.2.2.2.2.2.2.1, fun w h => nest_warm h hW (hX.2.2.2.2.2.2.2.2.1 w h), hw⟩
theorem rel_blind {Y : DX} {G : GM} {A : List Value} : FrameBlind (va_Pc A (RelU Y G)) := by
  intro a U g mk q
  obtain ⟨q0, qP, qK, qI, qS, qN, qW⟩ := q
  exact ⟨q0, qP, va_K.moved (u := U) (U := U.calling g mk a) (Vm.Alike.refl U.vm) qK, qI, strs_same (u := U) (U := U.calling g mk a) rfl qS, fun w h => nest_same (u := U) (U := U.calling g mk a) h rfl (qN w h), qW⟩
def LVt (own : String) (index : Nat) (C : String) (M : MI) (n : Nat) : Prop := M.1.cls = C ∧ (M.1.cls ≠ "java/lang/invoke/MethodHandle" ∧ M.1.cls ≠ "java/lang/invoke/VarHandle" ∧ (parseMethodDescriptor M.1.desc).map (fun d => d.parameters.length) = some n) ∧ (Cond.code M.1 M.2.1 M.2.2.1 M.2.2.2 ∈ lw_good ∧ Cond.instanceMethod M.1 ∈ lw_good ∧ Cond.selects C M.1 M.1 ∈ lw_good ∧ Cond.initialized M.1.cls ∈ lw_good) ∧ (Cond.methodLink own index M.1 ∈ lw_good ∨ ∃ host, Cond.methodLinkNest own index M.1 host ∈ lw_nest)
def LSt (own : String) (index : Nat) (M : MI) (n : Nat) : Prop := (M.1.cls ≠ "java/lang/invoke/MethodHandle" ∧ M.1.cls ≠ "java/lang/invoke/VarHandle" ∧ (parseMethodDescriptor M.1.desc).map (fun d => d.parameters.length) = some n) ∧ (Cond.code M.1 M.2.1 M.2.2.1 M.2.2.2 ∈ lw_good ∧ Cond.static M.1 ∈ lw_good ∧ Cond.initialized M.1.cls ∈ lw_good) ∧ (Cond.methodLink own index M.1 ∈ lw_good ∨ ∃ host, Cond.methodLinkNest own index M.1 host ∈ lw_nest)
theorem good_wd {M : MI} (h : Cond.code M.1 M.2.1 M.2.2.1 M.2.2.2 ∈ lw_good) : GoodIn lw_good (wdM M) := by
  intro w hw
  rcases List.mem_cons.mp hw with h1 | h1
  · rw [h1]; exact ⟨h, good_of_word (good_w h)⟩
  · exact ⟨h1, good_of_word (good_w h1)⟩
section RUN
variable {X : CX} {Y : DX} {own C : String} {cc : ByteArray} {nL d dc pc b c index n : Nat} {Q : State → Prop} {lv lv' : List (Nat × Value)} {st st0 As : List Value} {G : GM} {φ : Prop} {α : Type} {v : α} {p q : Option α} {M : MI} {H : Heap} {locs : List Loc} {ls : Array Slot}
theorem runV0 {ba : Nat} {Qc : Array Value → State → Outcome → State → Prop} (hX : CXok X Y own cc nL d) (hL : LVt own index C M n) (hM : Met X.2.1 M.1 (wdM M) (rmd dc) (va_Pc (.ref ba :: As) (RelU Y G)) Qc 0 0 (AY Y)) (hdc : dc + 1 ≤ d) (hml : M.2.2.1 ≤ 100) (hrecv : ∃ cell : Cell, H[ba]? = some cell ∧ cell.vm.isStatics = false ∧ (XS X).vm.findClass C = some cell.cls) (hn : As.length = n) (hst : st0 = As.reverse ++ .ref ba :: st) (hcat : (st.map fun v => v.category).sum ≤ 8) (hd : decode cc pc = .ok (.invokevirtual index, 3))
    (hw : WF G) (hP : va_P Y.1 cls (wcells Y G) H) (hS : va_S (AY Y) (XS X).heap H locs) (hl : lv_has ls nL lv) :
    va_Run X.1 X.2.1 X.2.2.1 (XR X) (XS X) (XM X) (XA X) X.2.2.2.2.2.2.2.1 X.2.2.2.2.2.2.2.2.1 (XC X) H locs X.2.2.2.2.2.2.2.2.2.2.1 X.2.2.2.2.2.2.2.2.2.2.2 0 0 (F0 (XM X) pc ls st0) st (Qc (Value.ref ba :: As).toArray) (AY Y) := by
  obtain ⟨hC, hy, ⟨hcode, hinst, hsel, hini⟩, hlink⟩ := hL
  have hts := hX.2.2.2.2.1
  obtain ⟨hr1, hr2, hr3, hr4⟩ := hX.2.2.2.2.2.2.2.2.2
  have hpre : PreV (XS X) H C ba (va_Pc (.ref ba :: As) (RelU Y G)) As := ⟨rel_blind, hrecv, fun U hU hW => ⟨rfl, rel_of hX hw hP hS U hU hW⟩⟩
  have hroom : (rmd dc).frames + 1 ≤ (XR X).frames ∧ 8 + (M.2.2.1 + 11) + (rmd dc).locals ≤ (XR X).locals := by
    show dc + 1 ≤ _ ∧ 8 + (M.2.2.1 + 11) + 200 * dc ≤ _
    omega
  rcases hlink with hlink | ⟨host, hlink⟩
  · exact va_runV (C := C) (As := As) ⟨hX.1, hX.2.1, hX.2.2.1, hX.2.2.2.1, hts⟩ hM ⟨callB_of n hts (good_wd hcode) rfl rfl rfl (hts _ hini) (hts _ hlink) hy hroom, hts _ hinst, hts _ hsel⟩ hpre rfl hn hl.1 hst (lv_room hcat) hd ⟨by omega, by omega⟩
  · exact va_runVN (C := C) (As := As) ⟨hX.1, hX.2.1, hX.2.2.1, hX.2.2.2.1, hts⟩ hM ⟨va_cnB n hts (good_wd hcode) rfl rfl rfl (hX.2.2.2.2.2.2.2.2.1 _ hlink) (hts _ hini) hy hroom, hts _ hinst, hts _ hsel⟩ hpre rfl hn hl.1 hst (lv_room hcat) hd ⟨by omega, by omega⟩
theorem runV {Qc : Array Value → State → Outcome → State → Prop} (hX : CXok X Y own cc nL d) (hL : LVt own index C M n) (hM : Met X.2.1 M.1 (wdM M) (rmd dc) (va_Pc (.ref (AD Y b) :: As) (RelU Y G)) Qc 0 0 (AY Y)) (hdc : dc + 1 ≤ d) (hml : M.2.2.1 ≤ 100) (hk : SHk b = c) (hcl : (cls[c]?).map (fun q => q.1) = some C) (hn : As.length = n) (hst : st0 = As.reverse ++ .ref (AD Y b) :: st) (hcat : (st.map fun v => v.category).sum ≤ 8) (hd : decode cc pc = .ok (.invokevirtual index, 3))
    (hw : WF G) (hP : va_P Y.1 cls (wcells Y G) H) (hS : va_S (AY Y) (XS X).heap H locs) (hl : lv_has ls nL lv) :
    va_Run X.1 X.2.1 X.2.2.1 (XR X) (XS X) (XM X) (XA X) X.2.2.2.2.2.2.2.1 X.2.2.2.2.2.2.2.2.1 (XC X) H locs X.2.2.2.2.2.2.2.2.2.2.1 X.2.2.2.2.2.2.2.2.2.2.2 0 0 (F0 (XM X) pc ls st0) st (Qc (Value.ref (AD Y b) :: As).toArray) (AY Y) := by
  obtain ⟨⟨C1, T1, N1⟩, hq1, hq2⟩ := Option.map_eq_some_iff.mp hcl
  dsimp only at hq2
  have hc10 : c < 10 := by
    have := (List.getElem?_eq_some_iff.mp hq1).1
    exact this
  have hrecv : ∃ cell : Cell, H[AD Y b]? = some cell ∧ cell.vm.isStatics = false ∧ (XS X).vm.findClass C = some cell.cls := by
    have := va_recv hX.2.2.2.2.2.1 hP hq1 (show (wcells Y G)[b]? = some (AD Y b, .inr (c, (List.range (NF c)).map (fv Y G b))) by rw [wc_get (sh_lt hk (by omega)), co_obj hk hc10])
    rw [← hq2]; exact this
  exact runV0 hX hL hM hdc hml hrecv hn hst hcat hd hw hP hS hl
theorem runS {Qc : Array Value → State → Outcome → State → Prop} (hX : CXok X Y own cc nL d) (hL : LSt own index M n) (hM : Met X.2.1 M.1 (wdM M) (rmd dc) (va_Pc As (RelU Y G)) Qc 0 0 (AY Y)) (hdc : dc + 1 ≤ d) (hml : M.2.2.1 ≤ 100) (hn : As.length = n) (hst : st0 = As.reverse ++ st) (hcat : (st.map fun v => v.category).sum ≤ 8) (hd : decode cc pc = .ok (.invokestatic index, 3))
    (hw : WF G) (hP : va_P Y.1 cls (wcells Y G) H) (hS : va_S (AY Y) (XS X).heap H locs) (hl : lv_has ls nL lv) :
    va_Run X.1 X.2.1 X.2.2.1 (XR X) (XS X) (XM X) (XA X) X.2.2.2.2.2.2.2.1 X.2.2.2.2.2.2.2.2.1 (XC X) H locs X.2.2.2.2.2.2.2.2.2.2.1 X.2.2.2.2.2.2.2.2.2.2.2 0 0 (F0 (XM X) pc ls st0) st (Qc As.toArray) (AY Y) := by
  obtain ⟨hy, ⟨hcode, hstat, hini⟩, hlink⟩ := hL
  have hts := hX.2.2.2.2.1
  obtain ⟨hr1, hr2, hr3, hr4⟩ := hX.2.2.2.2.2.2.2.2.2
  have hpre : PreS (XS X) H (va_Pc As (RelU Y G)) As := ⟨rel_blind, fun U hU hW => ⟨rfl, rel_of hX hw hP hS U hU hW⟩⟩
  have hroom : (rmd dc).frames + 1 ≤ (XR X).frames ∧ 8 + (M.2.2.1 + 11) + (rmd dc).locals ≤ (XR X).locals := by
    show dc + 1 ≤ _ ∧ 8 + (M.2.2.1 + 11) + 200 * dc ≤ _
    omega
  rcases hlink with hlink | ⟨host, hlink⟩
  · exact va_runS (As := As) ⟨hX.1, hX.2.1, hX.2.2.1, hX.2.2.2.1, hts⟩ hM ⟨callB_of n hts (good_wd hcode) rfl rfl rfl (hts _ hini) (hts _ hlink) hy hroom, hts _ hstat⟩ hpre rfl hn hl.1 hst (lv_room hcat) hd ⟨by omega, by omega⟩
  · exact va_runSN (As := As) ⟨hX.1, hX.2.1, hX.2.2.1, hX.2.2.2.1, hts⟩ hM ⟨va_cnB n hts (good_wd hcode) rfl rfl rfl (hX.2.2.2.2.2.2.2.2.1 _ hlink) (hts _ hini) hy hroom, hts _ hstat, trivial⟩ hpre rfl hn hl.1 hst (lv_room hcat) hd ⟨by omega, by omega⟩

theorem J_callVI {x : Option (Int32 × GM)} {f : Int32 → GM → Option α} (hX : CXok X Y own cc nL d) (hL : LVt own index C M n) (hk : SHk b = c) (hcl : (cls[c]?).map (fun q => q.1) = some C) (hn : As.length = n) (hst : st0 = As.reverse ++ .ref (AD Y b) :: st) (hcat : (st.map fun v => v.category).sum ≤ 8) (hdc : dc + 1 ≤ d) (hml : M.2.2.1 ≤ 100) (hd : decode cc pc = .ok (.invokevirtual index, 3)) (ho : ∀ r G1, x = some (r, G1) → OkI Y dc M (.ref (AD Y b) :: As) G r G1) (k : ∀ r G1, J X Y nL Q (pc + 3) lv (.int r :: st) G1 (f r G1 = some v)) : J X Y nL Q pc lv st0 G (ob x f = some v) := by
  intro hφ hw H locs ls hP hS hl
  obtain ⟨r, G1, e1, e2⟩ := ob_some hφ
  refine va_calli (runV hX hL (ho r G1 e1 X.2.1) hdc hml hk hcl hn hst hcat hd hw hP hS hl) hS (fun q _ h => h) (fun q h => h) (fun r2 u t H1 locs1 ht hvm hpost hB hz hk1 hS1 => ?_)
  cases hpost
  exact k _ G1 e2 hB.2.2.2.2.2 H1 locs1 ls (by rw [← ht]; exact hB.1) hS1 hl
theorem J_callVJ {x : Option (Int64 × GM)} {f : Int64 → GM → Option α} (hX : CXok X Y own cc nL d) (hL : LVt own index C M n) (hk : SHk b = c) (hcl : (cls[c]?).map (fun q => q.1) = some C) (hn : As.length = n) (hst : st0 = As.reverse ++ .ref (AD Y b) :: st) (hcat : (st.map fun v => v.category).sum ≤ 8) (hdc : dc + 1 ≤ d) (hml : M.2.2.1 ≤ 100) (hd : decode cc pc = .ok (.invokevirtual index, 3)) (ho : ∀ r G1, x = some (r, G1) → OkJ Y dc M (.ref (AD Y b) :: As) G r G1) (k : ∀ r G1, J X Y nL Q (pc + 3) lv (.long r :: st) G1 (f r G1 = some v)) : J X Y nL Q pc lv st0 G (ob x f = some v) := by
  intro hφ hw H locs ls hP hS hl
  obtain ⟨r, G1, e1, e2⟩ := ob_some hφ
  refine va_calll (runV hX hL (ho r G1 e1 X.2.1) hdc hml hk hcl hn hst hcat hd hw hP hS hl) hS (fun q _ h => h) (fun q h => h) (fun r2 u t H1 locs1 ht hvm hpost hB hz hk1 hS1 => ?_)
  cases hpost
  exact k _ G1 e2 hB.2.2.2.2.2 H1 locs1 ls (by rw [← ht]; exact hB.1) hS1 hl
theorem J_callVV {x : Option GM} {f : GM → Option α} (hX : CXok X Y own cc nL d) (hL : LVt own index C M n) (hk : SHk b = c) (hcl : (cls[c]?).map (fun q => q.1) = some C) (hn : As.length = n) (hst : st0 = As.reverse ++ .ref (AD Y b) :: st) (hcat : (st.map fun v => v.category).sum ≤ 8) (hdc : dc + 1 ≤ d) (hml : M.2.2.1 ≤ 100) (hd : decode cc pc = .ok (.invokevirtual index, 3)) (ho : ∀ G1, x = some G1 → OkV Y dc M (.ref (AD Y b) :: As) G G1) (k : ∀ G1, J X Y nL Q (pc + 3) lv st G1 (f G1 = some v)) : J X Y nL Q pc lv st0 G (ov x f = some v) := by
  intro hφ hw H locs ls hP hS hl
  obtain ⟨G1, e1, e2⟩ := ov_some hφ
  refine va_callv (runV hX hL (ho G1 e1 X.2.1) hdc hml hk hcl hn hst hcat hd hw hP hS hl) hS (fun q _ h => h) (fun q h => h) (fun u t H1 locs1 ht hvm hpost hB hz hk1 hS1 => ?_)
  exact k G1 e2 hB.2.2.2.2.2 H1 locs1 ls (by rw [← ht]; exact hB.1) hS1 hl
theorem J_callVR {x : Option (Nat × GM)} {f : Nat → GM → Option α} (hX : CXok X Y own cc nL d) (hL : LVt own index C M n) (hk : SHk b = c) (hcl : (cls[c]?).map (fun q => q.1) = some C) (hn : As.length = n) (hst : st0 = As.reverse ++ .ref (AD Y b) :: st) (hcat : (st.map fun v => v.category).sum ≤ 8) (hdc : dc + 1 ≤ d) (hml : M.2.2.1 ≤ 100) (hd : decode cc pc = .ok (.invokevirtual index, 3)) (ho : ∀ r G1, x = some (r, G1) → OkR Y dc M (.ref (AD Y b) :: As) G r G1) (k : ∀ r G1, x = some (r, G1) → J X Y nL Q (pc + 3) lv (.ref (AD Y r) :: st) G1 (f r G1 = some v)) : J X Y nL Q pc lv st0 G (ob x f = some v) := by
  intro hφ hw H locs ls hP hS hl
  obtain ⟨r, G1, e1, e2⟩ := ob_some hφ
  refine va_callr (runV hX hL (ho r G1 e1 X.2.1) hdc hml hk hcl hn hst hcat hd hw hP hS hl) hS (fun q _ h => h) (fun q h => h) (fun u ra t H1 locs1 ht hvm hpost hB hz hk1 hS1 => ?_)
  obtain ⟨rfl, hB⟩ := hB
  exact k r G1 e1 e2 hB.2.2.2.2.2 H1 locs1 ls (by rw [← ht]; exact hB.1) hS1 hl
theorem J_callSI {x : Option (Int32 × GM)} {f : Int32 → GM → Option α} (hX : CXok X Y own cc nL d) (hL : LSt own index M n) (hn : As.length = n) (hst : st0 = As.reverse ++ st) (hcat : (st.map fun v => v.category).sum ≤ 8) (hdc : dc + 1 ≤ d) (hml : M.2.2.1 ≤ 100) (hd : decode cc pc = .ok (.invokestatic index, 3)) (ho : ∀ r G1, x = some (r, G1) → OkI Y dc M As G r G1) (k : ∀ r G1, J X Y nL Q (pc + 3) lv (.int r :: st) G1 (f r G1 = some v)) : J X Y nL Q pc lv st0 G (ob x f = some v) := by
  intro hφ hw H locs ls hP hS hl
  obtain ⟨r, G1, e1, e2⟩ := ob_some hφ
  refine va_calli (runS hX hL (ho r G1 e1 X.2.1) hdc hml hn hst hcat hd hw hP hS hl) hS (fun q _ h => h) (fun q h => h) (fun r2 u t H1 locs1 ht hvm hpost hB hz hk1 hS1 => ?_)
  cases hpost
  exact k _ G1 e2 hB.2.2.2.2.2 H1 locs1 ls (by rw [← ht]; exact hB.1) hS1 hl
theorem J_callSJ {x : Option (Int64 × GM)} {f : Int64 → GM → Option α} (hX : CXok X Y own cc nL d) (hL : LSt own index M n) (hn : As.length = n) (hst : st0 = As.reverse ++ st) (hcat : (st.map fun v => v.category).sum ≤ 8) (hdc : dc + 1 ≤ d) (hml : M.2.2.1 ≤ 100) (hd : decode cc pc = .ok (.invokestatic index, 3)) (ho : ∀ r G1, x = some (r, G1) → OkJ Y dc M As G r G1) (k : ∀ r G1, J X Y nL Q (pc + 3) lv (.long r :: st) G1 (f r G1 = some v)) : J X Y nL Q pc lv st0 G (ob x f = some v) := by
  intro hφ hw H locs ls hP hS hl
  obtain ⟨r, G1, e1, e2⟩ := ob_some hφ
  refine va_calll (runS hX hL (ho r G1 e1 X.2.1) hdc hml hn hst hcat hd hw hP hS hl) hS (fun q _ h => h) (fun q h => h) (fun r2 u t H1 locs1 ht hvm hpost hB hz hk1 hS1 => ?_)
  cases hpost
  exact k _ G1 e2 hB.2.2.2.2.2 H1 locs1 ls (by rw [← ht]; exact hB.1) hS1 hl
theorem J_callSV {x : Option GM} {f : GM → Option α} (hX : CXok X Y own cc nL d) (hL : LSt own index M n) (hn : As.length = n) (hst : st0 = As.reverse ++ st) (hcat : (st.map fun v => v.category).sum ≤ 8) (hdc : dc + 1 ≤ d) (hml : M.2.2.1 ≤ 100) (hd : decode cc pc = .ok (.invokestatic index, 3)) (ho : ∀ G1, x = some G1 → OkV Y dc M As G G1) (k : ∀ G1, J X Y nL Q (pc + 3) lv st G1 (f G1 = some v)) : J X Y nL Q pc lv st0 G (ov x f = some v) := by
  intro hφ hw H locs ls hP hS hl
  obtain ⟨G1, e1, e2⟩ := ov_some hφ
  refine va_callv (runS hX hL (ho G1 e1 X.2.1) hdc hml hn hst hcat hd hw hP hS hl) hS (fun q _ h => h) (fun q h => h) (fun u t H1 locs1 ht hvm hpost hB hz hk1 hS1 => ?_)
  exact k G1 e2 hB.2.2.2.2.2 H1 locs1 ls (by rw [← ht]; exact hB.1) hS1 hl
theorem J_callSR {x : Option (Nat × GM)} {f : Nat → GM → Option α} (hX : CXok X Y own cc nL d) (hL : LSt own index M n) (hn : As.length = n) (hst : st0 = As.reverse ++ st) (hcat : (st.map fun v => v.category).sum ≤ 8) (hdc : dc + 1 ≤ d) (hml : M.2.2.1 ≤ 100) (hd : decode cc pc = .ok (.invokestatic index, 3)) (ho : ∀ r G1, x = some (r, G1) → OkR Y dc M As G r G1) (k : ∀ r G1, x = some (r, G1) → J X Y nL Q (pc + 3) lv (.ref (AD Y r) :: st) G1 (f r G1 = some v)) : J X Y nL Q pc lv st0 G (ob x f = some v) := by
  intro hφ hw H locs ls hP hS hl
  obtain ⟨r, G1, e1, e2⟩ := ob_some hφ
  refine va_callr (runS hX hL (ho r G1 e1 X.2.1) hdc hml hn hst hcat hd hw hP hS hl) hS (fun q _ h => h) (fun q h => h) (fun u ra t H1 locs1 ht hvm hpost hB hz hk1 hS1 => ?_)
  obtain ⟨rfl, hB⟩ := hB
  exact k r G1 e1 e2 hB.2.2.2.2.2 H1 locs1 ls (by rw [← ht]; exact hB.1) hS1 hl
def RetI (X : CX) (Y : DX) (cc : ByteArray) (nL : Nat) (Q : State → Prop) (r : Int32) (G' : GM) : Prop := ∀ pc lv, decode cc pc = .ok (.ireturn, 1) → KX X Y nL Q pc lv [.int r] G'
def RetZ (X : CX) (Y : DX) (cc : ByteArray) (nL : Nat) (Q : State → Prop) (r : Int32) (G' : GM) : Prop := ∀ pc lv, r = 0 ∨ r = 1 → decode cc pc = .ok (.ireturn, 1) → KX X Y nL Q pc lv [.int r] G'
def RetC (X : CX) (Y : DX) (cc : ByteArray) (nL : Nat) (Q : State → Prop) (r : Int32) (G' : GM) : Prop := ∀ pc lv, narrow .char (.int r) = .int r → decode cc pc = .ok (.ireturn, 1) → KX X Y nL Q pc lv [.int r] G'
def RetB (X : CX) (Y : DX) (cc : ByteArray) (nL : Nat) (Q : State → Prop) (r : Int32) (G' : GM) : Prop := ∀ pc lv, narrow .byte (.int r) = .int r → decode cc pc = .ok (.ireturn, 1) → KX X Y nL Q pc lv [.int r] G'
def RetJ (X : CX) (Y : DX) (cc : ByteArray) (nL : Nat) (Q : State → Prop) (r : Int64) (G' : GM) : Prop := ∀ pc lv, decode cc pc = .ok (.lreturn, 1) → KX X Y nL Q pc lv [.long r] G'
def RetV (X : CX) (Y : DX) (cc : ByteArray) (nL : Nat) (Q : State → Prop) (G' : GM) : Prop := ∀ pc lv, decode cc pc = .ok (.return_, 1) → KX X Y nL Q pc lv [] G'
def RetR (X : CX) (Y : DX) (cc : ByteArray) (nL : Nat) (Q : State → Prop) (r : Nat) (G' : GM) : Prop := ∀ pc lv, decode cc pc = .ok (.areturn, 1) → KX X Y nL Q pc lv [.ref (AD Y r)] G'
theorem J_retI {x r : Int32} {G' : GM} (hR : RetI X Y cc nL Q r G') (hd : decode cc pc = .ok (.ireturn, 1)) : J X Y nL Q pc lv [.int x] G (some (x, G) = some (r, G')) := fun hφ => by cases hφ; exact hR pc lv hd
theorem J_retZ {x r : Int32} {G' : GM} (hR : RetZ X Y cc nL Q r G') (hx : x = 0 ∨ x = 1) (hd : decode cc pc = .ok (.ireturn, 1)) : J X Y nL Q pc lv [.int x] G (some (x, G) = some (r, G')) := fun hφ => by cases hφ; exact hR pc lv hx hd
theorem J_retZg {x r : Int32} {G' : GM} (hR : RetZ X Y cc nL Q r G') (hd : decode cc pc = .ok (.ireturn, 1)) : J X Y nL Q pc lv [.int x] G (gd (decide (x = 0 ∨ x = 1)) (some (x, G)) = some (r, G')) := fun hφ => by
  obtain ⟨h1, h2⟩ := gd_some hφ
  cases h2
  exact hR pc lv (of_decide_eq_true h1) hd
theorem J_retJ {x r : Int64} {G' : GM} (hR : RetJ X Y cc nL Q r G') (hd : decode cc pc = .ok (.lreturn, 1)) : J X Y nL Q pc lv [.long x] G (some (x, G) = some (r, G')) := fun hφ => by cases hφ; exact hR pc lv hd
theorem J_retV {G' : GM} (hR : RetV X Y cc nL Q G') (hd : decode cc pc = .ok (.return_, 1)) : J X Y nL Q pc lv [] G (some G = some G') := fun hφ => by cases hφ; exact hR pc lv hd
theorem J_retR {x r : Nat} {G' : GM} (hR : RetR X Y cc nL Q r G') (hd : decode cc pc = .ok (.areturn, 1)) : J X Y nL Q pc lv [.ref (AD Y x)] G (some (x, G) = some (r, G')) := fun hφ => by cases hφ; exact hR pc lv hd
end RUN

theorem okI_of {Y : DX} {d : Nat} {y : MethodName} {bytes : ByteArray} {maxL : Nat} {A : List Value} {lv0 : List (Nat × Value)} {G : GM} {r : Int32} {G' : GM} (hy : plainName y.cls = true) (hlv : lv_args 0 A = lv0) (hsl : (lg_sl A).length ≤ maxL) (body : ∀ X Q, CXok X Y y.cls bytes maxL d → RetI X Y bytes maxL Q r G' → KX X Y maxL Q 0 lv0 [] G) : OkI Y d (y, bytes, maxL, some .int) A G r G' := by
  intro l
  refine Met.ofW (cc := bytes) (maxL := maxL) (ret := some .int) hy rfl ?_
  intro p e s m args below meth c s₁ B hml hv
  obtain ⟨rfl, hP, hK, hI, hStr, hN, hw⟩ := hv
  have hts := atoms_spec (ws := wdM (y, bytes, maxL, some .int)) B.pre
  have hown : s.vm.findClass y.cls = some m.cls := findClass_of_methodNamed B.named
  have hx := B.exec
  have hb := B.bytes
  have hr := B.returns
  have hlocks := B.notSynchronized
  have hX : CXok (p, l, e, (headSpec (wdM (y, bytes, maxL, some .int)) (rmd d)).room, s, m, A.toArray, below, meth, c, 0, 0) Y y.cls bytes maxL d := ⟨hx, hb, hml, hown, fun w hw => hts w (List.mem_cons_of_mem _ hw), hK, hI, hStr, hN, ⟨Nat.le_refl _, Nat.le_refl _, Nat.le_refl _, Nat.le_refl _⟩⟩
  rw [lg_entry_eq]
  refine body (p, l, e, (headSpec (wdM (y, bytes, maxL, some .int)) (rmd d)).room, s, m, A.toArray, below, meth, c, 0, 0) _ hX ?_ hw s.heap [] _ hP va_S.rf (hlv ▸ lv_entry A hsl)
  intro pc lv hd hw H locs ls hP hS hl
  exact W.iret hx hb hr (fun t ht hW => ⟨⟨r, (), rfl, rfl, rel_of hX hw hP hS t ht hW⟩, hS.F ht⟩) hS.2.2 hd
theorem okZ_of {Y : DX} {d : Nat} {y : MethodName} {bytes : ByteArray} {maxL : Nat} {A : List Value} {lv0 : List (Nat × Value)} {G : GM} {r : Int32} {G' : GM} (hy : plainName y.cls = true) (hlv : lv_args 0 A = lv0) (hsl : (lg_sl A).length ≤ maxL) (body : ∀ X Q, CXok X Y y.cls bytes maxL d → RetZ X Y bytes maxL Q r G' → KX X Y maxL Q 0 lv0 [] G) : OkI Y d (y, bytes, maxL, some .boolean) A G r G' := by
  intro l
  refine Met.ofW (cc := bytes) (maxL := maxL) (ret := some .boolean) hy rfl ?_
  intro p e s m args below meth c s₁ B hml hv
  obtain ⟨rfl, hP, hK, hI, hStr, hN, hw⟩ := hv
  have hts := atoms_spec (ws := wdM (y, bytes, maxL, some .boolean)) B.pre
  have hown : s.vm.findClass y.cls = some m.cls := findClass_of_methodNamed B.named
  have hx := B.exec
  have hb := B.bytes
  have hr := B.returns
  have hlocks := B.notSynchronized
  have hX : CXok (p, l, e, (headSpec (wdM (y, bytes, maxL, some .boolean)) (rmd d)).room, s, m, A.toArray, below, meth, c, 0, 0) Y y.cls bytes maxL d := ⟨hx, hb, hml, hown, fun w hw => hts w (List.mem_cons_of_mem _ hw), hK, hI, hStr, hN, ⟨Nat.le_refl _, Nat.le_refl _, Nat.le_refl _, Nat.le_refl _⟩⟩
  rw [lg_entry_eq]
  refine body (p, l, e, (headSpec (wdM (y, bytes, maxL, some .boolean)) (rmd d)).room, s, m, A.toArray, below, meth, c, 0, 0) _ hX ?_ hw s.heap [] _ hP va_S.rf (hlv ▸ lv_entry A hsl)
  intro pc lv hz hd hw H locs ls hP hS hl
  exact W.zret hx hb hr (by rcases hz with rfl | rfl <;> rfl) (fun t ht hW => ⟨⟨r, (), rfl, rfl, rel_of hX hw hP hS t ht hW⟩, hS.F ht⟩) hS.2.2 hd
theorem okC_of {Y : DX} {d : Nat} {y : MethodName} {bytes : ByteArray} {maxL : Nat} {A : List Value} {lv0 : List (Nat × Value)} {G : GM} {r : Int32} {G' : GM} (hy : plainName y.cls = true) (hlv : lv_args 0 A = lv0) (hsl : (lg_sl A).length ≤ maxL) (body : ∀ X Q, CXok X Y y.cls bytes maxL d → RetC X Y bytes maxL Q r G' → KX X Y maxL Q 0 lv0 [] G) : OkI Y d (y, bytes, maxL, some .char) A G r G' := by
  intro l
  refine Met.ofW (cc := bytes) (maxL := maxL) (ret := some .char) hy rfl ?_
  intro p e s m args below meth c s₁ B hml hv
  obtain ⟨rfl, hP, hK, hI, hStr, hN, hw⟩ := hv
  have hts := atoms_spec (ws := wdM (y, bytes, maxL, some .char)) B.pre
  have hown : s.vm.findClass y.cls = some m.cls := findClass_of_methodNamed B.named
  have hx := B.exec
  have hb := B.bytes
  have hr := B.returns
  have hlocks := B.notSynchronized
  have hX : CXok (p, l, e, (headSpec (wdM (y, bytes, maxL, some .char)) (rmd d)).room, s, m, A.toArray, below, meth, c, 0, 0) Y y.cls bytes maxL d := ⟨hx, hb, hml, hown, fun w hw => hts w (List.mem_cons_of_mem _ hw), hK, hI, hStr, hN, ⟨Nat.le_refl _, Nat.le_refl _, Nat.le_refl _, Nat.le_refl _⟩⟩
  rw [lg_entry_eq]
  refine body (p, l, e, (headSpec (wdM (y, bytes, maxL, some .char)) (rmd d)).room, s, m, A.toArray, below, meth, c, 0, 0) _ hX ?_ hw s.heap [] _ hP va_S.rf (hlv ▸ lv_entry A hsl)
  intro pc lv hz hd hw H locs ls hP hS hl
  exact W.zret hx hb hr hz (fun t ht hW => ⟨⟨r, (), rfl, rfl, rel_of hX hw hP hS t ht hW⟩, hS.F ht⟩) hS.2.2 hd
theorem okB_of {Y : DX} {d : Nat} {y : MethodName} {bytes : ByteArray} {maxL : Nat} {A : List Value} {lv0 : List (Nat × Value)} {G : GM} {r : Int32} {G' : GM} (hy : plainName y.cls = true) (hlv : lv_args 0 A = lv0) (hsl : (lg_sl A).length ≤ maxL) (body : ∀ X Q, CXok X Y y.cls bytes maxL d → RetB X Y bytes maxL Q r G' → KX X Y maxL Q 0 lv0 [] G) : OkI Y d (y, bytes, maxL, some .byte) A G r G' := by
  intro l
  refine Met.ofW (cc := bytes) (maxL := maxL) (ret := some .byte) hy rfl ?_
  intro p e s m args below meth c s₁ B hml hv
  obtain ⟨rfl, hP, hK, hI, hStr, hN, hw⟩ := hv
  have hts := atoms_spec (ws := wdM (y, bytes, maxL, some .byte)) B.pre
  have hown : s.vm.findClass y.cls = some m.cls := findClass_of_methodNamed B.named
  have hx := B.exec
  have hb := B.bytes
  have hr := B.returns
  have hlocks := B.notSynchronized
  have hX : CXok (p, l, e, (headSpec (wdM (y, bytes, maxL, some .byte)) (rmd d)).room, s, m, A.toArray, below, meth, c, 0, 0) Y y.cls bytes maxL d := ⟨hx, hb, hml, hown, fun w hw => hts w (List.mem_cons_of_mem _ hw), hK, hI, hStr, hN, ⟨Nat.le_refl _, Nat.le_refl _, Nat.le_refl _, Nat.le_refl _⟩⟩
  rw [lg_entry_eq]
  refine body (p, l, e, (headSpec (wdM (y, bytes, maxL, some .byte)) (rmd d)).room, s, m, A.toArray, below, meth, c, 0, 0) _ hX ?_ hw s.heap [] _ hP va_S.rf (hlv ▸ lv_entry A hsl)
  intro pc lv hz hd hw H locs ls hP hS hl
  exact W.zret hx hb hr hz (fun t ht hW => ⟨⟨r, (), rfl, rfl, rel_of hX hw hP hS t ht hW⟩, hS.F ht⟩) hS.2.2 hd
theorem okJ_of {Y : DX} {d : Nat} {y : MethodName} {bytes : ByteArray} {maxL : Nat} {A : List Value} {lv0 : List (Nat × Value)} {G : GM} {r : Int64} {G' : GM} (hy : plainName y.cls = true) (hlv : lv_args 0 A = lv0) (hsl : (lg_sl A).length ≤ maxL) (body : ∀ X Q, CXok X Y y.cls bytes maxL d → RetJ X Y bytes maxL Q r G' → KX X Y maxL Q 0 lv0 [] G) : OkJ Y d (y, bytes, maxL, some .long) A G r G' := by
  intro l
  refine Met.ofW (cc := bytes) (maxL := maxL) (ret := some .long) hy rfl ?_
  intro p e s m args below meth c s₁ B hml hv
  obtain ⟨rfl, hP, hK, hI, hStr, hN, hw⟩ := hv
  have hts := atoms_spec (ws := wdM (y, bytes, maxL, some .long)) B.pre
  have hown : s.vm.findClass y.cls = some m.cls := findClass_of_methodNamed B.named
  have hx := B.exec
  have hb := B.bytes
  have hr := B.returns
  have hlocks := B.notSynchronized
  have hX : CXok (p, l, e, (headSpec (wdM (y, bytes, maxL, some .long)) (rmd d)).room, s, m, A.toArray, below, meth, c, 0, 0) Y y.cls bytes maxL d := ⟨hx, hb, hml, hown, fun w hw => hts w (List.mem_cons_of_mem _ hw), hK, hI, hStr, hN, ⟨Nat.le_refl _, Nat.le_refl _, Nat.le_refl _, Nat.le_refl _⟩⟩
  rw [lg_entry_eq]
  refine body (p, l, e, (headSpec (wdM (y, bytes, maxL, some .long)) (rmd d)).room, s, m, A.toArray, below, meth, c, 0, 0) _ hX ?_ hw s.heap [] _ hP va_S.rf (hlv ▸ lv_entry A hsl)
  intro pc lv hd hw H locs ls hP hS hl
  exact W.lret hx hb hr (fun t ht hW => ⟨⟨r, (), rfl, rfl, rel_of hX hw hP hS t ht hW⟩, hS.F ht⟩) hS.2.2 hd
theorem okV_of {Y : DX} {d : Nat} {y : MethodName} {bytes : ByteArray} {maxL : Nat} {A : List Value} {lv0 : List (Nat × Value)} {G : GM} {G' : GM} (hy : plainName y.cls = true) (hlv : lv_args 0 A = lv0) (hsl : (lg_sl A).length ≤ maxL) (body : ∀ X Q, CXok X Y y.cls bytes maxL d → RetV X Y bytes maxL Q G' → KX X Y maxL Q 0 lv0 [] G) : OkV Y d (y, bytes, maxL, none) A G G' := by
  intro l
  refine Met.ofW (cc := bytes) (maxL := maxL) (ret := none) hy rfl ?_
  intro p e s m args below meth c s₁ B hml hv
  obtain ⟨rfl, hP, hK, hI, hStr, hN, hw⟩ := hv
  have hts := atoms_spec (ws := wdM (y, bytes, maxL, none)) B.pre
  have hown : s.vm.findClass y.cls = some m.cls := findClass_of_methodNamed B.named
  have hx := B.exec
  have hb := B.bytes
  have hr := B.returns
  have hlocks := B.notSynchronized
  have hX : CXok (p, l, e, (headSpec (wdM (y, bytes, maxL, none)) (rmd d)).room, s, m, A.toArray, below, meth, c, 0, 0) Y y.cls bytes maxL d := ⟨hx, hb, hml, hown, fun w hw => hts w (List.mem_cons_of_mem _ hw), hK, hI, hStr, hN, ⟨Nat.le_refl _, Nat.le_refl _, Nat.le_refl _, Nat.le_refl _⟩⟩
  rw [lg_entry_eq]
  refine body (p, l, e, (headSpec (wdM (y, bytes, maxL, none)) (rmd d)).room, s, m, A.toArray, below, meth, c, 0, 0) _ hX ?_ hw s.heap [] _ hP va_S.rf (hlv ▸ lv_entry A hsl)
  intro pc lv hd hw H locs ls hP hS hl
  exact W.vret hx hb hr (fun t ht hW => ⟨⟨(), rfl, trivial, rel_of hX hw hP hS t ht hW⟩, hS.F ht⟩) hS.2.2 hd
theorem okR_of {Y : DX} {d : Nat} {y : MethodName} {bytes : ByteArray} {maxL : Nat} {A : List Value} {lv0 : List (Nat × Value)} {G : GM} {r : Nat} {G' : GM} (hy : plainName y.cls = true) (hlv : lv_args 0 A = lv0) (hsl : (lg_sl A).length ≤ maxL) (body : ∀ X Q, CXok X Y y.cls bytes maxL d → RetR X Y bytes maxL Q r G' → KX X Y maxL Q 0 lv0 [] G) : OkR Y d (y, bytes, maxL, some (.object "BingoHall$Card")) A G r G' := by
  intro l
  refine Met.ofW (cc := bytes) (maxL := maxL) (ret := some (.object "BingoHall$Card")) hy rfl ?_
  intro p e s m args below meth c s₁ B hml hv
  obtain ⟨rfl, hP, hK, hI, hStr, hN, hw⟩ := hv
  have hts := atoms_spec (ws := wdM (y, bytes, maxL, some (.object "BingoHall$Card"))) B.pre
  have hown : s.vm.findClass y.cls = some m.cls := findClass_of_methodNamed B.named
  have hx := B.exec
  have hb := B.bytes
  have hr := B.returns
  have hlocks := B.notSynchronized
  have hX : CXok (p, l, e, (headSpec (wdM (y, bytes, maxL, some (.object "BingoHall$Card"))) (rmd d)).room, s, m, A.toArray, below, meth, c, 0, 0) Y y.cls bytes maxL d := ⟨hx, hb, hml, hown, fun w hw => hts w (List.mem_cons_of_mem _ hw), hK, hI, hStr, hN, ⟨Nat.le_refl _, Nat.le_refl _, Nat.le_refl _, Nat.le_refl _⟩⟩
  rw [lg_entry_eq]
  refine body (p, l, e, (headSpec (wdM (y, bytes, maxL, some (.object "BingoHall$Card"))) (rmd d)).room, s, m, A.toArray, below, meth, c, 0, 0) _ hX ?_ hw s.heap [] _ hP va_S.rf (hlv ▸ lv_entry A hsl)
  intro pc lv hd hw H locs ls hP hS hl
  exact W.aret hx hb hr (Or.inl ⟨_, rfl⟩) (Or.inr ⟨_, rfl⟩) (fun t ht hW => ⟨⟨(), AD Y r, rfl, trivial, rfl, rel_of hX hw hP hS t ht hW⟩, hS.F ht⟩) hS.2.2 hd
