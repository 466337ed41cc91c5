/-! THE CLAIM OUT OF ONE WALK OF THE LAW'S BODY. Your part is whole_start (and what it stands on); all else here is the same for every law, but numbers. -/
def R_law : String := "BingoHallLaw"
def lw_P (b : Addr) (xs : List Int32) (args : Array Value) (s : State) : Prop := args = #[.ref b] ∧ s.IntsAt b xs ∧ xs.length ≤ 3072 ∧ (Jvm.Cond.and given_1 narrow_1).before args s = true
def lw_Q (_ : Array Value) (s : State) (o : Outcome) (t : State) : Prop := o = .returned (some (.int 1)) ∧ Framed s o t [] 600000 7302250
def lw_Z (below : List Frame) (a : Array Value) (s : State) : State → Prop := fun t => ∃ o, t.status = .running ∧ Ended t below o ∧ lw_Q a s o t
/-- the law's own end, with 1 on the stack, nothing written that was there before, its room as the claim has it -/
theorem lw_ret {p : Program} {l : Launch} {e : Env} {s : State} {m : MethodId} {below : List Frame} {meth : Method} {c : Code} {b : Nat} (hx : p.tables.exec = Jvm.exec) (hb : c.code = code) (hr : meth.sig.returnType = ret) (hlocks : meth.locks = false) {pc : Nat} {H : Heap} {ls : Array Slot} (hdg : decode code pc = .ok (.ireturn, 1)) : W p l e room_1 s m #[Value.ref b] below meth c H [] 600000 7302250 (lw_Z below #[Value.ref b] s) (F0 m pc ls [.int 1]) := by
  intro T hT X
  obtain ⟨fs, hret, hrun, hended, hW, hframe⟩ := X.leave (v := some (.int 1)) (hlocks := hlocks) (fun h => by rw [hr] at h; cases h)
  have hmeth' : T.vm.method? m = some meth := X.method'
  refine ⟨T.setFrames fs, ?_, .returned (some (.int 1)), hrun, hended, rfl, ⟨_, rfl⟩, hW, hframe⟩
  jvm_step X.here [X.here.top, hx, hb, hdg, hmeth', hr, ret, narrow_b1]
  (try refine ⟨rfl, ?_⟩); (try refine ⟨rfl, ?_⟩)
  first | (intro acts; rw [hret _ acts rfl rfl rfl]) | rw [hret _ _ rfl rfl rfl]
  exact Steps.refl _
/-- what holds at the law's entry: the machine, the code, the tables' words (any of lw_tbl by 'hts w (by decide +kernel)'), the script of L ints xs at the cell b, what the Statement gives of the start (any of its parts by flat_of_before) -/
def lw_At (p : Program) (s : State) (m : MethodId) (meth : Method) (c : Code) (b L : Nat) (xs : Nat → Int32) : Prop :=
  p.tables.exec = Jvm.exec ∧ c.code = code ∧ meth.sig.returnType = ret ∧ c.maxLocals = 4 ∧ s.vm.findClass R_law = some m.cls ∧ (∀ w ∈ lw_tbl, w.before #[Value.ref b] s = true) ∧ va_X b L xs s s.heap ∧ b < s.heap.size ∧ meth.locks = false ∧ (Jvm.Cond.and given_1 narrow_1).before #[Value.ref b] s = true

theorem mc_L_9 : LCt RL 9 M_X9_init := ⟨⟨by decide, by decide, by decide +kernel⟩, rfl, rfl, ⟨(mg 174 (by decide +kernel) rfl), (mg 173 (by decide +kernel) rfl), (mg 151 (by decide +kernel) rfl)⟩, Or.inl (mg 172 (by decide +kernel) rfl)⟩
theorem mc_L_12 : LCt RL 12 M_X10_init := ⟨⟨by decide, by decide, by decide +kernel⟩, rfl, rfl, ⟨(mg 1254 (by decide +kernel) rfl), (mg 1253 (by decide +kernel) rfl), (mg 160 (by decide +kernel) rfl)⟩, Or.inl (mg 1252 (by decide +kernel) rfl)⟩
theorem dfL_8 : ∀ j, j < 14 → defaultValue (tyX9 j) = vp_V [.null, .null, .null, .null, .null, .null, .null, .null, .null, .null, .null, .null, .null, .null] j := by decide +kernel
theorem dfL_9 : ∀ j, j < 45 → defaultValue (tyX10 j) = vp_V [.int 0, .null, .null, .null, .null, .null, .int 0, .int 0, .int 0, .int 0, .int 0, .long 0, .int 0, .int 0, .int 0, .int 0, .null, .null, .null, .null, .null, .null, .null, .null, .null, .null, .int 0, .int 0, .null, .null, .null, .int 0, .int 0, .long 0, .null, .null, .int 0, .null, .null, .null, .int 0, .int 0, .null, .null, .null] j := by decide +kernel
theorem A2_of {ty : FieldType} {A : Array Value} {U : State} (h : (Cond.arrayOver (.array ty)).before A U = true) : A2 ty U := Jvm.Stand.arrayOver_alikeB (Vm.Alike.refl _) h
theorem nest_tab {w : Cond} (h : w ∈ lw_nest) : w.onTables = true := by
  have h1 := (List.mem_filter.mp h).2
  cases w <;> first | (cases h1; done) | rfl
def tmS (i : Nat) : Term := Term.string RX7 (sIdx.getD i (0, "")).1
theorem sa_1 : ∀ i, i < NS → Cond.exactly (tmS i) "java/lang/String" ∈ flatC (Jvm.Cond.and given_1 narrow_1) := by decide +kernel
theorem sa_2 : ∀ i, i < NS → Cond.eq (.field (tmS i) "java/lang/String" "coder" "B") (.int 0) ∈ flatC (Jvm.Cond.and given_1 narrow_1) := by decide +kernel
theorem sa_3 : ∀ i, i < NS → Cond.arrayOf (.field (tmS i) "java/lang/String" "value" "[B") .byte ∈ flatC (Jvm.Cond.and given_1 narrow_1) := by decide +kernel
theorem sa_4 : ∀ i, i < NS → Cond.eq (.length (.field (tmS i) "java/lang/String" "value" "[B")) (.int (Int32.ofNat (slen.getD i 0))) ∈ flatC (Jvm.Cond.and given_1 narrow_1) := by decide +kernel
theorem sa_5 : ∀ i, i < NS → ∀ j, j < slen.getD i 0 → Cond.eq (.elem (.field (tmS i) "java/lang/String" "value" "[B") (.int (Int32.ofNat j))) (.int ((sbyt.getD i []).getD j 0)) ∈ flatC (Jvm.Cond.and given_1 narrow_1) := by decide +kernel
theorem sa_6_0 : ∀ i, i < 0 → Cond.not (Cond.eq (tmS i) (tmS 0)) ∈ flatC (Jvm.Cond.and given_1 narrow_1) := by decide +kernel
theorem sa_6_1 : ∀ i, i < 1 → Cond.not (Cond.eq (tmS i) (tmS 1)) ∈ flatC (Jvm.Cond.and given_1 narrow_1) := by decide +kernel
theorem sa_6_2 : ∀ i, i < 2 → Cond.not (Cond.eq (tmS i) (tmS 2)) ∈ flatC (Jvm.Cond.and given_1 narrow_1) := by decide +kernel
theorem sa_6_3 : ∀ i, i < 3 → Cond.not (Cond.eq (tmS i) (tmS 3)) ∈ flatC (Jvm.Cond.and given_1 narrow_1) := by decide +kernel
theorem sa_6_4 : ∀ i, i < 4 → Cond.not (Cond.eq (tmS i) (tmS 4)) ∈ flatC (Jvm.Cond.and given_1 narrow_1) := by decide +kernel
theorem sa_6_5 : ∀ i, i < 5 → Cond.not (Cond.eq (tmS i) (tmS 5)) ∈ flatC (Jvm.Cond.and given_1 narrow_1) := by decide +kernel
theorem sa_6_6 : ∀ i, i < 6 → Cond.not (Cond.eq (tmS i) (tmS 6)) ∈ flatC (Jvm.Cond.and given_1 narrow_1) := by decide +kernel
theorem sa_6_7 : ∀ i, i < 7 → Cond.not (Cond.eq (tmS i) (tmS 7)) ∈ flatC (Jvm.Cond.and given_1 narrow_1) := by decide +kernel
theorem sa_6_8 : ∀ i, i < 8 → Cond.not (Cond.eq (tmS i) (tmS 8)) ∈ flatC (Jvm.Cond.and given_1 narrow_1) := by decide +kernel
theorem sa_6_9 : ∀ i, i < 9 → Cond.not (Cond.eq (tmS i) (tmS 9)) ∈ flatC (Jvm.Cond.and given_1 narrow_1) := by decide +kernel
theorem sa_6_10 : ∀ i, i < 10 → Cond.not (Cond.eq (tmS i) (tmS 10)) ∈ flatC (Jvm.Cond.and given_1 narrow_1) := by decide +kernel
theorem sa_6_11 : ∀ i, i < 11 → Cond.not (Cond.eq (tmS i) (tmS 11)) ∈ flatC (Jvm.Cond.and given_1 narrow_1) := by decide +kernel
theorem sa_6_12 : ∀ i, i < 12 → Cond.not (Cond.eq (tmS i) (tmS 12)) ∈ flatC (Jvm.Cond.and given_1 narrow_1) := by decide +kernel
theorem sa_6a : ∀ j, j < NS → ∀ i, i < j → Cond.not (Cond.eq (tmS i) (tmS j)) ∈ flatC (Jvm.Cond.and given_1 narrow_1) := (all_succ (P := fun j => ∀ i, i < j → Cond.not (Cond.eq (tmS i) (tmS j)) ∈ flatC (Jvm.Cond.and given_1 narrow_1)) (all_succ (P := fun j => ∀ i, i < j → Cond.not (Cond.eq (tmS i) (tmS j)) ∈ flatC (Jvm.Cond.and given_1 narrow_1)) (all_succ (P := fun j => ∀ i, i < j → Cond.not (Cond.eq (tmS i) (tmS j)) ∈ flatC (Jvm.Cond.and given_1 narrow_1)) (all_succ (P := fun j => ∀ i, i < j → Cond.not (Cond.eq (tmS i) (tmS j)) ∈ flatC (Jvm.Cond.and given_1 narrow_1)) (all_succ (P := fun j => ∀ i, i < j → Cond.not (Cond.eq (tmS i) (tmS j)) ∈ flatC (Jvm.Cond.and given_1 narrow_1)) (all_succ (P := fun j => ∀ i, i < j → Cond.not (Cond.eq (tmS i) (tmS j)) ∈ flatC (Jvm.Cond.and given_1 narrow_1)) (all_succ (P := fun j => ∀ i, i < j → Cond.not (Cond.eq (tmS i) (tmS j)) ∈ flatC (Jvm.Cond.and given_1 narrow_1)) (all_succ (P := fun j => ∀ i, i < j → Cond.not (Cond.eq (tmS i) (tmS j)) ∈ flatC (Jvm.Cond.and given_1 narrow_1)) (all_succ (P := fun j => ∀ i, i < j → Cond.not (Cond.eq (tmS i) (tmS j)) ∈ flatC (Jvm.Cond.and given_1 narrow_1)) (all_succ (P := fun j => ∀ i, i < j → Cond.not (Cond.eq (tmS i) (tmS j)) ∈ flatC (Jvm.Cond.and given_1 narrow_1)) (all_succ (P := fun j => ∀ i, i < j → Cond.not (Cond.eq (tmS i) (tmS j)) ∈ flatC (Jvm.Cond.and given_1 narrow_1)) (all_succ (P := fun j => ∀ i, i < j → Cond.not (Cond.eq (tmS i) (tmS j)) ∈ flatC (Jvm.Cond.and given_1 narrow_1)) (all_succ (P := fun j => ∀ i, i < j → Cond.not (Cond.eq (tmS i) (tmS j)) ∈ flatC (Jvm.Cond.and given_1 narrow_1)) (fun k hk => absurd hk (Nat.not_lt_zero k)) sa_6_0) sa_6_1) sa_6_2) sa_6_3) sa_6_4) sa_6_5) sa_6_6) sa_6_7) sa_6_8) sa_6_9) sa_6_10) sa_6_11) sa_6_12)
theorem sa_6 : ∀ i, i < NS → ∀ j, j < NS → i ≠ j → Cond.not (Cond.eq (tmS i) (tmS j)) ∈ flatC (Jvm.Cond.and given_1 narrow_1) ∨ Cond.not (Cond.eq (tmS j) (tmS i)) ∈ flatC (Jvm.Cond.and given_1 narrow_1) := fun i hi j hj hij => (Nat.lt_or_gt_of_ne hij).elim (fun h => Or.inl (sa_6a j hj i h)) (fun h => Or.inr (sa_6a i hi j h))
theorem sa_7 : Cond.eq (.static "java/lang/String" "COMPACT_STRINGS" "Z") (.int 1) ∈ flatC (Jvm.Cond.and given_1 narrow_1) := by decide +kernel
theorem sa_8 : Cond.isRef (.static "jdk/internal/util/Preconditions" "SIOOBE_FORMATTER" "Ljava/util/function/BiFunction;") ∈ flatC (Jvm.Cond.and given_1 narrow_1) := by decide +kernel
theorem sa_9 : ∀ i, i < NS → slen.getD i 0 < 2 ^ 31 := by decide +kernel
theorem sa_10 : ∀ i, i < NS → Cond.stringRef RX7 (sIdx.getD i (0, "")).1 (sIdx.getD i (0, "")).2 ∈ lw_tbl := by decide +kernel
