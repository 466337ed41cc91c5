section JSTR
variable {X : CX} {Y : DX} {own : String} {cc : ByteArray} {nL d pc tgt index : Nat} {off : Int} {Q : State → Prop} {lv lv' : List (Nat × Value)} {st : List Value} {G : GM} {φ : Prop} {α : Type} {v : α} {p q : Option α}
theorem J_slen {w : Nat} (hX : CXok X Y RX7 cc nL d) (hd : decode cc pc = .ok (.invokevirtual 179, 3)) (hw : w < NS) (h1 : 20 ≤ d) (hcat : (st.map fun v => v.category).sum ≤ 8) (k : J X Y nL Q (pc + 3) lv (.int (Int32.ofNat (SLEN w)) :: st) G φ) : J X Y nL Q pc lv (.ref (yk Y w) :: st) G φ := sorry
theorem J_schar {w : Nat} {i : Int32} (hX : CXok X Y RX7 cc nL d) (hd : decode cc pc = .ok (.invokevirtual 189, 3)) (hw : w < NS) (h1 : 20 ≤ d) (hcat : (st.map fun v => v.category).sum ≤ 8) (k : J X Y nL Q (pc + 3) lv (.int (SCH w i.toNatClampNeg) :: st) G (p = some v)) : J X Y nL Q pc lv (.int i :: .ref (yk Y w) :: st) G (gd (inb i (SLEN w)) p = some v) := sorry
end JSTR
