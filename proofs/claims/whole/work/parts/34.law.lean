def ScX (X : CX) (Y : DX) (b L : Nat) (xs : Nat → Int32) : Prop := va_X b L xs (XS X) (XS X).heap ∧ b < (XS X).heap.size ∧ ¬ AY Y b
section JLAW
variable {X : CX} {Y : DX} {own : String} {cc : ByteArray} {nL d pc b L : Nat} {xs : Nat → Int32} {Q : State → Prop} {lv : List (Nat × Value)} {st : List Value} {G : GM} {φ : Prop} {α : Type} {v : α} {p : Option α}
theorem J_sld {i : Int32} (hX : CXok X Y own cc nL d) (hSc : ScX X Y b L xs) (hd : decode cc pc = .ok (.iaload, 1)) (k : J X Y nL Q (pc + 1) lv (.int (xs i.toNatClampNeg) :: st) G (p = some v)) : J X Y nL Q pc lv (.int i :: .ref b :: st) G (gd (inb i L) p = some v) := fun hφ hw H locs ls hP hS hl => va_sld hX.1 hX.2.1 hSc.1 hSc.2.1 hSc.2.2 hS (inb_in (gd_some hφ).1) hd (k (gd_some hφ).2 hw H locs ls hP hS hl)
theorem J_slg (hX : CXok X Y own cc nL d) (hSc : ScX X Y b L xs) (hd : decode cc pc = .ok (.arraylength, 1)) (k : J X Y nL Q (pc + 1) lv (.int (Int32.ofNat L) :: st) G φ) : J X Y nL Q pc lv (.ref b :: st) G φ := fun hφ hw H locs ls hP hS hl => va_slen hX.1 hX.2.1 hSc.1 hSc.2.1 hSc.2.2 hS hd (k hφ hw H locs ls hP hS hl)
end JLAW
def lp_L_law_18 (L : Nat) (xs : Nat → Int32)   (v3 : Int32) (G : GM) (kc18 : Int32 → GM → Option (Int32 × GM)) : Option (Int32 × GM) :=
  if ((Int32.ofNat L) - (6 : Int32)) < v3 then
(some ((1 : Int32), G))
else
(gd (inb v3 L) <|
if ((xs v3.toNatClampNeg) &&& (63 : Int32)) = 0 then
(gd (inb (v3 + (1 : Int32)) L) <|
gd (inb (v3 + (2 : Int32)) L) <|
gd (inb (v3 + (3 : Int32)) L) <|
gd (inb (v3 + (4 : Int32)) L) <|
gd (inb (v3 + (5 : Int32)) L) <|
ob (f_X9_feed (xs (v3 + (1 : Int32)).toNatClampNeg) (xs (v3 + (2 : Int32)).toNatClampNeg) (xs (v3 + (3 : Int32)).toNatClampNeg) (xs (v3 + (4 : Int32)).toNatClampNeg) (xs (v3 + (5 : Int32)).toNatClampNeg) G) fun r294 G294 =>
gd (inb (v3 + (1 : Int32)) L) <|
gd (inb (v3 + (2 : Int32)) L) <|
gd (inb (v3 + (3 : Int32)) L) <|
gd (inb (v3 + (4 : Int32)) L) <|
gd (inb (v3 + (5 : Int32)) L) <|
ob (f_X10_feed (xs (v3 + (1 : Int32)).toNatClampNeg) (xs (v3 + (2 : Int32)).toNatClampNeg) (xs (v3 + (3 : Int32)).toNatClampNeg) (xs (v3 + (4 : Int32)).toNatClampNeg) (xs (v3 + (5 : Int32)).toNatClampNeg) G294) fun r323 G323 =>
if r294 = r323 then
((kc18 (v3 + (6 : Int32)) G323))
else
(some ((0 : Int32), G323)))
else
if ((xs v3.toNatClampNeg) &&& (63 : Int32)) = 1 then
(gd (inb (v3 + (1 : Int32)) L) <|
ob (f_X9_end (xs (v3 + (1 : Int32)).toNatClampNeg) G) fun r337 G337 =>
gd (inb (v3 + (1 : Int32)) L) <|
ob (f_X10_end (xs (v3 + (1 : Int32)).toNatClampNeg) G337) fun r346 G346 =>
if r337 = r346 then
((kc18 (v3 + (6 : Int32)) G346))
else
(some ((0 : Int32), G346)))
else
if ((xs v3.toNatClampNeg) &&& (63 : Int32)) = 2 then
(ob (f_X9_hall G) fun r355 G355 =>
ob (f_X10_hall G355) fun r359 G359 =>
if r355 = r359 then
((kc18 (v3 + (6 : Int32)) G359))
else
(some ((0 : Int32), G359)))
else
if ((xs v3.toNatClampNeg) &&& (63 : Int32)) = 3 then
(gd (inb (v3 + (1 : Int32)) L) <|
ob (f_X9_fault (xs (v3 + (1 : Int32)).toNatClampNeg) G) fun r373 G373 =>
gd (inb (v3 + (1 : Int32)) L) <|
ob (f_X10_fault (xs (v3 + (1 : Int32)).toNatClampNeg) G373) fun r382 G382 =>
if r373 = r382 then
((kc18 (v3 + (6 : Int32)) G382))
else
(some ((0 : Int32), G382)))
else
if ((xs v3.toNatClampNeg) &&& (63 : Int32)) = 4 then
(gd (inb (v3 + (1 : Int32)) L) <|
gd (inb (v3 + (2 : Int32)) L) <|
ob (f_X9_column (xs (v3 + (1 : Int32)).toNatClampNeg) (xs (v3 + (2 : Int32)).toNatClampNeg) G) fun r401 G401 =>
gd (inb (v3 + (1 : Int32)) L) <|
gd (inb (v3 + (2 : Int32)) L) <|
ob (f_X10_column (xs (v3 + (1 : Int32)).toNatClampNeg) (xs (v3 + (2 : Int32)).toNatClampNeg) G401) fun r415 G415 =>
if r401 = r415 then
((kc18 (v3 + (6 : Int32)) G415))
else
(some ((0 : Int32), G415)))
else
if ((xs v3.toNatClampNeg) &&& (63 : Int32)) = 5 then
(ob (f_X9_numbers G) fun r424 G424 =>
ob (f_X10_numbers G424) fun r428 G428 =>
if r424 = r428 then
((kc18 (v3 + (6 : Int32)) G428))
else
(some ((0 : Int32), G428)))
else
if ((xs v3.toNatClampNeg) &&& (63 : Int32)) = 6 then
(ob (f_X9_plans G) fun r437 G437 =>
ob (f_X10_plans_ G437) fun r441 G441 =>
if r437 = r441 then
((kc18 (v3 + (6 : Int32)) G441))
else
(some ((0 : Int32), G441)))
else
if ((xs v3.toNatClampNeg) &&& (63 : Int32)) = 7 then
(gd (inb (v3 + (1 : Int32)) L) <|
gd (inb (v3 + (2 : Int32)) L) <|
gd (inb (v3 + (3 : Int32)) L) <|
ob (f_X9_plan (xs (v3 + (1 : Int32)).toNatClampNeg) (xs (v3 + (2 : Int32)).toNatClampNeg) (xs (v3 + (3 : Int32)).toNatClampNeg) G) fun r465 G465 =>
gd (inb (v3 + (1 : Int32)) L) <|
gd (inb (v3 + (2 : Int32)) L) <|
gd (inb (v3 + (3 : Int32)) L) <|
ob (f_X10_plan (xs (v3 + (1 : Int32)).toNatClampNeg) (xs (v3 + (2 : Int32)).toNatClampNeg) (xs (v3 + (3 : Int32)).toNatClampNeg) G465) fun r484 G484 =>
if r465 = r484 then
((kc18 (v3 + (6 : Int32)) G484))
else
(some ((0 : Int32), G484)))
else
if ((xs v3.toNatClampNeg) &&& (63 : Int32)) = 8 then
(gd (inb (v3 + (1 : Int32)) L) <|
ob (f_X9_layouts (xs (v3 + (1 : Int32)).toNatClampNeg) G) fun r498 G498 =>
gd (inb (v3 + (1 : Int32)) L) <|
ob (f_X10_layouts_ (xs (v3 + (1 : Int32)).toNatClampNeg) G498) fun r507 G507 =>
if r498 = r507 then
((kc18 (v3 + (6 : Int32)) G507))
else
(some ((0 : Int32), G507)))
else
if ((xs v3.toNatClampNeg) &&& (63 : Int32)) = 9 then
(gd (inb (v3 + (1 : Int32)) L) <|
ob (f_X9_made (xs (v3 + (1 : Int32)).toNatClampNeg) G) fun r521 G521 =>
gd (inb (v3 + (1 : Int32)) L) <|
ob (f_X10_made (xs (v3 + (1 : Int32)).toNatClampNeg) G521) fun r530 G530 =>
if r521 = r530 then
((kc18 (v3 + (6 : Int32)) G530))
else
(some ((0 : Int32), G530)))
else
if ((xs v3.toNatClampNeg) &&& (63 : Int32)) = 10 then
(gd (inb (v3 + (1 : Int32)) L) <|
gd (inb (v3 + (2 : Int32)) L) <|
gd (inb (v3 + (3 : Int32)) L) <|
gd (inb (v3 + (4 : Int32)) L) <|
ob (f_X9_cell (xs (v3 + (1 : Int32)).toNatClampNeg) (xs (v3 + (2 : Int32)).toNatClampNeg) (xs (v3 + (3 : Int32)).toNatClampNeg) (xs (v3 + (4 : Int32)).toNatClampNeg) G) fun r559 G559 =>
gd (inb (v3 + (1 : Int32)) L) <|
gd (inb (v3 + (2 : Int32)) L) <|
gd (inb (v3 + (3 : Int32)) L) <|
gd (inb (v3 + (4 : Int32)) L) <|
ob (f_X10_cell (xs (v3 + (1 : Int32)).toNatClampNeg) (xs (v3 + (2 : Int32)).toNatClampNeg) (xs (v3 + (3 : Int32)).toNatClampNeg) (xs (v3 + (4 : Int32)).toNatClampNeg) G559) fun r583 G583 =>
if r559 = r583 then
((kc18 (v3 + (6 : Int32)) G583))
else
(some ((0 : Int32), G583)))
else
if ((xs v3.toNatClampNeg) &&& (63 : Int32)) = 11 then
(gd (inb (v3 + (1 : Int32)) L) <|
gd (inb (v3 + (2 : Int32)) L) <|
ob (f_X9_where (xs (v3 + (1 : Int32)).toNatClampNeg) (xs (v3 + (2 : Int32)).toNatClampNeg) G) fun r602 G602 =>
gd (inb (v3 + (1 : Int32)) L) <|
gd (inb (v3 + (2 : Int32)) L) <|
ob (f_X10_where (xs (v3 + (1 : Int32)).toNatClampNeg) (xs (v3 + (2 : Int32)).toNatClampNeg) G602) fun r616 G616 =>
if r602 = r616 then
((kc18 (v3 + (6 : Int32)) G616))
else
(some ((0 : Int32), G616)))
else
if ((xs v3.toNatClampNeg) &&& (63 : Int32)) = 12 then
(gd (inb (v3 + (1 : Int32)) L) <|
gd (inb (v3 + (2 : Int32)) L) <|
ob (f_X9_same (xs (v3 + (1 : Int32)).toNatClampNeg) (xs (v3 + (2 : Int32)).toNatClampNeg) G) fun r635 G635 =>
gd (inb (v3 + (1 : Int32)) L) <|
gd (inb (v3 + (2 : Int32)) L) <|
ob (f_X10_same (xs (v3 + (1 : Int32)).toNatClampNeg) (xs (v3 + (2 : Int32)).toNatClampNeg) G635) fun r649 G649 =>
if r635 = r649 then
((kc18 (v3 + (6 : Int32)) G649))
else
(some ((0 : Int32), G649)))
else
if ((xs v3.toNatClampNeg) &&& (63 : Int32)) = 13 then
(gd (inb (v3 + (1 : Int32)) L) <|
gd (inb (v3 + (2 : Int32)) L) <|
gd (inb (v3 + (3 : Int32)) L) <|
gd (inb (v3 + (4 : Int32)) L) <|
ob (f_X9_alike (xs (v3 + (1 : Int32)).toNatClampNeg) (xs (v3 + (2 : Int32)).toNatClampNeg) (xs (v3 + (3 : Int32)).toNatClampNeg) (xs (v3 + (4 : Int32)).toNatClampNeg) G) fun r678 G678 =>
gd (inb (v3 + (1 : Int32)) L) <|
gd (inb (v3 + (2 : Int32)) L) <|
gd (inb (v3 + (3 : Int32)) L) <|
gd (inb (v3 + (4 : Int32)) L) <|
ob (f_X10_alike (xs (v3 + (1 : Int32)).toNatClampNeg) (xs (v3 + (2 : Int32)).toNatClampNeg) (xs (v3 + (3 : Int32)).toNatClampNeg) (xs (v3 + (4 : Int32)).toNatClampNeg) G678) fun r702 G702 =>
if r678 = r702 then
((kc18 (v3 + (6 : Int32)) G702))
else
(some ((0 : Int32), G702)))
else
if ((xs v3.toNatClampNeg) &&& (63 : Int32)) = 14 then
(gd (inb (v3 + (1 : Int32)) L) <|
ob (f_X9_sell (xs (v3 + (1 : Int32)).toNatClampNeg) G) fun r716 G716 =>
gd (inb (v3 + (1 : Int32)) L) <|
ob (f_X10_sell (xs (v3 + (1 : Int32)).toNatClampNeg) G716) fun r725 G725 =>
if r716 = r725 then
((kc18 (v3 + (6 : Int32)) G725))
else
(some ((0 : Int32), G725)))
else
if ((xs v3.toNatClampNeg) &&& (63 : Int32)) = 15 then
(ob (f_X9_unsell G) fun r734 G734 =>
ob (f_X10_unsell G734) fun r738 G738 =>
if r734 = r738 then
((kc18 (v3 + (6 : Int32)) G738))
else
(some ((0 : Int32), G738)))
else
if ((xs v3.toNatClampNeg) &&& (63 : Int32)) = 16 then
(gd (inb (v3 + (1 : Int32)) L) <|
ob (f_X9_sold (xs (v3 + (1 : Int32)).toNatClampNeg) G) fun r752 G752 =>
gd (inb (v3 + (1 : Int32)) L) <|
ob (f_X10_sold (xs (v3 + (1 : Int32)).toNatClampNeg) G752) fun r761 G761 =>
if r752 = r761 then
((kc18 (v3 + (6 : Int32)) G761))
else
(some ((0 : Int32), G761)))
else
if ((xs v3.toNatClampNeg) &&& (63 : Int32)) = 17 then
(gd (inb (v3 + (1 : Int32)) L) <|
ob (f_X9_caller (xs (v3 + (1 : Int32)).toNatClampNeg) G) fun r775 G775 =>
gd (inb (v3 + (1 : Int32)) L) <|
ob (f_X10_caller (xs (v3 + (1 : Int32)).toNatClampNeg) G775) fun r784 G784 =>
if r775 = r784 then
((kc18 (v3 + (6 : Int32)) G784))
else
(some ((0 : Int32), G784)))
else
if ((xs v3.toNatClampNeg) &&& (63 : Int32)) = 18 then
(gd (inb (v3 + (1 : Int32)) L) <|
ob (f_X9_calls (xs (v3 + (1 : Int32)).toNatClampNeg) G) fun r798 G798 =>
gd (inb (v3 + (1 : Int32)) L) <|
ob (f_X10_calls (xs (v3 + (1 : Int32)).toNatClampNeg) G798) fun r807 G807 =>
if r798 = r807 then
((kc18 (v3 + (6 : Int32)) G807))
else
(some ((0 : Int32), G807)))
else
if ((xs v3.toNatClampNeg) &&& (63 : Int32)) = 19 then
(gd (inb (v3 + (1 : Int32)) L) <|
ob (f_X9_call (xs (v3 + (1 : Int32)).toNatClampNeg) G) fun r821 G821 =>
gd (inb (v3 + (1 : Int32)) L) <|
ob (f_X10_call (xs (v3 + (1 : Int32)).toNatClampNeg) G821) fun r830 G830 =>
if r821 = r830 then
((kc18 (v3 + (6 : Int32)) G830))
else
(some ((0 : Int32), G830)))
else
if ((xs v3.toNatClampNeg) &&& (63 : Int32)) = 20 then
(gd (inb (v3 + (1 : Int32)) L) <|
ob (f_X9_called (xs (v3 + (1 : Int32)).toNatClampNeg) G) fun r844 G844 =>
gd (inb (v3 + (1 : Int32)) L) <|
ob (f_X10_called (xs (v3 + (1 : Int32)).toNatClampNeg) G844) fun r853 G853 =>
if r844 = r853 then
((kc18 (v3 + (6 : Int32)) G853))
else
(some ((0 : Int32), G853)))
else
if ((xs v3.toNatClampNeg) &&& (63 : Int32)) = 21 then
(gd (inb (v3 + (1 : Int32)) L) <|
gd (inb (v3 + (2 : Int32)) L) <|
gd (inb (v3 + (3 : Int32)) L) <|
ob (f_X9_daubs (xs (v3 + (1 : Int32)).toNatClampNeg) (xs (v3 + (2 : Int32)).toNatClampNeg) (xs (v3 + (3 : Int32)).toNatClampNeg) G) fun r877 G877 =>
gd (inb (v3 + (1 : Int32)) L) <|
gd (inb (v3 + (2 : Int32)) L) <|
gd (inb (v3 + (3 : Int32)) L) <|
ob (f_X10_daubs (xs (v3 + (1 : Int32)).toNatClampNeg) (xs (v3 + (2 : Int32)).toNatClampNeg) (xs (v3 + (3 : Int32)).toNatClampNeg) G877) fun r896 G896 =>
if r877 = r896 then
((kc18 (v3 + (6 : Int32)) G896))
else
(some ((0 : Int32), G896)))
else
if ((xs v3.toNatClampNeg) &&& (63 : Int32)) = 22 then
(gd (inb (v3 + (1 : Int32)) L) <|
gd (inb (v3 + (2 : Int32)) L) <|
gd (inb (v3 + (3 : Int32)) L) <|
ob (f_X9_full (xs (v3 + (1 : Int32)).toNatClampNeg) (xs (v3 + (2 : Int32)).toNatClampNeg) (xs (v3 + (3 : Int32)).toNatClampNeg) G) fun r920 G920 =>
gd (inb (v3 + (1 : Int32)) L) <|
gd (inb (v3 + (2 : Int32)) L) <|
gd (inb (v3 + (3 : Int32)) L) <|
ob (f_X10_full (xs (v3 + (1 : Int32)).toNatClampNeg) (xs (v3 + (2 : Int32)).toNatClampNeg) (xs (v3 + (3 : Int32)).toNatClampNeg) G920) fun r939 G939 =>
if r920 = r939 then
((kc18 (v3 + (6 : Int32)) G939))
else
(some ((0 : Int32), G939)))
else
if ((xs v3.toNatClampNeg) &&& (63 : Int32)) = 23 then
(gd (inb (v3 + (1 : Int32)) L) <|
gd (inb (v3 + (2 : Int32)) L) <|
gd (inb (v3 + (3 : Int32)) L) <|
gd (inb (v3 + (4 : Int32)) L) <|
ob (f_X9_lacks (xs (v3 + (1 : Int32)).toNatClampNeg) (xs (v3 + (2 : Int32)).toNatClampNeg) (xs (v3 + (3 : Int32)).toNatClampNeg) (xs (v3 + (4 : Int32)).toNatClampNeg) G) fun r968 G968 =>
gd (inb (v3 + (1 : Int32)) L) <|
gd (inb (v3 + (2 : Int32)) L) <|
gd (inb (v3 + (3 : Int32)) L) <|
gd (inb (v3 + (4 : Int32)) L) <|
ob (f_X10_lacks (xs (v3 + (1 : Int32)).toNatClampNeg) (xs (v3 + (2 : Int32)).toNatClampNeg) (xs (v3 + (3 : Int32)).toNatClampNeg) (xs (v3 + (4 : Int32)).toNatClampNeg) G968) fun r992 G992 =>
if r968 = r992 then
((kc18 (v3 + (6 : Int32)) G992))
else
(some ((0 : Int32), G992)))
else
if ((xs v3.toNatClampNeg) &&& (63 : Int32)) = 24 then
(gd (inb (v3 + (1 : Int32)) L) <|
gd (inb (v3 + (2 : Int32)) L) <|
gd (inb (v3 + (3 : Int32)) L) <|
ob (f_X9_done (xs (v3 + (1 : Int32)).toNatClampNeg) (xs (v3 + (2 : Int32)).toNatClampNeg) (xs (v3 + (3 : Int32)).toNatClampNeg) G) fun r1016 G1016 =>
gd (inb (v3 + (1 : Int32)) L) <|
gd (inb (v3 + (2 : Int32)) L) <|
gd (inb (v3 + (3 : Int32)) L) <|
ob (f_X10_done (xs (v3 + (1 : Int32)).toNatClampNeg) (xs (v3 + (2 : Int32)).toNatClampNeg) (xs (v3 + (3 : Int32)).toNatClampNeg) G1016) fun r1035 G1035 =>
if r1016 = r1035 then
((kc18 (v3 + (6 : Int32)) G1035))
else
(some ((0 : Int32), G1035)))
else
if ((xs v3.toNatClampNeg) &&& (63 : Int32)) = 25 then
(gd (inb (v3 + (1 : Int32)) L) <|
gd (inb (v3 + (2 : Int32)) L) <|
gd (inb (v3 + (3 : Int32)) L) <|
gd (inb (v3 + (4 : Int32)) L) <|
ob (f_X9_claim (xs (v3 + (1 : Int32)).toNatClampNeg) (xs (v3 + (2 : Int32)).toNatClampNeg) (xs (v3 + (3 : Int32)).toNatClampNeg) (xs (v3 + (4 : Int32)).toNatClampNeg) G) fun r1064 G1064 =>
gd (inb (v3 + (1 : Int32)) L) <|
gd (inb (v3 + (2 : Int32)) L) <|
gd (inb (v3 + (3 : Int32)) L) <|
gd (inb (v3 + (4 : Int32)) L) <|
ob (f_X10_claim (xs (v3 + (1 : Int32)).toNatClampNeg) (xs (v3 + (2 : Int32)).toNatClampNeg) (xs (v3 + (3 : Int32)).toNatClampNeg) (xs (v3 + (4 : Int32)).toNatClampNeg) G1064) fun r1088 G1088 =>
if r1064 = r1088 then
((kc18 (v3 + (6 : Int32)) G1088))
else
(some ((0 : Int32), G1088)))
else
if ((xs v3.toNatClampNeg) &&& (63 : Int32)) = 26 then
(gd (inb (v3 + (1 : Int32)) L) <|
ob (f_X9_first (xs (v3 + (1 : Int32)).toNatClampNeg) G) fun r1102 G1102 =>
gd (inb (v3 + (1 : Int32)) L) <|
ob (f_X10_first_ (xs (v3 + (1 : Int32)).toNatClampNeg) G1102) fun r1111 G1111 =>
if r1102 = r1111 then
((kc18 (v3 + (6 : Int32)) G1111))
else
(some ((0 : Int32), G1111)))
else
if ((xs v3.toNatClampNeg) &&& (63 : Int32)) = 27 then
(gd (inb (v3 + (1 : Int32)) L) <|
gd (inb (v3 + (2 : Int32)) L) <|
ob (f_X9_winner (xs (v3 + (1 : Int32)).toNatClampNeg) (xs (v3 + (2 : Int32)).toNatClampNeg) G) fun r1130 G1130 =>
gd (inb (v3 + (1 : Int32)) L) <|
gd (inb (v3 + (2 : Int32)) L) <|
ob (f_X10_winner (xs (v3 + (1 : Int32)).toNatClampNeg) (xs (v3 + (2 : Int32)).toNatClampNeg) G1130) fun r1144 G1144 =>
if r1130 = r1144 then
((kc18 (v3 + (6 : Int32)) G1144))
else
(some ((0 : Int32), G1144)))
else
if ((xs v3.toNatClampNeg) &&& (63 : Int32)) = 28 then
(gd (inb (v3 + (1 : Int32)) L) <|
gd (inb (v3 + (2 : Int32)) L) <|
ob (f_X9_prize (xs (v3 + (1 : Int32)).toNatClampNeg) (xs (v3 + (2 : Int32)).toNatClampNeg) G) fun r1163 G1163 =>
gd (inb (v3 + (1 : Int32)) L) <|
gd (inb (v3 + (2 : Int32)) L) <|
ob (f_X10_prize (xs (v3 + (1 : Int32)).toNatClampNeg) (xs (v3 + (2 : Int32)).toNatClampNeg) G1163) fun r1177 G1177 =>
if r1163 = r1177 then
((kc18 (v3 + (6 : Int32)) G1177))
else
(some ((0 : Int32), G1177)))
else
if ((xs v3.toNatClampNeg) &&& (63 : Int32)) = 29 then
(gd (inb (v3 + (1 : Int32)) L) <|
ob (f_X9_jackpot (xs (v3 + (1 : Int32)).toNatClampNeg) G) fun r1191 G1191 =>
gd (inb (v3 + (1 : Int32)) L) <|
ob (f_X10_jackpot (xs (v3 + (1 : Int32)).toNatClampNeg) G1191) fun r1200 G1200 =>
if r1191 = r1200 then
((kc18 (v3 + (6 : Int32)) G1200))
else
(some ((0 : Int32), G1200)))
else
if ((xs v3.toNatClampNeg) &&& (63 : Int32)) = 30 then
(gd (inb (v3 + (1 : Int32)) L) <|
ob (f_X9_wins (xs (v3 + (1 : Int32)).toNatClampNeg) G) fun r1214 G1214 =>
gd (inb (v3 + (1 : Int32)) L) <|
ob (f_X10_wins (xs (v3 + (1 : Int32)).toNatClampNeg) G1214) fun r1223 G1223 =>
if r1214 = r1223 then
((kc18 (v3 + (6 : Int32)) G1223))
else
(some ((0 : Int32), G1223)))
else
if ((xs v3.toNatClampNeg) &&& (63 : Int32)) = 31 then
(gd (inb (v3 + (1 : Int32)) L) <|
gd (inb (v3 + (2 : Int32)) L) <|
ob (f_X9_book (xs (v3 + (1 : Int32)).toNatClampNeg) (xs (v3 + (2 : Int32)).toNatClampNeg) G) fun r1242 G1242 =>
gd (inb (v3 + (1 : Int32)) L) <|
gd (inb (v3 + (2 : Int32)) L) <|
ob (f_X10_book (xs (v3 + (1 : Int32)).toNatClampNeg) (xs (v3 + (2 : Int32)).toNatClampNeg) G1242) fun r1256 G1256 =>
if r1242 = r1256 then
((kc18 (v3 + (6 : Int32)) G1256))
else
(some ((0 : Int32), G1256)))
else
if ((xs v3.toNatClampNeg) &&& (63 : Int32)) = 32 then
(gd (inb (v3 + (1 : Int32)) L) <|
gd (inb (v3 + (2 : Int32)) L) <|
gd (inb (v3 + (3 : Int32)) L) <|
ob (f_X9_shaped (xs (v3 + (1 : Int32)).toNatClampNeg) (xs (v3 + (2 : Int32)).toNatClampNeg) (xs (v3 + (3 : Int32)).toNatClampNeg) G) fun r1280 G1280 =>
gd (inb (v3 + (1 : Int32)) L) <|
gd (inb (v3 + (2 : Int32)) L) <|
gd (inb (v3 + (3 : Int32)) L) <|
ob (f_X10_shaped (xs (v3 + (1 : Int32)).toNatClampNeg) (xs (v3 + (2 : Int32)).toNatClampNeg) (xs (v3 + (3 : Int32)).toNatClampNeg) G1280) fun r1299 G1299 =>
if r1280 = r1299 then
((kc18 (v3 + (6 : Int32)) G1299))
else
(some ((0 : Int32), G1299)))
else
if ((xs v3.toNatClampNeg) &&& (63 : Int32)) = 33 then
(gd (inb (v3 + (1 : Int32)) L) <|
gd (inb (v3 + (2 : Int32)) L) <|
ob (f_X9_shape (xs (v3 + (1 : Int32)).toNatClampNeg) (xs (v3 + (2 : Int32)).toNatClampNeg) G) fun r1318 G1318 =>
gd (inb (v3 + (1 : Int32)) L) <|
gd (inb (v3 + (2 : Int32)) L) <|
ob (f_X10_shape (xs (v3 + (1 : Int32)).toNatClampNeg) (xs (v3 + (2 : Int32)).toNatClampNeg) G1318) fun r1332 G1332 =>
if r1318 = r1332 then
((kc18 (v3 + (6 : Int32)) G1332))
else
(some ((0 : Int32), G1332)))
else
if ((xs v3.toNatClampNeg) &&& (63 : Int32)) = 34 then
(gd (inb (v3 + (1 : Int32)) L) <|
gd (inb (v3 + (2 : Int32)) L) <|
ob (f_X9_corners (xs (v3 + (1 : Int32)).toNatClampNeg) (xs (v3 + (2 : Int32)).toNatClampNeg) G) fun r1351 G1351 =>
gd (inb (v3 + (1 : Int32)) L) <|
gd (inb (v3 + (2 : Int32)) L) <|
ob (f_X10_corners (xs (v3 + (1 : Int32)).toNatClampNeg) (xs (v3 + (2 : Int32)).toNatClampNeg) G1351) fun r1365 G1365 =>
if r1351 = r1365 then
((kc18 (v3 + (6 : Int32)) G1365))
else
(some ((0 : Int32), G1365)))
else
if ((xs v3.toNatClampNeg) &&& (63 : Int32)) = 35 then
(gd (inb (v3 + (1 : Int32)) L) <|
gd (inb (v3 + (2 : Int32)) L) <|
gd (inb (v3 + (3 : Int32)) L) <|
ob (f_X9_filled (xs (v3 + (1 : Int32)).toNatClampNeg) (xs (v3 + (2 : Int32)).toNatClampNeg) (xs (v3 + (3 : Int32)).toNatClampNeg) G) fun r1389 G1389 =>
gd (inb (v3 + (1 : Int32)) L) <|
gd (inb (v3 + (2 : Int32)) L) <|
gd (inb (v3 + (3 : Int32)) L) <|
ob (f_X10_filled (xs (v3 + (1 : Int32)).toNatClampNeg) (xs (v3 + (2 : Int32)).toNatClampNeg) (xs (v3 + (3 : Int32)).toNatClampNeg) G1389) fun r1408 G1408 =>
if r1389 = r1408 then
((kc18 (v3 + (6 : Int32)) G1408))
else
(some ((0 : Int32), G1408)))
else
if ((xs v3.toNatClampNeg) &&& (63 : Int32)) = 36 then
(gd (inb (v3 + (1 : Int32)) L) <|
gd (inb (v3 + (2 : Int32)) L) <|
ob (f_X9_last (xs (v3 + (1 : Int32)).toNatClampNeg) (xs (v3 + (2 : Int32)).toNatClampNeg) G) fun r1427 G1427 =>
gd (inb (v3 + (1 : Int32)) L) <|
gd (inb (v3 + (2 : Int32)) L) <|
ob (f_X10_last (xs (v3 + (1 : Int32)).toNatClampNeg) (xs (v3 + (2 : Int32)).toNatClampNeg) G1427) fun r1441 G1441 =>
if r1427 = r1441 then
((kc18 (v3 + (6 : Int32)) G1441))
else
(some ((0 : Int32), G1441)))
else
if ((xs v3.toNatClampNeg) &&& (63 : Int32)) = 37 then
(gd (inb (v3 + (1 : Int32)) L) <|
gd (inb (v3 + (2 : Int32)) L) <|
ob (f_X9_sweat (xs (v3 + (1 : Int32)).toNatClampNeg) (xs (v3 + (2 : Int32)).toNatClampNeg) G) fun r1460 G1460 =>
gd (inb (v3 + (1 : Int32)) L) <|
gd (inb (v3 + (2 : Int32)) L) <|
ob (f_X10_sweat (xs (v3 + (1 : Int32)).toNatClampNeg) (xs (v3 + (2 : Int32)).toNatClampNeg) G1460) fun r1474 G1474 =>
if r1460 = r1474 then
((kc18 (v3 + (6 : Int32)) G1474))
else
(some ((0 : Int32), G1474)))
else
if ((xs v3.toNatClampNeg) &&& (63 : Int32)) = 38 then
(gd (inb (v3 + (1 : Int32)) L) <|
gd (inb (v3 + (2 : Int32)) L) <|
ob (f_X9_nearest (xs (v3 + (1 : Int32)).toNatClampNeg) (xs (v3 + (2 : Int32)).toNatClampNeg) G) fun r1493 G1493 =>
gd (inb (v3 + (1 : Int32)) L) <|
gd (inb (v3 + (2 : Int32)) L) <|
ob (f_X10_nearest (xs (v3 + (1 : Int32)).toNatClampNeg) (xs (v3 + (2 : Int32)).toNatClampNeg) G1493) fun r1507 G1507 =>
if r1493 = r1507 then
((kc18 (v3 + (6 : Int32)) G1507))
else
(some ((0 : Int32), G1507)))
else
if ((xs v3.toNatClampNeg) &&& (63 : Int32)) = 39 then
(gd (inb (v3 + (1 : Int32)) L) <|
gd (inb (v3 + (2 : Int32)) L) <|
gd (inb (v3 + (3 : Int32)) L) <|
gd (inb (v3 + (4 : Int32)) L) <|
ob (f_X9_slow (xs (v3 + (1 : Int32)).toNatClampNeg) (xs (v3 + (2 : Int32)).toNatClampNeg) (xs (v3 + (3 : Int32)).toNatClampNeg) (xs (v3 + (4 : Int32)).toNatClampNeg) G) fun r1536 G1536 =>
gd (inb (v3 + (1 : Int32)) L) <|
gd (inb (v3 + (2 : Int32)) L) <|
gd (inb (v3 + (3 : Int32)) L) <|
gd (inb (v3 + (4 : Int32)) L) <|
ob (f_X10_slow (xs (v3 + (1 : Int32)).toNatClampNeg) (xs (v3 + (2 : Int32)).toNatClampNeg) (xs (v3 + (3 : Int32)).toNatClampNeg) (xs (v3 + (4 : Int32)).toNatClampNeg) G1536) fun r1560 G1560 =>
if r1536 = r1560 then
((kc18 (v3 + (6 : Int32)) G1560))
else
(some ((0 : Int32), G1560)))
else
if ((xs v3.toNatClampNeg) &&& (63 : Int32)) = 40 then
(gd (inb (v3 + (1 : Int32)) L) <|
gd (inb (v3 + (2 : Int32)) L) <|
ob (f_X9_race (xs (v3 + (1 : Int32)).toNatClampNeg) (xs (v3 + (2 : Int32)).toNatClampNeg) G) fun r1579 G1579 =>
gd (inb (v3 + (1 : Int32)) L) <|
gd (inb (v3 + (2 : Int32)) L) <|
ob (f_X10_race (xs (v3 + (1 : Int32)).toNatClampNeg) (xs (v3 + (2 : Int32)).toNatClampNeg) G1579) fun r1593 G1593 =>
if r1579 = r1593 then
((kc18 (v3 + (6 : Int32)) G1593))
else
(some ((0 : Int32), G1593)))
else
if ((xs v3.toNatClampNeg) &&& (63 : Int32)) = 41 then
(gd (inb (v3 + (1 : Int32)) L) <|
gd (inb (v3 + (2 : Int32)) L) <|
ob (f_X9_share (xs (v3 + (1 : Int32)).toNatClampNeg) (xs (v3 + (2 : Int32)).toNatClampNeg) G) fun r1612 G1612 =>
gd (inb (v3 + (1 : Int32)) L) <|
gd (inb (v3 + (2 : Int32)) L) <|
ob (f_X10_share (xs (v3 + (1 : Int32)).toNatClampNeg) (xs (v3 + (2 : Int32)).toNatClampNeg) G1612) fun r1626 G1626 =>
if r1612 = r1626 then
((kc18 (v3 + (6 : Int32)) G1626))
else
(some ((0 : Int32), G1626)))
else
if ((xs v3.toNatClampNeg) &&& (63 : Int32)) = 42 then
(gd (inb (v3 + (1 : Int32)) L) <|
gd (inb (v3 + (2 : Int32)) L) <|
gd (inb (v3 + (3 : Int32)) L) <|
ob (f_X9_chance (xs (v3 + (1 : Int32)).toNatClampNeg) (xs (v3 + (2 : Int32)).toNatClampNeg) (xs (v3 + (3 : Int32)).toNatClampNeg) G) fun r1650 G1650 =>
gd (inb (v3 + (1 : Int32)) L) <|
gd (inb (v3 + (2 : Int32)) L) <|
gd (inb (v3 + (3 : Int32)) L) <|
ob (f_X10_chance (xs (v3 + (1 : Int32)).toNatClampNeg) (xs (v3 + (2 : Int32)).toNatClampNeg) (xs (v3 + (3 : Int32)).toNatClampNeg) G1650) fun r1669 G1669 =>
if (lg_cmp r1650 r1669) = 0 then
((kc18 (v3 + (6 : Int32)) G1669))
else
(some ((0 : Int32), G1669)))
else
if ((xs v3.toNatClampNeg) &&& (63 : Int32)) = 43 then
(gd (inb (v3 + (1 : Int32)) L) <|
gd (inb (v3 + (2 : Int32)) L) <|
gd (inb (v3 + (3 : Int32)) L) <|
ob (f_X9_some (xs (v3 + (1 : Int32)).toNatClampNeg) (xs (v3 + (2 : Int32)).toNatClampNeg) (xs (v3 + (3 : Int32)).toNatClampNeg) G) fun r1694 G1694 =>
gd (inb (v3 + (1 : Int32)) L) <|
gd (inb (v3 + (2 : Int32)) L) <|
gd (inb (v3 + (3 : Int32)) L) <|
ob (f_X10_some (xs (v3 + (1 : Int32)).toNatClampNeg) (xs (v3 + (2 : Int32)).toNatClampNeg) (xs (v3 + (3 : Int32)).toNatClampNeg) G1694) fun r1713 G1713 =>
if (lg_cmp r1694 r1713) = 0 then
((kc18 (v3 + (6 : Int32)) G1713))
else
(some ((0 : Int32), G1713)))
else
if ((xs v3.toNatClampNeg) &&& (63 : Int32)) = 44 then
(gd (inb (v3 + (1 : Int32)) L) <|
gd (inb (v3 + (2 : Int32)) L) <|
gd (inb (v3 + (3 : Int32)) L) <|
ob (f_X9_just (xs (v3 + (1 : Int32)).toNatClampNeg) (xs (v3 + (2 : Int32)).toNatClampNeg) (xs (v3 + (3 : Int32)).toNatClampNeg) G) fun r1738 G1738 =>
gd (inb (v3 + (1 : Int32)) L) <|
gd (inb (v3 + (2 : Int32)) L) <|
gd (inb (v3 + (3 : Int32)) L) <|
ob (f_X10_just (xs (v3 + (1 : Int32)).toNatClampNeg) (xs (v3 + (2 : Int32)).toNatClampNeg) (xs (v3 + (3 : Int32)).toNatClampNeg) G1738) fun r1757 G1757 =>
if (lg_cmp r1738 r1757) = 0 then
((kc18 (v3 + (6 : Int32)) G1757))
else
(some ((0 : Int32), G1757)))
else
if ((xs v3.toNatClampNeg) &&& (63 : Int32)) = 45 then
(gd (inb (v3 + (1 : Int32)) L) <|
gd (inb (v3 + (2 : Int32)) L) <|
gd (inb (v3 + (3 : Int32)) L) <|
ob (f_X9_likely (xs (v3 + (1 : Int32)).toNatClampNeg) (xs (v3 + (2 : Int32)).toNatClampNeg) (xs (v3 + (3 : Int32)).toNatClampNeg) G) fun r1782 G1782 =>
gd (inb (v3 + (1 : Int32)) L) <|
gd (inb (v3 + (2 : Int32)) L) <|
gd (inb (v3 + (3 : Int32)) L) <|
ob (f_X10_likely (xs (v3 + (1 : Int32)).toNatClampNeg) (xs (v3 + (2 : Int32)).toNatClampNeg) (xs (v3 + (3 : Int32)).toNatClampNeg) G1782) fun r1801 G1801 =>
if r1782 = r1801 then
((kc18 (v3 + (6 : Int32)) G1801))
else
(some ((0 : Int32), G1801)))
else
if ((xs v3.toNatClampNeg) &&& (63 : Int32)) = 46 then
(gd (inb (v3 + (1 : Int32)) L) <|
gd (inb (v3 + (2 : Int32)) L) <|
ob (f_X9_mean (xs (v3 + (1 : Int32)).toNatClampNeg) (xs (v3 + (2 : Int32)).toNatClampNeg) G) fun r1820 G1820 =>
gd (inb (v3 + (1 : Int32)) L) <|
gd (inb (v3 + (2 : Int32)) L) <|
ob (f_X10_mean (xs (v3 + (1 : Int32)).toNatClampNeg) (xs (v3 + (2 : Int32)).toNatClampNeg) G1820) fun r1834 G1834 =>
if r1820 = r1834 then
((kc18 (v3 + (6 : Int32)) G1834))
else
(some ((0 : Int32), G1834)))
else
if ((xs v3.toNatClampNeg) &&& (63 : Int32)) = 47 then
(gd (inb (v3 + (1 : Int32)) L) <|
gd (inb (v3 + (2 : Int32)) L) <|
gd (inb (v3 + (3 : Int32)) L) <|
gd (inb (v3 + (4 : Int32)) L) <|
ob (f_X9_evenings (xs (v3 + (1 : Int32)).toNatClampNeg) (xs (v3 + (2 : Int32)).toNatClampNeg) (xs (v3 + (3 : Int32)).toNatClampNeg) (xs (v3 + (4 : Int32)).toNatClampNeg) G) fun r1863 G1863 =>
gd (inb (v3 + (1 : Int32)) L) <|
gd (inb (v3 + (2 : Int32)) L) <|
gd (inb (v3 + (3 : Int32)) L) <|
gd (inb (v3 + (4 : Int32)) L) <|
ob (f_X10_evenings (xs (v3 + (1 : Int32)).toNatClampNeg) (xs (v3 + (2 : Int32)).toNatClampNeg) (xs (v3 + (3 : Int32)).toNatClampNeg) (xs (v3 + (4 : Int32)).toNatClampNeg) G1863) fun r1887 G1887 =>
if r1863 = r1887 then
((kc18 (v3 + (6 : Int32)) G1887))
else
(some ((0 : Int32), G1887)))
else
if ((xs v3.toNatClampNeg) &&& (63 : Int32)) = 48 then
(gd (inb (v3 + (1 : Int32)) L) <|
ob (f_X9_judge (xs (v3 + (1 : Int32)).toNatClampNeg) G) fun r1901 G1901 =>
gd (inb (v3 + (1 : Int32)) L) <|
ob (f_X10_judge (xs (v3 + (1 : Int32)).toNatClampNeg) G1901) fun r1910 G1910 =>
if r1901 = r1910 then
((kc18 (v3 + (6 : Int32)) G1910))
else
(some ((0 : Int32), G1910)))
else
if ((xs v3.toNatClampNeg) &&& (63 : Int32)) = 49 then
(gd (inb (v3 + (1 : Int32)) L) <|
ob (f_X9_count (xs (v3 + (1 : Int32)).toNatClampNeg) G) fun r1924 G1924 =>
gd (inb (v3 + (1 : Int32)) L) <|
ob (f_X10_count (xs (v3 + (1 : Int32)).toNatClampNeg) G1924) fun r1933 G1933 =>
if r1924 = r1933 then
((kc18 (v3 + (6 : Int32)) G1933))
else
(some ((0 : Int32), G1933)))
else
if ((xs v3.toNatClampNeg) &&& (63 : Int32)) = 50 then
(gd (inb (v3 + (1 : Int32)) L) <|
ob (f_X9_keep (xs (v3 + (1 : Int32)).toNatClampNeg) G) fun r1947 G1947 =>
gd (inb (v3 + (1 : Int32)) L) <|
ob (f_X10_keep (xs (v3 + (1 : Int32)).toNatClampNeg) G1947) fun r1956 G1956 =>
if r1947 = r1956 then
((kc18 (v3 + (6 : Int32)) G1956))
else
(some ((0 : Int32), G1956)))
else
if ((xs v3.toNatClampNeg) &&& (63 : Int32)) = 51 then
(gd (inb (v3 + (1 : Int32)) L) <|
ob (f_X9_back (xs (v3 + (1 : Int32)).toNatClampNeg) G) fun r1970 G1970 =>
gd (inb (v3 + (1 : Int32)) L) <|
ob (f_X10_back (xs (v3 + (1 : Int32)).toNatClampNeg) G1970) fun r1979 G1979 =>
if r1970 = r1979 then
((kc18 (v3 + (6 : Int32)) G1979))
else
(some ((0 : Int32), G1979)))
else
if ((xs v3.toNatClampNeg) &&& (63 : Int32)) = 52 then
(gd (inb (v3 + (1 : Int32)) L) <|
gd (inb (v3 + (2 : Int32)) L) <|
gd (inb (v3 + (3 : Int32)) L) <|
ob (f_X9_row (xs (v3 + (1 : Int32)).toNatClampNeg) (xs (v3 + (2 : Int32)).toNatClampNeg) (xs (v3 + (3 : Int32)).toNatClampNeg) G) fun r2003 G2003 =>
gd (inb (v3 + (1 : Int32)) L) <|
gd (inb (v3 + (2 : Int32)) L) <|
gd (inb (v3 + (3 : Int32)) L) <|
ob (f_X10_row (xs (v3 + (1 : Int32)).toNatClampNeg) (xs (v3 + (2 : Int32)).toNatClampNeg) (xs (v3 + (3 : Int32)).toNatClampNeg) G2003) fun r2022 G2022 =>
if r2003 = r2022 then
((kc18 (v3 + (6 : Int32)) G2022))
else
(some ((0 : Int32), G2022)))
else
if ((xs v3.toNatClampNeg) &&& (63 : Int32)) = 53 then
(gd (inb (v3 + (1 : Int32)) L) <|
gd (inb (v3 + (2 : Int32)) L) <|
gd (inb (v3 + (3 : Int32)) L) <|
gd (inb (v3 + (4 : Int32)) L) <|
ob (f_X9_write (xs (v3 + (1 : Int32)).toNatClampNeg) (xs (v3 + (2 : Int32)).toNatClampNeg) ((((xs (v3 + (3 : Int32)).toNatClampNeg).toInt64) <<< ((32 : Int32).toInt64 &&& 63)) ||| (((xs (v3 + (4 : Int32)).toNatClampNeg).toInt64) &&& (4294967295 : Int64))) G) fun r2061 G2061 =>
gd (inb (v3 + (1 : Int32)) L) <|
gd (inb (v3 + (2 : Int32)) L) <|
gd (inb (v3 + (3 : Int32)) L) <|
gd (inb (v3 + (4 : Int32)) L) <|
ob (f_X10_write (xs (v3 + (1 : Int32)).toNatClampNeg) (xs (v3 + (2 : Int32)).toNatClampNeg) ((((xs (v3 + (3 : Int32)).toNatClampNeg).toInt64) <<< ((32 : Int32).toInt64 &&& 63)) ||| (((xs (v3 + (4 : Int32)).toNatClampNeg).toInt64) &&& (4294967295 : Int64))) G2061) fun r2095 G2095 =>
if r2061 = r2095 then
((kc18 (v3 + (6 : Int32)) G2095))
else
(some ((0 : Int32), G2095)))
else
if ((xs v3.toNatClampNeg) &&& (63 : Int32)) = 54 then
(gd (inb (v3 + (1 : Int32)) L) <|
gd (inb (v3 + (2 : Int32)) L) <|
gd (inb (v3 + (3 : Int32)) L) <|
gd (inb (v3 + (4 : Int32)) L) <|
gd (inb (v3 + (5 : Int32)) L) <|
ob (f_X9_paste (xs (v3 + (1 : Int32)).toNatClampNeg) (xs (v3 + (2 : Int32)).toNatClampNeg) (xs (v3 + (3 : Int32)).toNatClampNeg) (xs (v3 + (4 : Int32)).toNatClampNeg) (xs (v3 + (5 : Int32)).toNatClampNeg) G) fun r2129 G2129 =>
gd (inb (v3 + (1 : Int32)) L) <|
gd (inb (v3 + (2 : Int32)) L) <|
gd (inb (v3 + (3 : Int32)) L) <|
gd (inb (v3 + (4 : Int32)) L) <|
gd (inb (v3 + (5 : Int32)) L) <|
ob (f_X10_paste (xs (v3 + (1 : Int32)).toNatClampNeg) (xs (v3 + (2 : Int32)).toNatClampNeg) (xs (v3 + (3 : Int32)).toNatClampNeg) (xs (v3 + (4 : Int32)).toNatClampNeg) (xs (v3 + (5 : Int32)).toNatClampNeg) G2129) fun r2158 G2158 =>
if r2129 = r2158 then
((kc18 (v3 + (6 : Int32)) G2158))
else
(some ((0 : Int32), G2158)))
else
((kc18 (v3 + (6 : Int32)) G)))
def f_L_law (L : Nat) (xs : Nat → Int32) (v3 : Int32) (G : GM) : Option (Int32 × GM) := wl1 FU (lp_L_law_18 L xs) v3 G
set_option maxHeartbeats 40000000 in
set_option maxRecDepth 100000 in
theorem law_walk {X : CX} {Y : DX} {Q : State → Prop} {b L : Nat} {xs : Nat → Int32} {d : Nat} (hd20 : 34 ≤ d) (hX : CXok X Y RL cL_law 4 d) (hSc : ScX X Y b L xs) {r : Int32} {G' : GM} (hR : RetZ X Y cL_law 4 Q r G') {v3 : Int32} {G : GM} (hf : f_L_law L xs v3 G = some (r, G')) : KX X Y 4 Q 18 [(0, .ref b), (1, .ref (AD Y 0)), (2, .ref (AD Y 186)), (3, .int v3)] [] G := by
  have K18 : ∀  (n : Nat) (v3 : Int32) (G : GM), J X Y 4 Q 18 [(0, .ref b), (1, .ref (AD Y 0)), (2, .ref (AD Y 186)), (3, .int v3)] [] G (wl1 n (lp_L_law_18 L xs) v3 G = some (r, G')) := by
    refine wl1_ind (R := fun v3 G φ => J X Y 4 Q 18 [(0, .ref b), (1, .ref (AD Y 0)), (2, .ref (AD Y 186)), (3, .int v3)] [] G φ) (fun _ G φ h => J_no h) ?_
    intro kc18 hk18 v3 G
    unfold lp_L_law_18
    refine J_iload_n 3 hX dL_law_18 fz3 rfl ?_
    refine J_aload_n 0 hX dL_law_19 fz0 rfl ?_
    refine J_slg hX hSc dL_law_20 ?_
    refine J_bipush hX dL_law_21 cb_6 ?_
    refine J_isub hX dL_law_23 ?_
    refine J_icmp_gt (tgt := 2172) hX dL_law_24 rfl ?_ ?_
    · refine J_iconst hX dL_law_2172 ci_1 ?_
      exact J_retZ hR (by decide) dL_law_2173
    · refine J_aload_n 0 hX dL_law_27 fz0 rfl ?_
      refine J_iload_n 3 hX dL_law_28 fz3 rfl ?_
      refine J_sld hX hSc dL_law_29 ?_
      refine J_bipush hX dL_law_30 cb_63 ?_
      refine J_iand hX dL_law_32 ?_
      refine J_case (fun ht33_0 => ?_) (fun ht33_0 => ?_)
      · refine J_tswIn (off := 235) (tgt := 268) hX dL_law_33 (by rw [ht33_0]; decide) (by rw [ht33_0]; decide) (by rw [ht33_0]; decide +kernel) rfl ?_
        refine J_aload_n 1 hX dL_law_268 fz1 rfl ?_
        refine J_aload_n 0 hX dL_law_269 fz0 rfl ?_
        refine J_iload_n 3 hX dL_law_270 fz3 rfl ?_
        refine J_iconst hX dL_law_271 ci_1 ?_
        refine J_iadd hX dL_law_272 ?_
        refine J_sld hX hSc dL_law_273 ?_
        refine J_aload_n 0 hX dL_law_274 fz0 rfl ?_
        refine J_iload_n 3 hX dL_law_275 fz3 rfl ?_
        refine J_iconst hX dL_law_276 ci_2 ?_
        refine J_iadd hX dL_law_277 ?_
        refine J_sld hX hSc dL_law_278 ?_
        refine J_aload_n 0 hX dL_law_279 fz0 rfl ?_
        refine J_iload_n 3 hX dL_law_280 fz3 rfl ?_
        refine J_iconst hX dL_law_281 ci_3 ?_
        refine J_iadd hX dL_law_282 ?_
        refine J_sld hX hSc dL_law_283 ?_
        refine J_aload_n 0 hX dL_law_284 fz0 rfl ?_
        refine J_iload_n 3 hX dL_law_285 fz3 rfl ?_
        refine J_iconst hX dL_law_286 ci_4 ?_
        refine J_iadd hX dL_law_287 ?_
        refine J_sld hX hSc dL_law_288 ?_
        refine J_aload_n 0 hX dL_law_289 fz0 rfl ?_
        refine J_iload_n 3 hX dL_law_290 fz3 rfl ?_
        refine J_iconst hX dL_law_291 ci_5 ?_
        refine J_iadd hX dL_law_292 ?_
        refine J_sld hX hSc dL_law_293 ?_
        refine J_callVI (As := [.int (xs (v3 + (1 : Int32)).toNatClampNeg), .int (xs (v3 + (2 : Int32)).toNatClampNeg), .int (xs (v3 + (3 : Int32)).toNatClampNeg), .int (xs (v3 + (4 : Int32)).toNatClampNeg), .int (xs (v3 + (5 : Int32)).toNatClampNeg)]) (st := []) (b := 0) hX mv_L_13 sk_0 rfl rfl rfl (Nat.le_of_ble_eq_true rfl) (by omega) (Nat.le_of_ble_eq_true rfl) dL_law_294 (fun r G1 h => ok_X9_feed  h) fun r294 G294 => ?_
        refine J_aload_n 2 hX dL_law_297 fz2 rfl ?_
        refine J_aload_n 0 hX dL_law_298 fz0 rfl ?_
        refine J_iload_n 3 hX dL_law_299 fz3 rfl ?_
        refine J_iconst hX dL_law_300 ci_1 ?_
        refine J_iadd hX dL_law_301 ?_
        refine J_sld hX hSc dL_law_302 ?_
        refine J_aload_n 0 hX dL_law_303 fz0 rfl ?_
        refine J_iload_n 3 hX dL_law_304 fz3 rfl ?_
        refine J_iconst hX dL_law_305 ci_2 ?_
        refine J_iadd hX dL_law_306 ?_
        refine J_sld hX hSc dL_law_307 ?_
        refine J_aload_n 0 hX dL_law_308 fz0 rfl ?_
        refine J_iload_n 3 hX dL_law_309 fz3 rfl ?_
        refine J_iconst hX dL_law_310 ci_3 ?_
        refine J_iadd hX dL_law_311 ?_
        refine J_sld hX hSc dL_law_312 ?_
        refine J_aload_n 0 hX dL_law_313 fz0 rfl ?_
        refine J_iload_n 3 hX dL_law_314 fz3 rfl ?_
        refine J_iconst hX dL_law_315 ci_4 ?_
        refine J_iadd hX dL_law_316 ?_
        refine J_sld hX hSc dL_law_317 ?_
        refine J_aload_n 0 hX dL_law_318 fz0 rfl ?_
        refine J_iload_n 3 hX dL_law_319 fz3 rfl ?_
        refine J_iconst hX dL_law_320 ci_5 ?_
        refine J_iadd hX dL_law_321 ?_
        refine J_sld hX hSc dL_law_322 ?_
        refine J_callVI (As := [.int (xs (v3 + (1 : Int32)).toNatClampNeg), .int (xs (v3 + (2 : Int32)).toNatClampNeg), .int (xs (v3 + (3 : Int32)).toNatClampNeg), .int (xs (v3 + (4 : Int32)).toNatClampNeg), .int (xs (v3 + (5 : Int32)).toNatClampNeg)]) (st := [.int r294]) (b := 186) hX mv_L_17 sk_186 rfl rfl rfl (Nat.le_of_ble_eq_true rfl) (by omega) (Nat.le_of_ble_eq_true rfl) dL_law_323 (fun r G1 h => ok_X10_feed  h) fun r323 G323 => ?_
        refine J_icmp_eq (tgt := 2166) hX dL_law_326 rfl ?_ ?_
        · refine J_iinc (lv' := [(3, .int (v3 + (6 : Int32))), (0, .ref b), (1, .ref (AD Y 0)), (2, .ref (AD Y 186))]) 3 hX dL_law_2166 rfl ci_6 (Nat.le_of_ble_eq_true rfl) rfl ?_
          refine J_goto (tgt := 18) hX dL_law_2169 rfl ?_
          refine J_sub (lv' := [(0, .ref b), (1, .ref (AD Y 0)), (2, .ref (AD Y 186)), (3, .int (v3 + (6 : Int32)))]) [1, 2, 3, 0] rfl ?_
          exact hk18 (v3 + (6 : Int32)) G323
        · refine J_iconst hX dL_law_329 ci_0 ?_
          exact J_retZ hR (by decide) dL_law_330
      · refine J_case (fun ht33_1 => ?_) (fun ht33_1 => ?_)
        · refine J_tswIn (off := 298) (tgt := 331) hX dL_law_33 (by rw [ht33_1]; decide) (by rw [ht33_1]; decide) (by rw [ht33_1]; decide +kernel) rfl ?_
          refine J_aload_n 1 hX dL_law_331 fz1 rfl ?_
          refine J_aload_n 0 hX dL_law_332 fz0 rfl ?_
          refine J_iload_n 3 hX dL_law_333 fz3 rfl ?_
          refine J_iconst hX dL_law_334 ci_1 ?_
          refine J_iadd hX dL_law_335 ?_
          refine J_sld hX hSc dL_law_336 ?_
          refine J_callVI (As := [.int (xs (v3 + (1 : Int32)).toNatClampNeg)]) (st := []) (b := 0) hX mv_L_18 sk_0 rfl rfl rfl (Nat.le_of_ble_eq_true rfl) (by omega) (Nat.le_of_ble_eq_true rfl) dL_law_337 (fun r G1 h => ok_X9_end  h) fun r337 G337 => ?_
          refine J_aload_n 2 hX dL_law_340 fz2 rfl ?_
          refine J_aload_n 0 hX dL_law_341 fz0 rfl ?_
          refine J_iload_n 3 hX dL_law_342 fz3 rfl ?_
          refine J_iconst hX dL_law_343 ci_1 ?_
          refine J_iadd hX dL_law_344 ?_
          refine J_sld hX hSc dL_law_345 ?_
          refine J_callVI (As := [.int (xs (v3 + (1 : Int32)).toNatClampNeg)]) (st := [.int r337]) (b := 186) hX mv_L_22 sk_186 rfl rfl rfl (Nat.le_of_ble_eq_true rfl) (by omega) (Nat.le_of_ble_eq_true rfl) dL_law_346 (fun r G1 h => ok_X10_end  h) fun r346 G346 => ?_
          refine J_icmp_eq (tgt := 2166) hX dL_law_349 rfl ?_ ?_
          · refine J_iinc (lv' := [(3, .int (v3 + (6 : Int32))), (0, .ref b), (1, .ref (AD Y 0)), (2, .ref (AD Y 186))]) 3 hX dL_law_2166 rfl ci_6 (Nat.le_of_ble_eq_true rfl) rfl ?_
            refine J_goto (tgt := 18) hX dL_law_2169 rfl ?_
            refine J_sub (lv' := [(0, .ref b), (1, .ref (AD Y 0)), (2, .ref (AD Y 186)), (3, .int (v3 + (6 : Int32)))]) [1, 2, 3, 0] rfl ?_
            exact hk18 (v3 + (6 : Int32)) G346
          · refine J_iconst hX dL_law_352 ci_0 ?_
            exact J_retZ hR (by decide) dL_law_353
        · refine J_case (fun ht33_2 => ?_) (fun ht33_2 => ?_)
          · refine J_tswIn (off := 321) (tgt := 354) hX dL_law_33 (by rw [ht33_2]; decide) (by rw [ht33_2]; decide) (by rw [ht33_2]; decide +kernel) rfl ?_
            refine J_aload_n 1 hX dL_law_354 fz1 rfl ?_
            refine J_callVI (As := []) (st := []) (b := 0) hX mv_L_23 sk_0 rfl rfl rfl (Nat.le_of_ble_eq_true rfl) (by omega) (Nat.le_of_ble_eq_true rfl) dL_law_355 (fun r G1 h => ok_X9_hall  h) fun r355 G355 => ?_
            refine J_aload_n 2 hX dL_law_358 fz2 rfl ?_
            refine J_callVI (As := []) (st := [.int r355]) (b := 186) hX mv_L_27 sk_186 rfl rfl rfl (Nat.le_of_ble_eq_true rfl) (by omega) (Nat.le_of_ble_eq_true rfl) dL_law_359 (fun r G1 h => ok_X10_hall  h) fun r359 G359 => ?_
            refine J_icmp_eq (tgt := 2166) hX dL_law_362 rfl ?_ ?_
            · refine J_iinc (lv' := [(3, .int (v3 + (6 : Int32))), (0, .ref b), (1, .ref (AD Y 0)), (2, .ref (AD Y 186))]) 3 hX dL_law_2166 rfl ci_6 (Nat.le_of_ble_eq_true rfl) rfl ?_
              refine J_goto (tgt := 18) hX dL_law_2169 rfl ?_
              refine J_sub (lv' := [(0, .ref b), (1, .ref (AD Y 0)), (2, .ref (AD Y 186)), (3, .int (v3 + (6 : Int32)))]) [1, 2, 3, 0] rfl ?_
              exact hk18 (v3 + (6 : Int32)) G359
            · refine J_iconst hX dL_law_365 ci_0 ?_
              exact J_retZ hR (by decide) dL_law_366
          · refine J_case (fun ht33_3 => ?_) (fun ht33_3 => ?_)
            · refine J_tswIn (off := 334) (tgt := 367) hX dL_law_33 (by rw [ht33_3]; decide) (by rw [ht33_3]; decide) (by rw [ht33_3]; decide +kernel) rfl ?_
              refine J_aload_n 1 hX dL_law_367 fz1 rfl ?_
              refine J_aload_n 0 hX dL_law_368 fz0 rfl ?_
              refine J_iload_n 3 hX dL_law_369 fz3 rfl ?_
              refine J_iconst hX dL_law_370 ci_1 ?_
              refine J_iadd hX dL_law_371 ?_
              refine J_sld hX hSc dL_law_372 ?_
              refine J_callVI (As := [.int (xs (v3 + (1 : Int32)).toNatClampNeg)]) (st := []) (b := 0) hX mv_L_28 sk_0 rfl rfl rfl (Nat.le_of_ble_eq_true rfl) (by omega) (Nat.le_of_ble_eq_true rfl) dL_law_373 (fun r G1 h => ok_X9_fault  h) fun r373 G373 => ?_
              refine J_aload_n 2 hX dL_law_376 fz2 rfl ?_
              refine J_aload_n 0 hX dL_law_377 fz0 rfl ?_
              refine J_iload_n 3 hX dL_law_378 fz3 rfl ?_
              refine J_iconst hX dL_law_379 ci_1 ?_
              refine J_iadd hX dL_law_380 ?_
              refine J_sld hX hSc dL_law_381 ?_
              refine J_callVI (As := [.int (xs (v3 + (1 : Int32)).toNatClampNeg)]) (st := [.int r373]) (b := 186) hX mv_L_31 sk_186 rfl rfl rfl (Nat.le_of_ble_eq_true rfl) (by omega) (Nat.le_of_ble_eq_true rfl) dL_law_382 (fun r G1 h => ok_X10_fault  h) fun r382 G382 => ?_
              refine J_icmp_eq (tgt := 2166) hX dL_law_385 rfl ?_ ?_
              · refine J_iinc (lv' := [(3, .int (v3 + (6 : Int32))), (0, .ref b), (1, .ref (AD Y 0)), (2, .ref (AD Y 186))]) 3 hX dL_law_2166 rfl ci_6 (Nat.le_of_ble_eq_true rfl) rfl ?_
                refine J_goto (tgt := 18) hX dL_law_2169 rfl ?_
                refine J_sub (lv' := [(0, .ref b), (1, .ref (AD Y 0)), (2, .ref (AD Y 186)), (3, .int (v3 + (6 : Int32)))]) [1, 2, 3, 0] rfl ?_
                exact hk18 (v3 + (6 : Int32)) G382
              · refine J_iconst hX dL_law_388 ci_0 ?_
                exact J_retZ hR (by decide) dL_law_389
            · refine J_case (fun ht33_4 => ?_) (fun ht33_4 => ?_)
              · refine J_tswIn (off := 357) (tgt := 390) hX dL_law_33 (by rw [ht33_4]; decide) (by rw [ht33_4]; decide) (by rw [ht33_4]; decide +kernel) rfl ?_
                refine J_aload_n 1 hX dL_law_390 fz1 rfl ?_
                refine J_aload_n 0 hX dL_law_391 fz0 rfl ?_
                refine J_iload_n 3 hX dL_law_392 fz3 rfl ?_
                refine J_iconst hX dL_law_393 ci_1 ?_
                refine J_iadd hX dL_law_394 ?_
                refine J_sld hX hSc dL_law_395 ?_
                refine J_aload_n 0 hX dL_law_396 fz0 rfl ?_
                refine J_iload_n 3 hX dL_law_397 fz3 rfl ?_
                refine J_iconst hX dL_law_398 ci_2 ?_
                refine J_iadd hX dL_law_399 ?_
                refine J_sld hX hSc dL_law_400 ?_
                refine J_callVI (As := [.int (xs (v3 + (1 : Int32)).toNatClampNeg), .int (xs (v3 + (2 : Int32)).toNatClampNeg)]) (st := []) (b := 0) hX mv_L_32 sk_0 rfl rfl rfl (Nat.le_of_ble_eq_true rfl) (by omega) (Nat.le_of_ble_eq_true rfl) dL_law_401 (fun r G1 h => ok_X9_column  h) fun r401 G401 => ?_
                refine J_aload_n 2 hX dL_law_404 fz2 rfl ?_
                refine J_aload_n 0 hX dL_law_405 fz0 rfl ?_
                refine J_iload_n 3 hX dL_law_406 fz3 rfl ?_
                refine J_iconst hX dL_law_407 ci_1 ?_
                refine J_iadd hX dL_law_408 ?_
                refine J_sld hX hSc dL_law_409 ?_
                refine J_aload_n 0 hX dL_law_410 fz0 rfl ?_
                refine J_iload_n 3 hX dL_law_411 fz3 rfl ?_
                refine J_iconst hX dL_law_412 ci_2 ?_
                refine J_iadd hX dL_law_413 ?_
                refine J_sld hX hSc dL_law_414 ?_
                refine J_callVI (As := [.int (xs (v3 + (1 : Int32)).toNatClampNeg), .int (xs (v3 + (2 : Int32)).toNatClampNeg)]) (st := [.int r401]) (b := 186) hX mv_L_36 sk_186 rfl rfl rfl (Nat.le_of_ble_eq_true rfl) (by omega) (Nat.le_of_ble_eq_true rfl) dL_law_415 (fun r G1 h => ok_X10_column  h) fun r415 G415 => ?_
                refine J_icmp_eq (tgt := 2166) hX dL_law_418 rfl ?_ ?_
                · refine J_iinc (lv' := [(3, .int (v3 + (6 : Int32))), (0, .ref b), (1, .ref (AD Y 0)), (2, .ref (AD Y 186))]) 3 hX dL_law_2166 rfl ci_6 (Nat.le_of_ble_eq_true rfl) rfl ?_
                  refine J_goto (tgt := 18) hX dL_law_2169 rfl ?_
                  refine J_sub (lv' := [(0, .ref b), (1, .ref (AD Y 0)), (2, .ref (AD Y 186)), (3, .int (v3 + (6 : Int32)))]) [1, 2, 3, 0] rfl ?_
                  exact hk18 (v3 + (6 : Int32)) G415
                · refine J_iconst hX dL_law_421 ci_0 ?_
                  exact J_retZ hR (by decide) dL_law_422
              · refine J_case (fun ht33_5 => ?_) (fun ht33_5 => ?_)
                · refine J_tswIn (off := 390) (tgt := 423) hX dL_law_33 (by rw [ht33_5]; decide) (by rw [ht33_5]; decide) (by rw [ht33_5]; decide +kernel) rfl ?_
                  refine J_aload_n 1 hX dL_law_423 fz1 rfl ?_
                  refine J_callVI (As := []) (st := []) (b := 0) hX mv_L_37 sk_0 rfl rfl rfl (Nat.le_of_ble_eq_true rfl) (by omega) (Nat.le_of_ble_eq_true rfl) dL_law_424 (fun r G1 h => ok_X9_numbers  h) fun r424 G424 => ?_
                  refine J_aload_n 2 hX dL_law_427 fz2 rfl ?_
                  refine J_callVI (As := []) (st := [.int r424]) (b := 186) hX mv_L_40 sk_186 rfl rfl rfl (Nat.le_of_ble_eq_true rfl) (by omega) (Nat.le_of_ble_eq_true rfl) dL_law_428 (fun r G1 h => ok_X10_numbers  h) fun r428 G428 => ?_
                  refine J_icmp_eq (tgt := 2166) hX dL_law_431 rfl ?_ ?_
                  · refine J_iinc (lv' := [(3, .int (v3 + (6 : Int32))), (0, .ref b), (1, .ref (AD Y 0)), (2, .ref (AD Y 186))]) 3 hX dL_law_2166 rfl ci_6 (Nat.le_of_ble_eq_true rfl) rfl ?_
                    refine J_goto (tgt := 18) hX dL_law_2169 rfl ?_
                    refine J_sub (lv' := [(0, .ref b), (1, .ref (AD Y 0)), (2, .ref (AD Y 186)), (3, .int (v3 + (6 : Int32)))]) [1, 2, 3, 0] rfl ?_
                    exact hk18 (v3 + (6 : Int32)) G428
                  · refine J_iconst hX dL_law_434 ci_0 ?_
                    exact J_retZ hR (by decide) dL_law_435
                · refine J_case (fun ht33_6 => ?_) (fun ht33_6 => ?_)
                  · refine J_tswIn (off := 403) (tgt := 436) hX dL_law_33 (by rw [ht33_6]; decide) (by rw [ht33_6]; decide) (by rw [ht33_6]; decide +kernel) rfl ?_
                    refine J_aload_n 1 hX dL_law_436 fz1 rfl ?_
                    refine J_callVI (As := []) (st := []) (b := 0) hX mv_L_41 sk_0 rfl rfl rfl (Nat.le_of_ble_eq_true rfl) (by omega) (Nat.le_of_ble_eq_true rfl) dL_law_437 (fun r G1 h => ok_X9_plans  h) fun r437 G437 => ?_
                    refine J_aload_n 2 hX dL_law_440 fz2 rfl ?_
                    refine J_callVI (As := []) (st := [.int r437]) (b := 186) hX mv_L_44 sk_186 rfl rfl rfl (Nat.le_of_ble_eq_true rfl) (by omega) (Nat.le_of_ble_eq_true rfl) dL_law_441 (fun r G1 h => ok_X10_plans_  h) fun r441 G441 => ?_
                    refine J_icmp_eq (tgt := 2166) hX dL_law_444 rfl ?_ ?_
                    · refine J_iinc (lv' := [(3, .int (v3 + (6 : Int32))), (0, .ref b), (1, .ref (AD Y 0)), (2, .ref (AD Y 186))]) 3 hX dL_law_2166 rfl ci_6 (Nat.le_of_ble_eq_true rfl) rfl ?_
                      refine J_goto (tgt := 18) hX dL_law_2169 rfl ?_
                      refine J_sub (lv' := [(0, .ref b), (1, .ref (AD Y 0)), (2, .ref (AD Y 186)), (3, .int (v3 + (6 : Int32)))]) [1, 2, 3, 0] rfl ?_
                      exact hk18 (v3 + (6 : Int32)) G441
                    · refine J_iconst hX dL_law_447 ci_0 ?_
                      exact J_retZ hR (by decide) dL_law_448
                  · refine J_case (fun ht33_7 => ?_) (fun ht33_7 => ?_)
                    · refine J_tswIn (off := 416) (tgt := 449) hX dL_law_33 (by rw [ht33_7]; decide) (by rw [ht33_7]; decide) (by rw [ht33_7]; decide +kernel) rfl ?_
                      refine J_aload_n 1 hX dL_law_449 fz1 rfl ?_
                      refine J_aload_n 0 hX dL_law_450 fz0 rfl ?_
                      refine J_iload_n 3 hX dL_law_451 fz3 rfl ?_
                      refine J_iconst hX dL_law_452 ci_1 ?_
                      refine J_iadd hX dL_law_453 ?_
                      refine J_sld hX hSc dL_law_454 ?_
                      refine J_aload_n 0 hX dL_law_455 fz0 rfl ?_
                      refine J_iload_n 3 hX dL_law_456 fz3 rfl ?_
                      refine J_iconst hX dL_law_457 ci_2 ?_
                      refine J_iadd hX dL_law_458 ?_
                      refine J_sld hX hSc dL_law_459 ?_
                      refine J_aload_n 0 hX dL_law_460 fz0 rfl ?_
                      refine J_iload_n 3 hX dL_law_461 fz3 rfl ?_
                      refine J_iconst hX dL_law_462 ci_3 ?_
                      refine J_iadd hX dL_law_463 ?_
                      refine J_sld hX hSc dL_law_464 ?_
                      refine J_callVI (As := [.int (xs (v3 + (1 : Int32)).toNatClampNeg), .int (xs (v3 + (2 : Int32)).toNatClampNeg), .int (xs (v3 + (3 : Int32)).toNatClampNeg)]) (st := []) (b := 0) hX mv_L_45 sk_0 rfl rfl rfl (Nat.le_of_ble_eq_true rfl) (by omega) (Nat.le_of_ble_eq_true rfl) dL_law_465 (fun r G1 h => ok_X9_plan  h) fun r465 G465 => ?_
                      refine J_aload_n 2 hX dL_law_468 fz2 rfl ?_
                      refine J_aload_n 0 hX dL_law_469 fz0 rfl ?_
                      refine J_iload_n 3 hX dL_law_470 fz3 rfl ?_
                      refine J_iconst hX dL_law_471 ci_1 ?_
                      refine J_iadd hX dL_law_472 ?_
                      refine J_sld hX hSc dL_law_473 ?_
                      refine J_aload_n 0 hX dL_law_474 fz0 rfl ?_
                      refine J_iload_n 3 hX dL_law_475 fz3 rfl ?_
                      refine J_iconst hX dL_law_476 ci_2 ?_
                      refine J_iadd hX dL_law_477 ?_
                      refine J_sld hX hSc dL_law_478 ?_
                      refine J_aload_n 0 hX dL_law_479 fz0 rfl ?_
                      refine J_iload_n 3 hX dL_law_480 fz3 rfl ?_
                      refine J_iconst hX dL_law_481 ci_3 ?_
                      refine J_iadd hX dL_law_482 ?_
                      refine J_sld hX hSc dL_law_483 ?_
                      refine J_callVI (As := [.int (xs (v3 + (1 : Int32)).toNatClampNeg), .int (xs (v3 + (2 : Int32)).toNatClampNeg), .int (xs (v3 + (3 : Int32)).toNatClampNeg)]) (st := [.int r465]) (b := 186) hX mv_L_49 sk_186 rfl rfl rfl (Nat.le_of_ble_eq_true rfl) (by omega) (Nat.le_of_ble_eq_true rfl) dL_law_484 (fun r G1 h => ok_X10_plan  h) fun r484 G484 => ?_
                      refine J_icmp_eq (tgt := 2166) hX dL_law_487 rfl ?_ ?_
                      · refine J_iinc (lv' := [(3, .int (v3 + (6 : Int32))), (0, .ref b), (1, .ref (AD Y 0)), (2, .ref (AD Y 186))]) 3 hX dL_law_2166 rfl ci_6 (Nat.le_of_ble_eq_true rfl) rfl ?_
                        refine J_goto (tgt := 18) hX dL_law_2169 rfl ?_
                        refine J_sub (lv' := [(0, .ref b), (1, .ref (AD Y 0)), (2, .ref (AD Y 186)), (3, .int (v3 + (6 : Int32)))]) [1, 2, 3, 0] rfl ?_
                        exact hk18 (v3 + (6 : Int32)) G484
                      · refine J_iconst hX dL_law_490 ci_0 ?_
                        exact J_retZ hR (by decide) dL_law_491
                    · refine J_case (fun ht33_8 => ?_) (fun ht33_8 => ?_)
                      · refine J_tswIn (off := 459) (tgt := 492) hX dL_law_33 (by rw [ht33_8]; decide) (by rw [ht33_8]; decide) (by rw [ht33_8]; decide +kernel) rfl ?_
                        refine J_aload_n 1 hX dL_law_492 fz1 rfl ?_
                        refine J_aload_n 0 hX dL_law_493 fz0 rfl ?_
                        refine J_iload_n 3 hX dL_law_494 fz3 rfl ?_
                        refine J_iconst hX dL_law_495 ci_1 ?_
                        refine J_iadd hX dL_law_496 ?_
                        refine J_sld hX hSc dL_law_497 ?_
                        refine J_callVI (As := [.int (xs (v3 + (1 : Int32)).toNatClampNeg)]) (st := []) (b := 0) hX mv_L_50 sk_0 rfl rfl rfl (Nat.le_of_ble_eq_true rfl) (by omega) (Nat.le_of_ble_eq_true rfl) dL_law_498 (fun r G1 h => ok_X9_layouts  h) fun r498 G498 => ?_
                        refine J_aload_n 2 hX dL_law_501 fz2 rfl ?_
                        refine J_aload_n 0 hX dL_law_502 fz0 rfl ?_
                        refine J_iload_n 3 hX dL_law_503 fz3 rfl ?_
                        refine J_iconst hX dL_law_504 ci_1 ?_
                        refine J_iadd hX dL_law_505 ?_
                        refine J_sld hX hSc dL_law_506 ?_
                        refine J_callVI (As := [.int (xs (v3 + (1 : Int32)).toNatClampNeg)]) (st := [.int r498]) (b := 186) hX mv_L_53 sk_186 rfl rfl rfl (Nat.le_of_ble_eq_true rfl) (by omega) (Nat.le_of_ble_eq_true rfl) dL_law_507 (fun r G1 h => ok_X10_layouts_  h) fun r507 G507 => ?_
                        refine J_icmp_eq (tgt := 2166) hX dL_law_510 rfl ?_ ?_
                        · refine J_iinc (lv' := [(3, .int (v3 + (6 : Int32))), (0, .ref b), (1, .ref (AD Y 0)), (2, .ref (AD Y 186))]) 3 hX dL_law_2166 rfl ci_6 (Nat.le_of_ble_eq_true rfl) rfl ?_
                          refine J_goto (tgt := 18) hX dL_law_2169 rfl ?_
                          refine J_sub (lv' := [(0, .ref b), (1, .ref (AD Y 0)), (2, .ref (AD Y 186)), (3, .int (v3 + (6 : Int32)))]) [1, 2, 3, 0] rfl ?_
                          exact hk18 (v3 + (6 : Int32)) G507
                        · refine J_iconst hX dL_law_513 ci_0 ?_
                          exact J_retZ hR (by decide) dL_law_514
                      · refine J_case (fun ht33_9 => ?_) (fun ht33_9 => ?_)
                        · refine J_tswIn (off := 482) (tgt := 515) hX dL_law_33 (by rw [ht33_9]; decide) (by rw [ht33_9]; decide) (by rw [ht33_9]; decide +kernel) rfl ?_
                          refine J_aload_n 1 hX dL_law_515 fz1 rfl ?_
                          refine J_aload_n 0 hX dL_law_516 fz0 rfl ?_
                          refine J_iload_n 3 hX dL_law_517 fz3 rfl ?_
                          refine J_iconst hX dL_law_518 ci_1 ?_
                          refine J_iadd hX dL_law_519 ?_
                          refine J_sld hX hSc dL_law_520 ?_
                          refine J_callVI (As := [.int (xs (v3 + (1 : Int32)).toNatClampNeg)]) (st := []) (b := 0) hX mv_L_54 sk_0 rfl rfl rfl (Nat.le_of_ble_eq_true rfl) (by omega) (Nat.le_of_ble_eq_true rfl) dL_law_521 (fun r G1 h => ok_X9_made  h) fun r521 G521 => ?_
                          refine J_aload_n 2 hX dL_law_524 fz2 rfl ?_
                          refine J_aload_n 0 hX dL_law_525 fz0 rfl ?_
                          refine J_iload_n 3 hX dL_law_526 fz3 rfl ?_
                          refine J_iconst hX dL_law_527 ci_1 ?_
                          refine J_iadd hX dL_law_528 ?_
                          refine J_sld hX hSc dL_law_529 ?_
                          refine J_callVI (As := [.int (xs (v3 + (1 : Int32)).toNatClampNeg)]) (st := [.int r521]) (b := 186) hX mv_L_57 sk_186 rfl rfl rfl (Nat.le_of_ble_eq_true rfl) (by omega) (Nat.le_of_ble_eq_true rfl) dL_law_530 (fun r G1 h => ok_X10_made  h) fun r530 G530 => ?_
                          refine J_icmp_eq (tgt := 2166) hX dL_law_533 rfl ?_ ?_
                          · refine J_iinc (lv' := [(3, .int (v3 + (6 : Int32))), (0, .ref b), (1, .ref (AD Y 0)), (2, .ref (AD Y 186))]) 3 hX dL_law_2166 rfl ci_6 (Nat.le_of_ble_eq_true rfl) rfl ?_
                            refine J_goto (tgt := 18) hX dL_law_2169 rfl ?_
                            refine J_sub (lv' := [(0, .ref b), (1, .ref (AD Y 0)), (2, .ref (AD Y 186)), (3, .int (v3 + (6 : Int32)))]) [1, 2, 3, 0] rfl ?_
                            exact hk18 (v3 + (6 : Int32)) G530
                          · refine J_iconst hX dL_law_536 ci_0 ?_
                            exact J_retZ hR (by decide) dL_law_537
                        · refine J_case (fun ht33_10 => ?_) (fun ht33_10 => ?_)
                          · refine J_tswIn (off := 505) (tgt := 538) hX dL_law_33 (by rw [ht33_10]; decide) (by rw [ht33_10]; decide) (by rw [ht33_10]; decide +kernel) rfl ?_
                            refine J_aload_n 1 hX dL_law_538 fz1 rfl ?_
                            refine J_aload_n 0 hX dL_law_539 fz0 rfl ?_
                            refine J_iload_n 3 hX dL_law_540 fz3 rfl ?_
                            refine J_iconst hX dL_law_541 ci_1 ?_
                            refine J_iadd hX dL_law_542 ?_
                            refine J_sld hX hSc dL_law_543 ?_
                            refine J_aload_n 0 hX dL_law_544 fz0 rfl ?_
                            refine J_iload_n 3 hX dL_law_545 fz3 rfl ?_
                            refine J_iconst hX dL_law_546 ci_2 ?_
                            refine J_iadd hX dL_law_547 ?_
                            refine J_sld hX hSc dL_law_548 ?_
                            refine J_aload_n 0 hX dL_law_549 fz0 rfl ?_
                            refine J_iload_n 3 hX dL_law_550 fz3 rfl ?_
                            refine J_iconst hX dL_law_551 ci_3 ?_
                            refine J_iadd hX dL_law_552 ?_
                            refine J_sld hX hSc dL_law_553 ?_
                            refine J_aload_n 0 hX dL_law_554 fz0 rfl ?_
                            refine J_iload_n 3 hX dL_law_555 fz3 rfl ?_
                            refine J_iconst hX dL_law_556 ci_4 ?_
                            refine J_iadd hX dL_law_557 ?_
                            refine J_sld hX hSc dL_law_558 ?_
                            refine J_callVI (As := [.int (xs (v3 + (1 : Int32)).toNatClampNeg), .int (xs (v3 + (2 : Int32)).toNatClampNeg), .int (xs (v3 + (3 : Int32)).toNatClampNeg), .int (xs (v3 + (4 : Int32)).toNatClampNeg)]) (st := []) (b := 0) hX mv_L_58 sk_0 rfl rfl rfl (Nat.le_of_ble_eq_true rfl) (by omega) (Nat.le_of_ble_eq_true rfl) dL_law_559 (fun r G1 h => ok_X9_cell  h) fun r559 G559 => ?_
                            refine J_aload_n 2 hX dL_law_562 fz2 rfl ?_
                            refine J_aload_n 0 hX dL_law_563 fz0 rfl ?_
                            refine J_iload_n 3 hX dL_law_564 fz3 rfl ?_
                            refine J_iconst hX dL_law_565 ci_1 ?_
                            refine J_iadd hX dL_law_566 ?_
                            refine J_sld hX hSc dL_law_567 ?_
                            refine J_aload_n 0 hX dL_law_568 fz0 rfl ?_
                            refine J_iload_n 3 hX dL_law_569 fz3 rfl ?_
                            refine J_iconst hX dL_law_570 ci_2 ?_
                            refine J_iadd hX dL_law_571 ?_
                            refine J_sld hX hSc dL_law_572 ?_
                            refine J_aload_n 0 hX dL_law_573 fz0 rfl ?_
                            refine J_iload_n 3 hX dL_law_574 fz3 rfl ?_
                            refine J_iconst hX dL_law_575 ci_3 ?_
                            refine J_iadd hX dL_law_576 ?_
                            refine J_sld hX hSc dL_law_577 ?_
                            refine J_aload_n 0 hX dL_law_578 fz0 rfl ?_
                            refine J_iload_n 3 hX dL_law_579 fz3 rfl ?_
                            refine J_iconst hX dL_law_580 ci_4 ?_
                            refine J_iadd hX dL_law_581 ?_
                            refine J_sld hX hSc dL_law_582 ?_
                            refine J_callVI (As := [.int (xs (v3 + (1 : Int32)).toNatClampNeg), .int (xs (v3 + (2 : Int32)).toNatClampNeg), .int (xs (v3 + (3 : Int32)).toNatClampNeg), .int (xs (v3 + (4 : Int32)).toNatClampNeg)]) (st := [.int r559]) (b := 186) hX mv_L_62 sk_186 rfl rfl rfl (Nat.le_of_ble_eq_true rfl) (by omega) (Nat.le_of_ble_eq_true rfl) dL_law_583 (fun r G1 h => ok_X10_cell  h) fun r583 G583 => ?_
                            refine J_icmp_eq (tgt := 2166) hX dL_law_586 rfl ?_ ?_
                            · refine J_iinc (lv' := [(3, .int (v3 + (6 : Int32))), (0, .ref b), (1, .ref (AD Y 0)), (2, .ref (AD Y 186))]) 3 hX dL_law_2166 rfl ci_6 (Nat.le_of_ble_eq_true rfl) rfl ?_
                              refine J_goto (tgt := 18) hX dL_law_2169 rfl ?_
                              refine J_sub (lv' := [(0, .ref b), (1, .ref (AD Y 0)), (2, .ref (AD Y 186)), (3, .int (v3 + (6 : Int32)))]) [1, 2, 3, 0] rfl ?_
                              exact hk18 (v3 + (6 : Int32)) G583
                            · refine J_iconst hX dL_law_589 ci_0 ?_
                              exact J_retZ hR (by decide) dL_law_590
                          · refine J_case (fun ht33_11 => ?_) (fun ht33_11 => ?_)
                            · refine J_tswIn (off := 558) (tgt := 591) hX dL_law_33 (by rw [ht33_11]; decide) (by rw [ht33_11]; decide) (by rw [ht33_11]; decide +kernel) rfl ?_
                              refine J_aload_n 1 hX dL_law_591 fz1 rfl ?_
                              refine J_aload_n 0 hX dL_law_592 fz0 rfl ?_
                              refine J_iload_n 3 hX dL_law_593 fz3 rfl ?_
                              refine J_iconst hX dL_law_594 ci_1 ?_
                              refine J_iadd hX dL_law_595 ?_
                              refine J_sld hX hSc dL_law_596 ?_
                              refine J_aload_n 0 hX dL_law_597 fz0 rfl ?_
                              refine J_iload_n 3 hX dL_law_598 fz3 rfl ?_
                              refine J_iconst hX dL_law_599 ci_2 ?_
                              refine J_iadd hX dL_law_600 ?_
                              refine J_sld hX hSc dL_law_601 ?_
                              refine J_callVI (As := [.int (xs (v3 + (1 : Int32)).toNatClampNeg), .int (xs (v3 + (2 : Int32)).toNatClampNeg)]) (st := []) (b := 0) hX mv_L_63 sk_0 rfl rfl rfl (Nat.le_of_ble_eq_true rfl) (by omega) (Nat.le_of_ble_eq_true rfl) dL_law_602 (fun r G1 h => ok_X9_where  h) fun r602 G602 => ?_
                              refine J_aload_n 2 hX dL_law_605 fz2 rfl ?_
                              refine J_aload_n 0 hX dL_law_606 fz0 rfl ?_
                              refine J_iload_n 3 hX dL_law_607 fz3 rfl ?_
                              refine J_iconst hX dL_law_608 ci_1 ?_
                              refine J_iadd hX dL_law_609 ?_
                              refine J_sld hX hSc dL_law_610 ?_
                              refine J_aload_n 0 hX dL_law_611 fz0 rfl ?_
                              refine J_iload_n 3 hX dL_law_612 fz3 rfl ?_
                              refine J_iconst hX dL_law_613 ci_2 ?_
                              refine J_iadd hX dL_law_614 ?_
                              refine J_sld hX hSc dL_law_615 ?_
                              refine J_callVI (As := [.int (xs (v3 + (1 : Int32)).toNatClampNeg), .int (xs (v3 + (2 : Int32)).toNatClampNeg)]) (st := [.int r602]) (b := 186) hX mv_L_66 sk_186 rfl rfl rfl (Nat.le_of_ble_eq_true rfl) (by omega) (Nat.le_of_ble_eq_true rfl) dL_law_616 (fun r G1 h => ok_X10_where  h) fun r616 G616 => ?_
                              refine J_icmp_eq (tgt := 2166) hX dL_law_619 rfl ?_ ?_
                              · refine J_iinc (lv' := [(3, .int (v3 + (6 : Int32))), (0, .ref b), (1, .ref (AD Y 0)), (2, .ref (AD Y 186))]) 3 hX dL_law_2166 rfl ci_6 (Nat.le_of_ble_eq_true rfl) rfl ?_
                                refine J_goto (tgt := 18) hX dL_law_2169 rfl ?_
                                refine J_sub (lv' := [(0, .ref b), (1, .ref (AD Y 0)), (2, .ref (AD Y 186)), (3, .int (v3 + (6 : Int32)))]) [1, 2, 3, 0] rfl ?_
                                exact hk18 (v3 + (6 : Int32)) G616
                              · refine J_iconst hX dL_law_622 ci_0 ?_
                                exact J_retZ hR (by decide) dL_law_623
                            · refine J_case (fun ht33_12 => ?_) (fun ht33_12 => ?_)
                              · refine J_tswIn (off := 591) (tgt := 624) hX dL_law_33 (by rw [ht33_12]; decide) (by rw [ht33_12]; decide) (by rw [ht33_12]; decide +kernel) rfl ?_
                                refine J_aload_n 1 hX dL_law_624 fz1 rfl ?_
                                refine J_aload_n 0 hX dL_law_625 fz0 rfl ?_
                                refine J_iload_n 3 hX dL_law_626 fz3 rfl ?_
                                refine J_iconst hX dL_law_627 ci_1 ?_
                                refine J_iadd hX dL_law_628 ?_
                                refine J_sld hX hSc dL_law_629 ?_
                                refine J_aload_n 0 hX dL_law_630 fz0 rfl ?_
                                refine J_iload_n 3 hX dL_law_631 fz3 rfl ?_
                                refine J_iconst hX dL_law_632 ci_2 ?_
                                refine J_iadd hX dL_law_633 ?_
                                refine J_sld hX hSc dL_law_634 ?_
                                refine J_callVI (As := [.int (xs (v3 + (1 : Int32)).toNatClampNeg), .int (xs (v3 + (2 : Int32)).toNatClampNeg)]) (st := []) (b := 0) hX mv_L_67 sk_0 rfl rfl rfl (Nat.le_of_ble_eq_true rfl) (by omega) (Nat.le_of_ble_eq_true rfl) dL_law_635 (fun r G1 h => ok_X9_same  h) fun r635 G635 => ?_
                                refine J_aload_n 2 hX dL_law_638 fz2 rfl ?_
                                refine J_aload_n 0 hX dL_law_639 fz0 rfl ?_
                                refine J_iload_n 3 hX dL_law_640 fz3 rfl ?_
                                refine J_iconst hX dL_law_641 ci_1 ?_
                                refine J_iadd hX dL_law_642 ?_
                                refine J_sld hX hSc dL_law_643 ?_
                                refine J_aload_n 0 hX dL_law_644 fz0 rfl ?_
                                refine J_iload_n 3 hX dL_law_645 fz3 rfl ?_
                                refine J_iconst hX dL_law_646 ci_2 ?_
                                refine J_iadd hX dL_law_647 ?_
                                refine J_sld hX hSc dL_law_648 ?_
                                refine J_callVI (As := [.int (xs (v3 + (1 : Int32)).toNatClampNeg), .int (xs (v3 + (2 : Int32)).toNatClampNeg)]) (st := [.int r635]) (b := 186) hX mv_L_70 sk_186 rfl rfl rfl (Nat.le_of_ble_eq_true rfl) (by omega) (Nat.le_of_ble_eq_true rfl) dL_law_649 (fun r G1 h => ok_X10_same  h) fun r649 G649 => ?_
                                refine J_icmp_eq (tgt := 2166) hX dL_law_652 rfl ?_ ?_
                                · refine J_iinc (lv' := [(3, .int (v3 + (6 : Int32))), (0, .ref b), (1, .ref (AD Y 0)), (2, .ref (AD Y 186))]) 3 hX dL_law_2166 rfl ci_6 (Nat.le_of_ble_eq_true rfl) rfl ?_
                                  refine J_goto (tgt := 18) hX dL_law_2169 rfl ?_
                                  refine J_sub (lv' := [(0, .ref b), (1, .ref (AD Y 0)), (2, .ref (AD Y 186)), (3, .int (v3 + (6 : Int32)))]) [1, 2, 3, 0] rfl ?_
                                  exact hk18 (v3 + (6 : Int32)) G649
                                · refine J_iconst hX dL_law_655 ci_0 ?_
                                  exact J_retZ hR (by decide) dL_law_656
                              · refine J_case (fun ht33_13 => ?_) (fun ht33_13 => ?_)
                                · refine J_tswIn (off := 624) (tgt := 657) hX dL_law_33 (by rw [ht33_13]; decide) (by rw [ht33_13]; decide) (by rw [ht33_13]; decide +kernel) rfl ?_
                                  refine J_aload_n 1 hX dL_law_657 fz1 rfl ?_
                                  refine J_aload_n 0 hX dL_law_658 fz0 rfl ?_
                                  refine J_iload_n 3 hX dL_law_659 fz3 rfl ?_
                                  refine J_iconst hX dL_law_660 ci_1 ?_
                                  refine J_iadd hX dL_law_661 ?_
                                  refine J_sld hX hSc dL_law_662 ?_
                                  refine J_aload_n 0 hX dL_law_663 fz0 rfl ?_
                                  refine J_iload_n 3 hX dL_law_664 fz3 rfl ?_
                                  refine J_iconst hX dL_law_665 ci_2 ?_
                                  refine J_iadd hX dL_law_666 ?_
                                  refine J_sld hX hSc dL_law_667 ?_
                                  refine J_aload_n 0 hX dL_law_668 fz0 rfl ?_
                                  refine J_iload_n 3 hX dL_law_669 fz3 rfl ?_
                                  refine J_iconst hX dL_law_670 ci_3 ?_
                                  refine J_iadd hX dL_law_671 ?_
                                  refine J_sld hX hSc dL_law_672 ?_
                                  refine J_aload_n 0 hX dL_law_673 fz0 rfl ?_
                                  refine J_iload_n 3 hX dL_law_674 fz3 rfl ?_
                                  refine J_iconst hX dL_law_675 ci_4 ?_
                                  refine J_iadd hX dL_law_676 ?_
                                  refine J_sld hX hSc dL_law_677 ?_
                                  refine J_callVI (As := [.int (xs (v3 + (1 : Int32)).toNatClampNeg), .int (xs (v3 + (2 : Int32)).toNatClampNeg), .int (xs (v3 + (3 : Int32)).toNatClampNeg), .int (xs (v3 + (4 : Int32)).toNatClampNeg)]) (st := []) (b := 0) hX mv_L_71 sk_0 rfl rfl rfl (Nat.le_of_ble_eq_true rfl) (by omega) (Nat.le_of_ble_eq_true rfl) dL_law_678 (fun r G1 h => ok_X9_alike  h) fun r678 G678 => ?_
                                  refine J_aload_n 2 hX dL_law_681 fz2 rfl ?_
                                  refine J_aload_n 0 hX dL_law_682 fz0 rfl ?_
                                  refine J_iload_n 3 hX dL_law_683 fz3 rfl ?_
                                  refine J_iconst hX dL_law_684 ci_1 ?_
                                  refine J_iadd hX dL_law_685 ?_
                                  refine J_sld hX hSc dL_law_686 ?_
                                  refine J_aload_n 0 hX dL_law_687 fz0 rfl ?_
                                  refine J_iload_n 3 hX dL_law_688 fz3 rfl ?_
                                  refine J_iconst hX dL_law_689 ci_2 ?_
                                  refine J_iadd hX dL_law_690 ?_
                                  refine J_sld hX hSc dL_law_691 ?_
                                  refine J_aload_n 0 hX dL_law_692 fz0 rfl ?_
                                  refine J_iload_n 3 hX dL_law_693 fz3 rfl ?_
                                  refine J_iconst hX dL_law_694 ci_3 ?_
                                  refine J_iadd hX dL_law_695 ?_
                                  refine J_sld hX hSc dL_law_696 ?_
                                  refine J_aload_n 0 hX dL_law_697 fz0 rfl ?_
                                  refine J_iload_n 3 hX dL_law_698 fz3 rfl ?_
                                  refine J_iconst hX dL_law_699 ci_4 ?_
                                  refine J_iadd hX dL_law_700 ?_
                                  refine J_sld hX hSc dL_law_701 ?_
                                  refine J_callVI (As := [.int (xs (v3 + (1 : Int32)).toNatClampNeg), .int (xs (v3 + (2 : Int32)).toNatClampNeg), .int (xs (v3 + (3 : Int32)).toNatClampNeg), .int (xs (v3 + (4 : Int32)).toNatClampNeg)]) (st := [.int r678]) (b := 186) hX mv_L_74 sk_186 rfl rfl rfl (Nat.le_of_ble_eq_true rfl) (by omega) (Nat.le_of_ble_eq_true rfl) dL_law_702 (fun r G1 h => ok_X10_alike  h) fun r702 G702 => ?_
                                  refine J_icmp_eq (tgt := 2166) hX dL_law_705 rfl ?_ ?_
                                  · refine J_iinc (lv' := [(3, .int (v3 + (6 : Int32))), (0, .ref b), (1, .ref (AD Y 0)), (2, .ref (AD Y 186))]) 3 hX dL_law_2166 rfl ci_6 (Nat.le_of_ble_eq_true rfl) rfl ?_
                                    refine J_goto (tgt := 18) hX dL_law_2169 rfl ?_
                                    refine J_sub (lv' := [(0, .ref b), (1, .ref (AD Y 0)), (2, .ref (AD Y 186)), (3, .int (v3 + (6 : Int32)))]) [1, 2, 3, 0] rfl ?_
                                    exact hk18 (v3 + (6 : Int32)) G702
                                  · refine J_iconst hX dL_law_708 ci_0 ?_
                                    exact J_retZ hR (by decide) dL_law_709
                                · refine J_case (fun ht33_14 => ?_) (fun ht33_14 => ?_)
                                  · refine J_tswIn (off := 677) (tgt := 710) hX dL_law_33 (by rw [ht33_14]; decide) (by rw [ht33_14]; decide) (by rw [ht33_14]; decide +kernel) rfl ?_
                                    refine J_aload_n 1 hX dL_law_710 fz1 rfl ?_
                                    refine J_aload_n 0 hX dL_law_711 fz0 rfl ?_
                                    refine J_iload_n 3 hX dL_law_712 fz3 rfl ?_
                                    refine J_iconst hX dL_law_713 ci_1 ?_
                                    refine J_iadd hX dL_law_714 ?_
                                    refine J_sld hX hSc dL_law_715 ?_
                                    refine J_callVI (As := [.int (xs (v3 + (1 : Int32)).toNatClampNeg)]) (st := []) (b := 0) hX mv_L_75 sk_0 rfl rfl rfl (Nat.le_of_ble_eq_true rfl) (by omega) (Nat.le_of_ble_eq_true rfl) dL_law_716 (fun r G1 h => ok_X9_sell  h) fun r716 G716 => ?_
                                    refine J_aload_n 2 hX dL_law_719 fz2 rfl ?_
                                    refine J_aload_n 0 hX dL_law_720 fz0 rfl ?_
                                    refine J_iload_n 3 hX dL_law_721 fz3 rfl ?_
                                    refine J_iconst hX dL_law_722 ci_1 ?_
                                    refine J_iadd hX dL_law_723 ?_
                                    refine J_sld hX hSc dL_law_724 ?_
                                    refine J_callVI (As := [.int (xs (v3 + (1 : Int32)).toNatClampNeg)]) (st := [.int r716]) (b := 186) hX mv_L_78 sk_186 rfl rfl rfl (Nat.le_of_ble_eq_true rfl) (by omega) (Nat.le_of_ble_eq_true rfl) dL_law_725 (fun r G1 h => ok_X10_sell  h) fun r725 G725 => ?_
                                    refine J_icmp_eq (tgt := 2166) hX dL_law_728 rfl ?_ ?_
                                    · refine J_iinc (lv' := [(3, .int (v3 + (6 : Int32))), (0, .ref b), (1, .ref (AD Y 0)), (2, .ref (AD Y 186))]) 3 hX dL_law_2166 rfl ci_6 (Nat.le_of_ble_eq_true rfl) rfl ?_
                                      refine J_goto (tgt := 18) hX dL_law_2169 rfl ?_
                                      refine J_sub (lv' := [(0, .ref b), (1, .ref (AD Y 0)), (2, .ref (AD Y 186)), (3, .int (v3 + (6 : Int32)))]) [1, 2, 3, 0] rfl ?_
                                      exact hk18 (v3 + (6 : Int32)) G725
                                    · refine J_iconst hX dL_law_731 ci_0 ?_
                                      exact J_retZ hR (by decide) dL_law_732
                                  · refine J_case (fun ht33_15 => ?_) (fun ht33_15 => ?_)
                                    · refine J_tswIn (off := 700) (tgt := 733) hX dL_law_33 (by rw [ht33_15]; decide) (by rw [ht33_15]; decide) (by rw [ht33_15]; decide +kernel) rfl ?_
                                      refine J_aload_n 1 hX dL_law_733 fz1 rfl ?_
                                      refine J_callVI (As := []) (st := []) (b := 0) hX mv_L_79 sk_0 rfl rfl rfl (Nat.le_of_ble_eq_true rfl) (by omega) (Nat.le_of_ble_eq_true rfl) dL_law_734 (fun r G1 h => ok_X9_unsell  h) fun r734 G734 => ?_
                                      refine J_aload_n 2 hX dL_law_737 fz2 rfl ?_
                                      refine J_callVI (As := []) (st := [.int r734]) (b := 186) hX mv_L_82 sk_186 rfl rfl rfl (Nat.le_of_ble_eq_true rfl) (by omega) (Nat.le_of_ble_eq_true rfl) dL_law_738 (fun r G1 h => ok_X10_unsell  h) fun r738 G738 => ?_
                                      refine J_icmp_eq (tgt := 2166) hX dL_law_741 rfl ?_ ?_
                                      · refine J_iinc (lv' := [(3, .int (v3 + (6 : Int32))), (0, .ref b), (1, .ref (AD Y 0)), (2, .ref (AD Y 186))]) 3 hX dL_law_2166 rfl ci_6 (Nat.le_of_ble_eq_true rfl) rfl ?_
                                        refine J_goto (tgt := 18) hX dL_law_2169 rfl ?_
                                        refine J_sub (lv' := [(0, .ref b), (1, .ref (AD Y 0)), (2, .ref (AD Y 186)), (3, .int (v3 + (6 : Int32)))]) [1, 2, 3, 0] rfl ?_
                                        exact hk18 (v3 + (6 : Int32)) G738
                                      · refine J_iconst hX dL_law_744 ci_0 ?_
                                        exact J_retZ hR (by decide) dL_law_745
                                    · refine J_case (fun ht33_16 => ?_) (fun ht33_16 => ?_)
                                      · refine J_tswIn (off := 713) (tgt := 746) hX dL_law_33 (by rw [ht33_16]; decide) (by rw [ht33_16]; decide) (by rw [ht33_16]; decide +kernel) rfl ?_
                                        refine J_aload_n 1 hX dL_law_746 fz1 rfl ?_
                                        refine J_aload_n 0 hX dL_law_747 fz0 rfl ?_
                                        refine J_iload_n 3 hX dL_law_748 fz3 rfl ?_
                                        refine J_iconst hX dL_law_749 ci_1 ?_
                                        refine J_iadd hX dL_law_750 ?_
                                        refine J_sld hX hSc dL_law_751 ?_
                                        refine J_callVI (As := [.int (xs (v3 + (1 : Int32)).toNatClampNeg)]) (st := []) (b := 0) hX mv_L_83 sk_0 rfl rfl rfl (Nat.le_of_ble_eq_true rfl) (by omega) (Nat.le_of_ble_eq_true rfl) dL_law_752 (fun r G1 h => ok_X9_sold  h) fun r752 G752 => ?_
                                        refine J_aload_n 2 hX dL_law_755 fz2 rfl ?_
                                        refine J_aload_n 0 hX dL_law_756 fz0 rfl ?_
                                        refine J_iload_n 3 hX dL_law_757 fz3 rfl ?_
                                        refine J_iconst hX dL_law_758 ci_1 ?_
                                        refine J_iadd hX dL_law_759 ?_
                                        refine J_sld hX hSc dL_law_760 ?_
                                        refine J_callVI (As := [.int (xs (v3 + (1 : Int32)).toNatClampNeg)]) (st := [.int r752]) (b := 186) hX mv_L_86 sk_186 rfl rfl rfl (Nat.le_of_ble_eq_true rfl) (by omega) (Nat.le_of_ble_eq_true rfl) dL_law_761 (fun r G1 h => ok_X10_sold  h) fun r761 G761 => ?_
                                        refine J_icmp_eq (tgt := 2166) hX dL_law_764 rfl ?_ ?_
                                        · refine J_iinc (lv' := [(3, .int (v3 + (6 : Int32))), (0, .ref b), (1, .ref (AD Y 0)), (2, .ref (AD Y 186))]) 3 hX dL_law_2166 rfl ci_6 (Nat.le_of_ble_eq_true rfl) rfl ?_
                                          refine J_goto (tgt := 18) hX dL_law_2169 rfl ?_
                                          refine J_sub (lv' := [(0, .ref b), (1, .ref (AD Y 0)), (2, .ref (AD Y 186)), (3, .int (v3 + (6 : Int32)))]) [1, 2, 3, 0] rfl ?_
                                          exact hk18 (v3 + (6 : Int32)) G761
                                        · refine J_iconst hX dL_law_767 ci_0 ?_
                                          exact J_retZ hR (by decide) dL_law_768
                                      · refine J_case (fun ht33_17 => ?_) (fun ht33_17 => ?_)
                                        · refine J_tswIn (off := 736) (tgt := 769) hX dL_law_33 (by rw [ht33_17]; decide) (by rw [ht33_17]; decide) (by rw [ht33_17]; decide +kernel) rfl ?_
                                          refine J_aload_n 1 hX dL_law_769 fz1 rfl ?_
                                          refine J_aload_n 0 hX dL_law_770 fz0 rfl ?_
                                          refine J_iload_n 3 hX dL_law_771 fz3 rfl ?_
                                          refine J_iconst hX dL_law_772 ci_1 ?_
                                          refine J_iadd hX dL_law_773 ?_
                                          refine J_sld hX hSc dL_law_774 ?_
                                          refine J_callVI (As := [.int (xs (v3 + (1 : Int32)).toNatClampNeg)]) (st := []) (b := 0) hX mv_L_87 sk_0 rfl rfl rfl (Nat.le_of_ble_eq_true rfl) (by omega) (Nat.le_of_ble_eq_true rfl) dL_law_775 (fun r G1 h => ok_X9_caller  h) fun r775 G775 => ?_
                                          refine J_aload_n 2 hX dL_law_778 fz2 rfl ?_
                                          refine J_aload_n 0 hX dL_law_779 fz0 rfl ?_
                                          refine J_iload_n 3 hX dL_law_780 fz3 rfl ?_
                                          refine J_iconst hX dL_law_781 ci_1 ?_
                                          refine J_iadd hX dL_law_782 ?_
                                          refine J_sld hX hSc dL_law_783 ?_
                                          refine J_callVI (As := [.int (xs (v3 + (1 : Int32)).toNatClampNeg)]) (st := [.int r775]) (b := 186) hX mv_L_90 sk_186 rfl rfl rfl (Nat.le_of_ble_eq_true rfl) (by omega) (Nat.le_of_ble_eq_true rfl) dL_law_784 (fun r G1 h => ok_X10_caller  h) fun r784 G784 => ?_
                                          refine J_icmp_eq (tgt := 2166) hX dL_law_787 rfl ?_ ?_
                                          · refine J_iinc (lv' := [(3, .int (v3 + (6 : Int32))), (0, .ref b), (1, .ref (AD Y 0)), (2, .ref (AD Y 186))]) 3 hX dL_law_2166 rfl ci_6 (Nat.le_of_ble_eq_true rfl) rfl ?_
                                            refine J_goto (tgt := 18) hX dL_law_2169 rfl ?_
                                            refine J_sub (lv' := [(0, .ref b), (1, .ref (AD Y 0)), (2, .ref (AD Y 186)), (3, .int (v3 + (6 : Int32)))]) [1, 2, 3, 0] rfl ?_
                                            exact hk18 (v3 + (6 : Int32)) G784
                                          · refine J_iconst hX dL_law_790 ci_0 ?_
                                            exact J_retZ hR (by decide) dL_law_791
                                        · refine J_case (fun ht33_18 => ?_) (fun ht33_18 => ?_)
                                          · refine J_tswIn (off := 759) (tgt := 792) hX dL_law_33 (by rw [ht33_18]; decide) (by rw [ht33_18]; decide) (by rw [ht33_18]; decide +kernel) rfl ?_
                                            refine J_aload_n 1 hX dL_law_792 fz1 rfl ?_
                                            refine J_aload_n 0 hX dL_law_793 fz0 rfl ?_
                                            refine J_iload_n 3 hX dL_law_794 fz3 rfl ?_
                                            refine J_iconst hX dL_law_795 ci_1 ?_
                                            refine J_iadd hX dL_law_796 ?_
                                            refine J_sld hX hSc dL_law_797 ?_
                                            refine J_callVI (As := [.int (xs (v3 + (1 : Int32)).toNatClampNeg)]) (st := []) (b := 0) hX mv_L_91 sk_0 rfl rfl rfl (Nat.le_of_ble_eq_true rfl) (by omega) (Nat.le_of_ble_eq_true rfl) dL_law_798 (fun r G1 h => ok_X9_calls  h) fun r798 G798 => ?_
                                            refine J_aload_n 2 hX dL_law_801 fz2 rfl ?_
                                            refine J_aload_n 0 hX dL_law_802 fz0 rfl ?_
                                            refine J_iload_n 3 hX dL_law_803 fz3 rfl ?_
                                            refine J_iconst hX dL_law_804 ci_1 ?_
                                            refine J_iadd hX dL_law_805 ?_
                                            refine J_sld hX hSc dL_law_806 ?_
                                            refine J_callVI (As := [.int (xs (v3 + (1 : Int32)).toNatClampNeg)]) (st := [.int r798]) (b := 186) hX mv_L_94 sk_186 rfl rfl rfl (Nat.le_of_ble_eq_true rfl) (by omega) (Nat.le_of_ble_eq_true rfl) dL_law_807 (fun r G1 h => ok_X10_calls  h) fun r807 G807 => ?_
                                            refine J_icmp_eq (tgt := 2166) hX dL_law_810 rfl ?_ ?_
                                            · refine J_iinc (lv' := [(3, .int (v3 + (6 : Int32))), (0, .ref b), (1, .ref (AD Y 0)), (2, .ref (AD Y 186))]) 3 hX dL_law_2166 rfl ci_6 (Nat.le_of_ble_eq_true rfl) rfl ?_
                                              refine J_goto (tgt := 18) hX dL_law_2169 rfl ?_
                                              refine J_sub (lv' := [(0, .ref b), (1, .ref (AD Y 0)), (2, .ref (AD Y 186)), (3, .int (v3 + (6 : Int32)))]) [1, 2, 3, 0] rfl ?_
                                              exact hk18 (v3 + (6 : Int32)) G807
                                            · refine J_iconst hX dL_law_813 ci_0 ?_
                                              exact J_retZ hR (by decide) dL_law_814
                                          · refine J_case (fun ht33_19 => ?_) (fun ht33_19 => ?_)
                                            · refine J_tswIn (off := 782) (tgt := 815) hX dL_law_33 (by rw [ht33_19]; decide) (by rw [ht33_19]; decide) (by rw [ht33_19]; decide +kernel) rfl ?_
                                              refine J_aload_n 1 hX dL_law_815 fz1 rfl ?_
                                              refine J_aload_n 0 hX dL_law_816 fz0 rfl ?_
                                              refine J_iload_n 3 hX dL_law_817 fz3 rfl ?_
                                              refine J_iconst hX dL_law_818 ci_1 ?_
                                              refine J_iadd hX dL_law_819 ?_
                                              refine J_sld hX hSc dL_law_820 ?_
                                              refine J_callVI (As := [.int (xs (v3 + (1 : Int32)).toNatClampNeg)]) (st := []) (b := 0) hX mv_L_95 sk_0 rfl rfl rfl (Nat.le_of_ble_eq_true rfl) (by omega) (Nat.le_of_ble_eq_true rfl) dL_law_821 (fun r G1 h => ok_X9_call  h) fun r821 G821 => ?_
                                              refine J_aload_n 2 hX dL_law_824 fz2 rfl ?_
                                              refine J_aload_n 0 hX dL_law_825 fz0 rfl ?_
                                              refine J_iload_n 3 hX dL_law_826 fz3 rfl ?_
                                              refine J_iconst hX dL_law_827 ci_1 ?_
                                              refine J_iadd hX dL_law_828 ?_
                                              refine J_sld hX hSc dL_law_829 ?_
                                              refine J_callVI (As := [.int (xs (v3 + (1 : Int32)).toNatClampNeg)]) (st := [.int r821]) (b := 186) hX mv_L_98 sk_186 rfl rfl rfl (Nat.le_of_ble_eq_true rfl) (by omega) (Nat.le_of_ble_eq_true rfl) dL_law_830 (fun r G1 h => ok_X10_call  h) fun r830 G830 => ?_
                                              refine J_icmp_eq (tgt := 2166) hX dL_law_833 rfl ?_ ?_
                                              · refine J_iinc (lv' := [(3, .int (v3 + (6 : Int32))), (0, .ref b), (1, .ref (AD Y 0)), (2, .ref (AD Y 186))]) 3 hX dL_law_2166 rfl ci_6 (Nat.le_of_ble_eq_true rfl) rfl ?_
                                                refine J_goto (tgt := 18) hX dL_law_2169 rfl ?_
                                                refine J_sub (lv' := [(0, .ref b), (1, .ref (AD Y 0)), (2, .ref (AD Y 186)), (3, .int (v3 + (6 : Int32)))]) [1, 2, 3, 0] rfl ?_
                                                exact hk18 (v3 + (6 : Int32)) G830
                                              · refine J_iconst hX dL_law_836 ci_0 ?_
                                                exact J_retZ hR (by decide) dL_law_837
                                            · refine J_case (fun ht33_20 => ?_) (fun ht33_20 => ?_)
                                              · refine J_tswIn (off := 805) (tgt := 838) hX dL_law_33 (by rw [ht33_20]; decide) (by rw [ht33_20]; decide) (by rw [ht33_20]; decide +kernel) rfl ?_
                                                refine J_aload_n 1 hX dL_law_838 fz1 rfl ?_
                                                refine J_aload_n 0 hX dL_law_839 fz0 rfl ?_
                                                refine J_iload_n 3 hX dL_law_840 fz3 rfl ?_
                                                refine J_iconst hX dL_law_841 ci_1 ?_
                                                refine J_iadd hX dL_law_842 ?_
                                                refine J_sld hX hSc dL_law_843 ?_
                                                refine J_callVI (As := [.int (xs (v3 + (1 : Int32)).toNatClampNeg)]) (st := []) (b := 0) hX mv_L_99 sk_0 rfl rfl rfl (Nat.le_of_ble_eq_true rfl) (by omega) (Nat.le_of_ble_eq_true rfl) dL_law_844 (fun r G1 h => ok_X9_called  h) fun r844 G844 => ?_
                                                refine J_aload_n 2 hX dL_law_847 fz2 rfl ?_
                                                refine J_aload_n 0 hX dL_law_848 fz0 rfl ?_
                                                refine J_iload_n 3 hX dL_law_849 fz3 rfl ?_
                                                refine J_iconst hX dL_law_850 ci_1 ?_
                                                refine J_iadd hX dL_law_851 ?_
                                                refine J_sld hX hSc dL_law_852 ?_
                                                refine J_callVI (As := [.int (xs (v3 + (1 : Int32)).toNatClampNeg)]) (st := [.int r844]) (b := 186) hX mv_L_102 sk_186 rfl rfl rfl (Nat.le_of_ble_eq_true rfl) (by omega) (Nat.le_of_ble_eq_true rfl) dL_law_853 (fun r G1 h => ok_X10_called  h) fun r853 G853 => ?_
                                                refine J_icmp_eq (tgt := 2166) hX dL_law_856 rfl ?_ ?_
                                                · refine J_iinc (lv' := [(3, .int (v3 + (6 : Int32))), (0, .ref b), (1, .ref (AD Y 0)), (2, .ref (AD Y 186))]) 3 hX dL_law_2166 rfl ci_6 (Nat.le_of_ble_eq_true rfl) rfl ?_
                                                  refine J_goto (tgt := 18) hX dL_law_2169 rfl ?_
                                                  refine J_sub (lv' := [(0, .ref b), (1, .ref (AD Y 0)), (2, .ref (AD Y 186)), (3, .int (v3 + (6 : Int32)))]) [1, 2, 3, 0] rfl ?_
                                                  exact hk18 (v3 + (6 : Int32)) G853
                                                · refine J_iconst hX dL_law_859 ci_0 ?_
                                                  exact J_retZ hR (by decide) dL_law_860
                                              · refine J_case (fun ht33_21 => ?_) (fun ht33_21 => ?_)
                                                · refine J_tswIn (off := 828) (tgt := 861) hX dL_law_33 (by rw [ht33_21]; decide) (by rw [ht33_21]; decide) (by rw [ht33_21]; decide +kernel) rfl ?_
                                                  refine J_aload_n 1 hX dL_law_861 fz1 rfl ?_
                                                  refine J_aload_n 0 hX dL_law_862 fz0 rfl ?_
                                                  refine J_iload_n 3 hX dL_law_863 fz3 rfl ?_
                                                  refine J_iconst hX dL_law_864 ci_1 ?_
                                                  refine J_iadd hX dL_law_865 ?_
                                                  refine J_sld hX hSc dL_law_866 ?_
                                                  refine J_aload_n 0 hX dL_law_867 fz0 rfl ?_
                                                  refine J_iload_n 3 hX dL_law_868 fz3 rfl ?_
                                                  refine J_iconst hX dL_law_869 ci_2 ?_
                                                  refine J_iadd hX dL_law_870 ?_
                                                  refine J_sld hX hSc dL_law_871 ?_
                                                  refine J_aload_n 0 hX dL_law_872 fz0 rfl ?_
                                                  refine J_iload_n 3 hX dL_law_873 fz3 rfl ?_
                                                  refine J_iconst hX dL_law_874 ci_3 ?_
                                                  refine J_iadd hX dL_law_875 ?_
                                                  refine J_sld hX hSc dL_law_876 ?_
                                                  refine J_callVI (As := [.int (xs (v3 + (1 : Int32)).toNatClampNeg), .int (xs (v3 + (2 : Int32)).toNatClampNeg), .int (xs (v3 + (3 : Int32)).toNatClampNeg)]) (st := []) (b := 0) hX mv_L_103 sk_0 rfl rfl rfl (Nat.le_of_ble_eq_true rfl) (by omega) (Nat.le_of_ble_eq_true rfl) dL_law_877 (fun r G1 h => ok_X9_daubs  h) fun r877 G877 => ?_
                                                  refine J_aload_n 2 hX dL_law_880 fz2 rfl ?_
                                                  refine J_aload_n 0 hX dL_law_881 fz0 rfl ?_
                                                  refine J_iload_n 3 hX dL_law_882 fz3 rfl ?_
                                                  refine J_iconst hX dL_law_883 ci_1 ?_
                                                  refine J_iadd hX dL_law_884 ?_
                                                  refine J_sld hX hSc dL_law_885 ?_
                                                  refine J_aload_n 0 hX dL_law_886 fz0 rfl ?_
                                                  refine J_iload_n 3 hX dL_law_887 fz3 rfl ?_
                                                  refine J_iconst hX dL_law_888 ci_2 ?_
                                                  refine J_iadd hX dL_law_889 ?_
                                                  refine J_sld hX hSc dL_law_890 ?_
                                                  refine J_aload_n 0 hX dL_law_891 fz0 rfl ?_
                                                  refine J_iload_n 3 hX dL_law_892 fz3 rfl ?_
                                                  refine J_iconst hX dL_law_893 ci_3 ?_
                                                  refine J_iadd hX dL_law_894 ?_
                                                  refine J_sld hX hSc dL_law_895 ?_
                                                  refine J_callVI (As := [.int (xs (v3 + (1 : Int32)).toNatClampNeg), .int (xs (v3 + (2 : Int32)).toNatClampNeg), .int (xs (v3 + (3 : Int32)).toNatClampNeg)]) (st := [.int r877]) (b := 186) hX mv_L_106 sk_186 rfl rfl rfl (Nat.le_of_ble_eq_true rfl) (by omega) (Nat.le_of_ble_eq_true rfl) dL_law_896 (fun r G1 h => ok_X10_daubs  h) fun r896 G896 => ?_
                                                  refine J_icmp_eq (tgt := 2166) hX dL_law_899 rfl ?_ ?_
                                                  · refine J_iinc (lv' := [(3, .int (v3 + (6 : Int32))), (0, .ref b), (1, .ref (AD Y 0)), (2, .ref (AD Y 186))]) 3 hX dL_law_2166 rfl ci_6 (Nat.le_of_ble_eq_true rfl) rfl ?_
                                                    refine J_goto (tgt := 18) hX dL_law_2169 rfl ?_
                                                    refine J_sub (lv' := [(0, .ref b), (1, .ref (AD Y 0)), (2, .ref (AD Y 186)), (3, .int (v3 + (6 : Int32)))]) [1, 2, 3, 0] rfl ?_
                                                    exact hk18 (v3 + (6 : Int32)) G896
                                                  · refine J_iconst hX dL_law_902 ci_0 ?_
                                                    exact J_retZ hR (by decide) dL_law_903
                                                · refine J_case (fun ht33_22 => ?_) (fun ht33_22 => ?_)
                                                  · refine J_tswIn (off := 871) (tgt := 904) hX dL_law_33 (by rw [ht33_22]; decide) (by rw [ht33_22]; decide) (by rw [ht33_22]; decide +kernel) rfl ?_
                                                    refine J_aload_n 1 hX dL_law_904 fz1 rfl ?_
                                                    refine J_aload_n 0 hX dL_law_905 fz0 rfl ?_
                                                    refine J_iload_n 3 hX dL_law_906 fz3 rfl ?_
                                                    refine J_iconst hX dL_law_907 ci_1 ?_
                                                    refine J_iadd hX dL_law_908 ?_
                                                    refine J_sld hX hSc dL_law_909 ?_
                                                    refine J_aload_n 0 hX dL_law_910 fz0 rfl ?_
                                                    refine J_iload_n 3 hX dL_law_911 fz3 rfl ?_
                                                    refine J_iconst hX dL_law_912 ci_2 ?_
                                                    refine J_iadd hX dL_law_913 ?_
                                                    refine J_sld hX hSc dL_law_914 ?_
                                                    refine J_aload_n 0 hX dL_law_915 fz0 rfl ?_
                                                    refine J_iload_n 3 hX dL_law_916 fz3 rfl ?_
                                                    refine J_iconst hX dL_law_917 ci_3 ?_
                                                    refine J_iadd hX dL_law_918 ?_
                                                    refine J_sld hX hSc dL_law_919 ?_
                                                    refine J_callVI (As := [.int (xs (v3 + (1 : Int32)).toNatClampNeg), .int (xs (v3 + (2 : Int32)).toNatClampNeg), .int (xs (v3 + (3 : Int32)).toNatClampNeg)]) (st := []) (b := 0) hX mv_L_107 sk_0 rfl rfl rfl (Nat.le_of_ble_eq_true rfl) (by omega) (Nat.le_of_ble_eq_true rfl) dL_law_920 (fun r G1 h => ok_X9_full  h) fun r920 G920 => ?_
                                                    refine J_aload_n 2 hX dL_law_923 fz2 rfl ?_
                                                    refine J_aload_n 0 hX dL_law_924 fz0 rfl ?_
                                                    refine J_iload_n 3 hX dL_law_925 fz3 rfl ?_
                                                    refine J_iconst hX dL_law_926 ci_1 ?_
                                                    refine J_iadd hX dL_law_927 ?_
                                                    refine J_sld hX hSc dL_law_928 ?_
                                                    refine J_aload_n 0 hX dL_law_929 fz0 rfl ?_
                                                    refine J_iload_n 3 hX dL_law_930 fz3 rfl ?_
                                                    refine J_iconst hX dL_law_931 ci_2 ?_
                                                    refine J_iadd hX dL_law_932 ?_
                                                    refine J_sld hX hSc dL_law_933 ?_
                                                    refine J_aload_n 0 hX dL_law_934 fz0 rfl ?_
                                                    refine J_iload_n 3 hX dL_law_935 fz3 rfl ?_
                                                    refine J_iconst hX dL_law_936 ci_3 ?_
                                                    refine J_iadd hX dL_law_937 ?_
                                                    refine J_sld hX hSc dL_law_938 ?_
                                                    refine J_callVI (As := [.int (xs (v3 + (1 : Int32)).toNatClampNeg), .int (xs (v3 + (2 : Int32)).toNatClampNeg), .int (xs (v3 + (3 : Int32)).toNatClampNeg)]) (st := [.int r920]) (b := 186) hX mv_L_110 sk_186 rfl rfl rfl (Nat.le_of_ble_eq_true rfl) (by omega) (Nat.le_of_ble_eq_true rfl) dL_law_939 (fun r G1 h => ok_X10_full  h) fun r939 G939 => ?_
                                                    refine J_icmp_eq (tgt := 2166) hX dL_law_942 rfl ?_ ?_
                                                    · refine J_iinc (lv' := [(3, .int (v3 + (6 : Int32))), (0, .ref b), (1, .ref (AD Y 0)), (2, .ref (AD Y 186))]) 3 hX dL_law_2166 rfl ci_6 (Nat.le_of_ble_eq_true rfl) rfl ?_
                                                      refine J_goto (tgt := 18) hX dL_law_2169 rfl ?_
                                                      refine J_sub (lv' := [(0, .ref b), (1, .ref (AD Y 0)), (2, .ref (AD Y 186)), (3, .int (v3 + (6 : Int32)))]) [1, 2, 3, 0] rfl ?_
                                                      exact hk18 (v3 + (6 : Int32)) G939
                                                    · refine J_iconst hX dL_law_945 ci_0 ?_
                                                      exact J_retZ hR (by decide) dL_law_946
                                                  · refine J_case (fun ht33_23 => ?_) (fun ht33_23 => ?_)
                                                    · refine J_tswIn (off := 914) (tgt := 947) hX dL_law_33 (by rw [ht33_23]; decide) (by rw [ht33_23]; decide) (by rw [ht33_23]; decide +kernel) rfl ?_
                                                      refine J_aload_n 1 hX dL_law_947 fz1 rfl ?_
                                                      refine J_aload_n 0 hX dL_law_948 fz0 rfl ?_
                                                      refine J_iload_n 3 hX dL_law_949 fz3 rfl ?_
                                                      refine J_iconst hX dL_law_950 ci_1 ?_
                                                      refine J_iadd hX dL_law_951 ?_
                                                      refine J_sld hX hSc dL_law_952 ?_
                                                      refine J_aload_n 0 hX dL_law_953 fz0 rfl ?_
                                                      refine J_iload_n 3 hX dL_law_954 fz3 rfl ?_
                                                      refine J_iconst hX dL_law_955 ci_2 ?_
                                                      refine J_iadd hX dL_law_956 ?_
                                                      refine J_sld hX hSc dL_law_957 ?_
                                                      refine J_aload_n 0 hX dL_law_958 fz0 rfl ?_
                                                      refine J_iload_n 3 hX dL_law_959 fz3 rfl ?_
                                                      refine J_iconst hX dL_law_960 ci_3 ?_
                                                      refine J_iadd hX dL_law_961 ?_
                                                      refine J_sld hX hSc dL_law_962 ?_
                                                      refine J_aload_n 0 hX dL_law_963 fz0 rfl ?_
                                                      refine J_iload_n 3 hX dL_law_964 fz3 rfl ?_
                                                      refine J_iconst hX dL_law_965 ci_4 ?_
                                                      refine J_iadd hX dL_law_966 ?_
                                                      refine J_sld hX hSc dL_law_967 ?_
                                                      refine J_callVI (As := [.int (xs (v3 + (1 : Int32)).toNatClampNeg), .int (xs (v3 + (2 : Int32)).toNatClampNeg), .int (xs (v3 + (3 : Int32)).toNatClampNeg), .int (xs (v3 + (4 : Int32)).toNatClampNeg)]) (st := []) (b := 0) hX mv_L_111 sk_0 rfl rfl rfl (Nat.le_of_ble_eq_true rfl) (by omega) (Nat.le_of_ble_eq_true rfl) dL_law_968 (fun r G1 h => ok_X9_lacks  h) fun r968 G968 => ?_
                                                      refine J_aload_n 2 hX dL_law_971 fz2 rfl ?_
                                                      refine J_aload_n 0 hX dL_law_972 fz0 rfl ?_
                                                      refine J_iload_n 3 hX dL_law_973 fz3 rfl ?_
                                                      refine J_iconst hX dL_law_974 ci_1 ?_
                                                      refine J_iadd hX dL_law_975 ?_
                                                      refine J_sld hX hSc dL_law_976 ?_
                                                      refine J_aload_n 0 hX dL_law_977 fz0 rfl ?_
                                                      refine J_iload_n 3 hX dL_law_978 fz3 rfl ?_
                                                      refine J_iconst hX dL_law_979 ci_2 ?_
                                                      refine J_iadd hX dL_law_980 ?_
                                                      refine J_sld hX hSc dL_law_981 ?_
                                                      refine J_aload_n 0 hX dL_law_982 fz0 rfl ?_
                                                      refine J_iload_n 3 hX dL_law_983 fz3 rfl ?_
                                                      refine J_iconst hX dL_law_984 ci_3 ?_
                                                      refine J_iadd hX dL_law_985 ?_
                                                      refine J_sld hX hSc dL_law_986 ?_
                                                      refine J_aload_n 0 hX dL_law_987 fz0 rfl ?_
                                                      refine J_iload_n 3 hX dL_law_988 fz3 rfl ?_
                                                      refine J_iconst hX dL_law_989 ci_4 ?_
                                                      refine J_iadd hX dL_law_990 ?_
                                                      refine J_sld hX hSc dL_law_991 ?_
                                                      refine J_callVI (As := [.int (xs (v3 + (1 : Int32)).toNatClampNeg), .int (xs (v3 + (2 : Int32)).toNatClampNeg), .int (xs (v3 + (3 : Int32)).toNatClampNeg), .int (xs (v3 + (4 : Int32)).toNatClampNeg)]) (st := [.int r968]) (b := 186) hX mv_L_114 sk_186 rfl rfl rfl (Nat.le_of_ble_eq_true rfl) (by omega) (Nat.le_of_ble_eq_true rfl) dL_law_992 (fun r G1 h => ok_X10_lacks  h) fun r992 G992 => ?_
                                                      refine J_icmp_eq (tgt := 2166) hX dL_law_995 rfl ?_ ?_
                                                      · refine J_iinc (lv' := [(3, .int (v3 + (6 : Int32))), (0, .ref b), (1, .ref (AD Y 0)), (2, .ref (AD Y 186))]) 3 hX dL_law_2166 rfl ci_6 (Nat.le_of_ble_eq_true rfl) rfl ?_
                                                        refine J_goto (tgt := 18) hX dL_law_2169 rfl ?_
                                                        refine J_sub (lv' := [(0, .ref b), (1, .ref (AD Y 0)), (2, .ref (AD Y 186)), (3, .int (v3 + (6 : Int32)))]) [1, 2, 3, 0] rfl ?_
                                                        exact hk18 (v3 + (6 : Int32)) G992
                                                      · refine J_iconst hX dL_law_998 ci_0 ?_
                                                        exact J_retZ hR (by decide) dL_law_999
                                                    · refine J_case (fun ht33_24 => ?_) (fun ht33_24 => ?_)
                                                      · refine J_tswIn (off := 967) (tgt := 1000) hX dL_law_33 (by rw [ht33_24]; decide) (by rw [ht33_24]; decide) (by rw [ht33_24]; decide +kernel) rfl ?_
                                                        refine J_aload_n 1 hX dL_law_1000 fz1 rfl ?_
                                                        refine J_aload_n 0 hX dL_law_1001 fz0 rfl ?_
                                                        refine J_iload_n 3 hX dL_law_1002 fz3 rfl ?_
                                                        refine J_iconst hX dL_law_1003 ci_1 ?_
                                                        refine J_iadd hX dL_law_1004 ?_
                                                        refine J_sld hX hSc dL_law_1005 ?_
                                                        refine J_aload_n 0 hX dL_law_1006 fz0 rfl ?_
                                                        refine J_iload_n 3 hX dL_law_1007 fz3 rfl ?_
                                                        refine J_iconst hX dL_law_1008 ci_2 ?_
                                                        refine J_iadd hX dL_law_1009 ?_
                                                        refine J_sld hX hSc dL_law_1010 ?_
                                                        refine J_aload_n 0 hX dL_law_1011 fz0 rfl ?_
                                                        refine J_iload_n 3 hX dL_law_1012 fz3 rfl ?_
                                                        refine J_iconst hX dL_law_1013 ci_3 ?_
                                                        refine J_iadd hX dL_law_1014 ?_
                                                        refine J_sld hX hSc dL_law_1015 ?_
                                                        refine J_callVI (As := [.int (xs (v3 + (1 : Int32)).toNatClampNeg), .int (xs (v3 + (2 : Int32)).toNatClampNeg), .int (xs (v3 + (3 : Int32)).toNatClampNeg)]) (st := []) (b := 0) hX mv_L_115 sk_0 rfl rfl rfl (Nat.le_of_ble_eq_true rfl) (by omega) (Nat.le_of_ble_eq_true rfl) dL_law_1016 (fun r G1 h => ok_X9_done  h) fun r1016 G1016 => ?_
                                                        refine J_aload_n 2 hX dL_law_1019 fz2 rfl ?_
                                                        refine J_aload_n 0 hX dL_law_1020 fz0 rfl ?_
                                                        refine J_iload_n 3 hX dL_law_1021 fz3 rfl ?_
                                                        refine J_iconst hX dL_law_1022 ci_1 ?_
                                                        refine J_iadd hX dL_law_1023 ?_
                                                        refine J_sld hX hSc dL_law_1024 ?_
                                                        refine J_aload_n 0 hX dL_law_1025 fz0 rfl ?_
                                                        refine J_iload_n 3 hX dL_law_1026 fz3 rfl ?_
                                                        refine J_iconst hX dL_law_1027 ci_2 ?_
                                                        refine J_iadd hX dL_law_1028 ?_
                                                        refine J_sld hX hSc dL_law_1029 ?_
                                                        refine J_aload_n 0 hX dL_law_1030 fz0 rfl ?_
                                                        refine J_iload_n 3 hX dL_law_1031 fz3 rfl ?_
                                                        refine J_iconst hX dL_law_1032 ci_3 ?_
                                                        refine J_iadd hX dL_law_1033 ?_
                                                        refine J_sld hX hSc dL_law_1034 ?_
                                                        refine J_callVI (As := [.int (xs (v3 + (1 : Int32)).toNatClampNeg), .int (xs (v3 + (2 : Int32)).toNatClampNeg), .int (xs (v3 + (3 : Int32)).toNatClampNeg)]) (st := [.int r1016]) (b := 186) hX mv_L_118 sk_186 rfl rfl rfl (Nat.le_of_ble_eq_true rfl) (by omega) (Nat.le_of_ble_eq_true rfl) dL_law_1035 (fun r G1 h => ok_X10_done  h) fun r1035 G1035 => ?_
                                                        refine J_icmp_eq (tgt := 2166) hX dL_law_1038 rfl ?_ ?_
                                                        · refine J_iinc (lv' := [(3, .int (v3 + (6 : Int32))), (0, .ref b), (1, .ref (AD Y 0)), (2, .ref (AD Y 186))]) 3 hX dL_law_2166 rfl ci_6 (Nat.le_of_ble_eq_true rfl) rfl ?_
                                                          refine J_goto (tgt := 18) hX dL_law_2169 rfl ?_
                                                          refine J_sub (lv' := [(0, .ref b), (1, .ref (AD Y 0)), (2, .ref (AD Y 186)), (3, .int (v3 + (6 : Int32)))]) [1, 2, 3, 0] rfl ?_
                                                          exact hk18 (v3 + (6 : Int32)) G1035
                                                        · refine J_iconst hX dL_law_1041 ci_0 ?_
                                                          exact J_retZ hR (by decide) dL_law_1042
                                                      · refine J_case (fun ht33_25 => ?_) (fun ht33_25 => ?_)
                                                        · refine J_tswIn (off := 1010) (tgt := 1043) hX dL_law_33 (by rw [ht33_25]; decide) (by rw [ht33_25]; decide) (by rw [ht33_25]; decide +kernel) rfl ?_
                                                          refine J_aload_n 1 hX dL_law_1043 fz1 rfl ?_
                                                          refine J_aload_n 0 hX dL_law_1044 fz0 rfl ?_
                                                          refine J_iload_n 3 hX dL_law_1045 fz3 rfl ?_
                                                          refine J_iconst hX dL_law_1046 ci_1 ?_
                                                          refine J_iadd hX dL_law_1047 ?_
                                                          refine J_sld hX hSc dL_law_1048 ?_
                                                          refine J_aload_n 0 hX dL_law_1049 fz0 rfl ?_
                                                          refine J_iload_n 3 hX dL_law_1050 fz3 rfl ?_
                                                          refine J_iconst hX dL_law_1051 ci_2 ?_
                                                          refine J_iadd hX dL_law_1052 ?_
                                                          refine J_sld hX hSc dL_law_1053 ?_
                                                          refine J_aload_n 0 hX dL_law_1054 fz0 rfl ?_
                                                          refine J_iload_n 3 hX dL_law_1055 fz3 rfl ?_
                                                          refine J_iconst hX dL_law_1056 ci_3 ?_
                                                          refine J_iadd hX dL_law_1057 ?_
                                                          refine J_sld hX hSc dL_law_1058 ?_
                                                          refine J_aload_n 0 hX dL_law_1059 fz0 rfl ?_
                                                          refine J_iload_n 3 hX dL_law_1060 fz3 rfl ?_
                                                          refine J_iconst hX dL_law_1061 ci_4 ?_
                                                          refine J_iadd hX dL_law_1062 ?_
                                                          refine J_sld hX hSc dL_law_1063 ?_
                                                          refine J_callVI (As := [.int (xs (v3 + (1 : Int32)).toNatClampNeg), .int (xs (v3 + (2 : Int32)).toNatClampNeg), .int (xs (v3 + (3 : Int32)).toNatClampNeg), .int (xs (v3 + (4 : Int32)).toNatClampNeg)]) (st := []) (b := 0) hX mv_L_119 sk_0 rfl rfl rfl (Nat.le_of_ble_eq_true rfl) (by omega) (Nat.le_of_ble_eq_true rfl) dL_law_1064 (fun r G1 h => ok_X9_claim  h) fun r1064 G1064 => ?_
                                                          refine J_aload_n 2 hX dL_law_1067 fz2 rfl ?_
                                                          refine J_aload_n 0 hX dL_law_1068 fz0 rfl ?_
                                                          refine J_iload_n 3 hX dL_law_1069 fz3 rfl ?_
                                                          refine J_iconst hX dL_law_1070 ci_1 ?_
                                                          refine J_iadd hX dL_law_1071 ?_
                                                          refine J_sld hX hSc dL_law_1072 ?_
                                                          refine J_aload_n 0 hX dL_law_1073 fz0 rfl ?_
                                                          refine J_iload_n 3 hX dL_law_1074 fz3 rfl ?_
                                                          refine J_iconst hX dL_law_1075 ci_2 ?_
                                                          refine J_iadd hX dL_law_1076 ?_
                                                          refine J_sld hX hSc dL_law_1077 ?_
                                                          refine J_aload_n 0 hX dL_law_1078 fz0 rfl ?_
                                                          refine J_iload_n 3 hX dL_law_1079 fz3 rfl ?_
                                                          refine J_iconst hX dL_law_1080 ci_3 ?_
                                                          refine J_iadd hX dL_law_1081 ?_
                                                          refine J_sld hX hSc dL_law_1082 ?_
                                                          refine J_aload_n 0 hX dL_law_1083 fz0 rfl ?_
                                                          refine J_iload_n 3 hX dL_law_1084 fz3 rfl ?_
                                                          refine J_iconst hX dL_law_1085 ci_4 ?_
                                                          refine J_iadd hX dL_law_1086 ?_
                                                          refine J_sld hX hSc dL_law_1087 ?_
                                                          refine J_callVI (As := [.int (xs (v3 + (1 : Int32)).toNatClampNeg), .int (xs (v3 + (2 : Int32)).toNatClampNeg), .int (xs (v3 + (3 : Int32)).toNatClampNeg), .int (xs (v3 + (4 : Int32)).toNatClampNeg)]) (st := [.int r1064]) (b := 186) hX mv_L_122 sk_186 rfl rfl rfl (Nat.le_of_ble_eq_true rfl) (by omega) (Nat.le_of_ble_eq_true rfl) dL_law_1088 (fun r G1 h => ok_X10_claim  h) fun r1088 G1088 => ?_
                                                          refine J_icmp_eq (tgt := 2166) hX dL_law_1091 rfl ?_ ?_
                                                          · refine J_iinc (lv' := [(3, .int (v3 + (6 : Int32))), (0, .ref b), (1, .ref (AD Y 0)), (2, .ref (AD Y 186))]) 3 hX dL_law_2166 rfl ci_6 (Nat.le_of_ble_eq_true rfl) rfl ?_
                                                            refine J_goto (tgt := 18) hX dL_law_2169 rfl ?_
                                                            refine J_sub (lv' := [(0, .ref b), (1, .ref (AD Y 0)), (2, .ref (AD Y 186)), (3, .int (v3 + (6 : Int32)))]) [1, 2, 3, 0] rfl ?_
                                                            exact hk18 (v3 + (6 : Int32)) G1088
                                                          · refine J_iconst hX dL_law_1094 ci_0 ?_
                                                            exact J_retZ hR (by decide) dL_law_1095
                                                        · refine J_case (fun ht33_26 => ?_) (fun ht33_26 => ?_)
                                                          · refine J_tswIn (off := 1063) (tgt := 1096) hX dL_law_33 (by rw [ht33_26]; decide) (by rw [ht33_26]; decide) (by rw [ht33_26]; decide +kernel) rfl ?_
                                                            refine J_aload_n 1 hX dL_law_1096 fz1 rfl ?_
                                                            refine J_aload_n 0 hX dL_law_1097 fz0 rfl ?_
                                                            refine J_iload_n 3 hX dL_law_1098 fz3 rfl ?_
                                                            refine J_iconst hX dL_law_1099 ci_1 ?_
                                                            refine J_iadd hX dL_law_1100 ?_
                                                            refine J_sld hX hSc dL_law_1101 ?_
                                                            refine J_callVI (As := [.int (xs (v3 + (1 : Int32)).toNatClampNeg)]) (st := []) (b := 0) hX mv_L_123 sk_0 rfl rfl rfl (Nat.le_of_ble_eq_true rfl) (by omega) (Nat.le_of_ble_eq_true rfl) dL_law_1102 (fun r G1 h => ok_X9_first  h) fun r1102 G1102 => ?_
                                                            refine J_aload_n 2 hX dL_law_1105 fz2 rfl ?_
                                                            refine J_aload_n 0 hX dL_law_1106 fz0 rfl ?_
                                                            refine J_iload_n 3 hX dL_law_1107 fz3 rfl ?_
                                                            refine J_iconst hX dL_law_1108 ci_1 ?_
                                                            refine J_iadd hX dL_law_1109 ?_
                                                            refine J_sld hX hSc dL_law_1110 ?_
                                                            refine J_callVI (As := [.int (xs (v3 + (1 : Int32)).toNatClampNeg)]) (st := [.int r1102]) (b := 186) hX mv_L_126 sk_186 rfl rfl rfl (Nat.le_of_ble_eq_true rfl) (by omega) (Nat.le_of_ble_eq_true rfl) dL_law_1111 (fun r G1 h => ok_X10_first_  h) fun r1111 G1111 => ?_
                                                            refine J_icmp_eq (tgt := 2166) hX dL_law_1114 rfl ?_ ?_
                                                            · refine J_iinc (lv' := [(3, .int (v3 + (6 : Int32))), (0, .ref b), (1, .ref (AD Y 0)), (2, .ref (AD Y 186))]) 3 hX dL_law_2166 rfl ci_6 (Nat.le_of_ble_eq_true rfl) rfl ?_
                                                              refine J_goto (tgt := 18) hX dL_law_2169 rfl ?_
                                                              refine J_sub (lv' := [(0, .ref b), (1, .ref (AD Y 0)), (2, .ref (AD Y 186)), (3, .int (v3 + (6 : Int32)))]) [1, 2, 3, 0] rfl ?_
                                                              exact hk18 (v3 + (6 : Int32)) G1111
                                                            · refine J_iconst hX dL_law_1117 ci_0 ?_
                                                              exact J_retZ hR (by decide) dL_law_1118
                                                          · refine J_case (fun ht33_27 => ?_) (fun ht33_27 => ?_)
                                                            · refine J_tswIn (off := 1086) (tgt := 1119) hX dL_law_33 (by rw [ht33_27]; decide) (by rw [ht33_27]; decide) (by rw [ht33_27]; decide +kernel) rfl ?_
                                                              refine J_aload_n 1 hX dL_law_1119 fz1 rfl ?_
                                                              refine J_aload_n 0 hX dL_law_1120 fz0 rfl ?_
                                                              refine J_iload_n 3 hX dL_law_1121 fz3 rfl ?_
                                                              refine J_iconst hX dL_law_1122 ci_1 ?_
                                                              refine J_iadd hX dL_law_1123 ?_
                                                              refine J_sld hX hSc dL_law_1124 ?_
                                                              refine J_aload_n 0 hX dL_law_1125 fz0 rfl ?_
                                                              refine J_iload_n 3 hX dL_law_1126 fz3 rfl ?_
                                                              refine J_iconst hX dL_law_1127 ci_2 ?_
                                                              refine J_iadd hX dL_law_1128 ?_
                                                              refine J_sld hX hSc dL_law_1129 ?_
                                                              refine J_callVI (As := [.int (xs (v3 + (1 : Int32)).toNatClampNeg), .int (xs (v3 + (2 : Int32)).toNatClampNeg)]) (st := []) (b := 0) hX mv_L_127 sk_0 rfl rfl rfl (Nat.le_of_ble_eq_true rfl) (by omega) (Nat.le_of_ble_eq_true rfl) dL_law_1130 (fun r G1 h => ok_X9_winner  h) fun r1130 G1130 => ?_
                                                              refine J_aload_n 2 hX dL_law_1133 fz2 rfl ?_
                                                              refine J_aload_n 0 hX dL_law_1134 fz0 rfl ?_
                                                              refine J_iload_n 3 hX dL_law_1135 fz3 rfl ?_
                                                              refine J_iconst hX dL_law_1136 ci_1 ?_
                                                              refine J_iadd hX dL_law_1137 ?_
                                                              refine J_sld hX hSc dL_law_1138 ?_
                                                              refine J_aload_n 0 hX dL_law_1139 fz0 rfl ?_
                                                              refine J_iload_n 3 hX dL_law_1140 fz3 rfl ?_
                                                              refine J_iconst hX dL_law_1141 ci_2 ?_
                                                              refine J_iadd hX dL_law_1142 ?_
                                                              refine J_sld hX hSc dL_law_1143 ?_
                                                              refine J_callVI (As := [.int (xs (v3 + (1 : Int32)).toNatClampNeg), .int (xs (v3 + (2 : Int32)).toNatClampNeg)]) (st := [.int r1130]) (b := 186) hX mv_L_130 sk_186 rfl rfl rfl (Nat.le_of_ble_eq_true rfl) (by omega) (Nat.le_of_ble_eq_true rfl) dL_law_1144 (fun r G1 h => ok_X10_winner  h) fun r1144 G1144 => ?_
                                                              refine J_icmp_eq (tgt := 2166) hX dL_law_1147 rfl ?_ ?_
                                                              · refine J_iinc (lv' := [(3, .int (v3 + (6 : Int32))), (0, .ref b), (1, .ref (AD Y 0)), (2, .ref (AD Y 186))]) 3 hX dL_law_2166 rfl ci_6 (Nat.le_of_ble_eq_true rfl) rfl ?_
                                                                refine J_goto (tgt := 18) hX dL_law_2169 rfl ?_
                                                                refine J_sub (lv' := [(0, .ref b), (1, .ref (AD Y 0)), (2, .ref (AD Y 186)), (3, .int (v3 + (6 : Int32)))]) [1, 2, 3, 0] rfl ?_
                                                                exact hk18 (v3 + (6 : Int32)) G1144
                                                              · refine J_iconst hX dL_law_1150 ci_0 ?_
                                                                exact J_retZ hR (by decide) dL_law_1151
                                                            · refine J_case (fun ht33_28 => ?_) (fun ht33_28 => ?_)
                                                              · refine J_tswIn (off := 1119) (tgt := 1152) hX dL_law_33 (by rw [ht33_28]; decide) (by rw [ht33_28]; decide) (by rw [ht33_28]; decide +kernel) rfl ?_
                                                                refine J_aload_n 1 hX dL_law_1152 fz1 rfl ?_
                                                                refine J_aload_n 0 hX dL_law_1153 fz0 rfl ?_
                                                                refine J_iload_n 3 hX dL_law_1154 fz3 rfl ?_
                                                                refine J_iconst hX dL_law_1155 ci_1 ?_
                                                                refine J_iadd hX dL_law_1156 ?_
                                                                refine J_sld hX hSc dL_law_1157 ?_
                                                                refine J_aload_n 0 hX dL_law_1158 fz0 rfl ?_
                                                                refine J_iload_n 3 hX dL_law_1159 fz3 rfl ?_
                                                                refine J_iconst hX dL_law_1160 ci_2 ?_
                                                                refine J_iadd hX dL_law_1161 ?_
                                                                refine J_sld hX hSc dL_law_1162 ?_
                                                                refine J_callVI (As := [.int (xs (v3 + (1 : Int32)).toNatClampNeg), .int (xs (v3 + (2 : Int32)).toNatClampNeg)]) (st := []) (b := 0) hX mv_L_131 sk_0 rfl rfl rfl (Nat.le_of_ble_eq_true rfl) (by omega) (Nat.le_of_ble_eq_true rfl) dL_law_1163 (fun r G1 h => ok_X9_prize  h) fun r1163 G1163 => ?_
                                                                refine J_aload_n 2 hX dL_law_1166 fz2 rfl ?_
                                                                refine J_aload_n 0 hX dL_law_1167 fz0 rfl ?_
                                                                refine J_iload_n 3 hX dL_law_1168 fz3 rfl ?_
                                                                refine J_iconst hX dL_law_1169 ci_1 ?_
                                                                refine J_iadd hX dL_law_1170 ?_
                                                                refine J_sld hX hSc dL_law_1171 ?_
                                                                refine J_aload_n 0 hX dL_law_1172 fz0 rfl ?_
                                                                refine J_iload_n 3 hX dL_law_1173 fz3 rfl ?_
                                                                refine J_iconst hX dL_law_1174 ci_2 ?_
                                                                refine J_iadd hX dL_law_1175 ?_
                                                                refine J_sld hX hSc dL_law_1176 ?_
                                                                refine J_callVI (As := [.int (xs (v3 + (1 : Int32)).toNatClampNeg), .int (xs (v3 + (2 : Int32)).toNatClampNeg)]) (st := [.int r1163]) (b := 186) hX mv_L_134 sk_186 rfl rfl rfl (Nat.le_of_ble_eq_true rfl) (by omega) (Nat.le_of_ble_eq_true rfl) dL_law_1177 (fun r G1 h => ok_X10_prize  h) fun r1177 G1177 => ?_
                                                                refine J_icmp_eq (tgt := 2166) hX dL_law_1180 rfl ?_ ?_
                                                                · refine J_iinc (lv' := [(3, .int (v3 + (6 : Int32))), (0, .ref b), (1, .ref (AD Y 0)), (2, .ref (AD Y 186))]) 3 hX dL_law_2166 rfl ci_6 (Nat.le_of_ble_eq_true rfl) rfl ?_
                                                                  refine J_goto (tgt := 18) hX dL_law_2169 rfl ?_
                                                                  refine J_sub (lv' := [(0, .ref b), (1, .ref (AD Y 0)), (2, .ref (AD Y 186)), (3, .int (v3 + (6 : Int32)))]) [1, 2, 3, 0] rfl ?_
                                                                  exact hk18 (v3 + (6 : Int32)) G1177
                                                                · refine J_iconst hX dL_law_1183 ci_0 ?_
                                                                  exact J_retZ hR (by decide) dL_law_1184
                                                              · refine J_case (fun ht33_29 => ?_) (fun ht33_29 => ?_)
                                                                · refine J_tswIn (off := 1152) (tgt := 1185) hX dL_law_33 (by rw [ht33_29]; decide) (by rw [ht33_29]; decide) (by rw [ht33_29]; decide +kernel) rfl ?_
                                                                  refine J_aload_n 1 hX dL_law_1185 fz1 rfl ?_
                                                                  refine J_aload_n 0 hX dL_law_1186 fz0 rfl ?_
                                                                  refine J_iload_n 3 hX dL_law_1187 fz3 rfl ?_
                                                                  refine J_iconst hX dL_law_1188 ci_1 ?_
                                                                  refine J_iadd hX dL_law_1189 ?_
                                                                  refine J_sld hX hSc dL_law_1190 ?_
                                                                  refine J_callVI (As := [.int (xs (v3 + (1 : Int32)).toNatClampNeg)]) (st := []) (b := 0) hX mv_L_135 sk_0 rfl rfl rfl (Nat.le_of_ble_eq_true rfl) (by omega) (Nat.le_of_ble_eq_true rfl) dL_law_1191 (fun r G1 h => ok_X9_jackpot  h) fun r1191 G1191 => ?_
                                                                  refine J_aload_n 2 hX dL_law_1194 fz2 rfl ?_
                                                                  refine J_aload_n 0 hX dL_law_1195 fz0 rfl ?_
                                                                  refine J_iload_n 3 hX dL_law_1196 fz3 rfl ?_
                                                                  refine J_iconst hX dL_law_1197 ci_1 ?_
                                                                  refine J_iadd hX dL_law_1198 ?_
                                                                  refine J_sld hX hSc dL_law_1199 ?_
                                                                  refine J_callVI (As := [.int (xs (v3 + (1 : Int32)).toNatClampNeg)]) (st := [.int r1191]) (b := 186) hX mv_L_138 sk_186 rfl rfl rfl (Nat.le_of_ble_eq_true rfl) (by omega) (Nat.le_of_ble_eq_true rfl) dL_law_1200 (fun r G1 h => ok_X10_jackpot  h) fun r1200 G1200 => ?_
                                                                  refine J_icmp_eq (tgt := 2166) hX dL_law_1203 rfl ?_ ?_
                                                                  · refine J_iinc (lv' := [(3, .int (v3 + (6 : Int32))), (0, .ref b), (1, .ref (AD Y 0)), (2, .ref (AD Y 186))]) 3 hX dL_law_2166 rfl ci_6 (Nat.le_of_ble_eq_true rfl) rfl ?_
                                                                    refine J_goto (tgt := 18) hX dL_law_2169 rfl ?_
                                                                    refine J_sub (lv' := [(0, .ref b), (1, .ref (AD Y 0)), (2, .ref (AD Y 186)), (3, .int (v3 + (6 : Int32)))]) [1, 2, 3, 0] rfl ?_
                                                                    exact hk18 (v3 + (6 : Int32)) G1200
                                                                  · refine J_iconst hX dL_law_1206 ci_0 ?_
                                                                    exact J_retZ hR (by decide) dL_law_1207
                                                                · refine J_case (fun ht33_30 => ?_) (fun ht33_30 => ?_)
                                                                  · refine J_tswIn (off := 1175) (tgt := 1208) hX dL_law_33 (by rw [ht33_30]; decide) (by rw [ht33_30]; decide) (by rw [ht33_30]; decide +kernel) rfl ?_
                                                                    refine J_aload_n 1 hX dL_law_1208 fz1 rfl ?_
                                                                    refine J_aload_n 0 hX dL_law_1209 fz0 rfl ?_
                                                                    refine J_iload_n 3 hX dL_law_1210 fz3 rfl ?_
                                                                    refine J_iconst hX dL_law_1211 ci_1 ?_
                                                                    refine J_iadd hX dL_law_1212 ?_
                                                                    refine J_sld hX hSc dL_law_1213 ?_
                                                                    refine J_callVI (As := [.int (xs (v3 + (1 : Int32)).toNatClampNeg)]) (st := []) (b := 0) hX mv_L_139 sk_0 rfl rfl rfl (Nat.le_of_ble_eq_true rfl) (by omega) (Nat.le_of_ble_eq_true rfl) dL_law_1214 (fun r G1 h => ok_X9_wins  h) fun r1214 G1214 => ?_
                                                                    refine J_aload_n 2 hX dL_law_1217 fz2 rfl ?_
                                                                    refine J_aload_n 0 hX dL_law_1218 fz0 rfl ?_
                                                                    refine J_iload_n 3 hX dL_law_1219 fz3 rfl ?_
                                                                    refine J_iconst hX dL_law_1220 ci_1 ?_
                                                                    refine J_iadd hX dL_law_1221 ?_
                                                                    refine J_sld hX hSc dL_law_1222 ?_
                                                                    refine J_callVI (As := [.int (xs (v3 + (1 : Int32)).toNatClampNeg)]) (st := [.int r1214]) (b := 186) hX mv_L_142 sk_186 rfl rfl rfl (Nat.le_of_ble_eq_true rfl) (by omega) (Nat.le_of_ble_eq_true rfl) dL_law_1223 (fun r G1 h => ok_X10_wins  h) fun r1223 G1223 => ?_
                                                                    refine J_icmp_eq (tgt := 2166) hX dL_law_1226 rfl ?_ ?_
                                                                    · refine J_iinc (lv' := [(3, .int (v3 + (6 : Int32))), (0, .ref b), (1, .ref (AD Y 0)), (2, .ref (AD Y 186))]) 3 hX dL_law_2166 rfl ci_6 (Nat.le_of_ble_eq_true rfl) rfl ?_
                                                                      refine J_goto (tgt := 18) hX dL_law_2169 rfl ?_
                                                                      refine J_sub (lv' := [(0, .ref b), (1, .ref (AD Y 0)), (2, .ref (AD Y 186)), (3, .int (v3 + (6 : Int32)))]) [1, 2, 3, 0] rfl ?_
                                                                      exact hk18 (v3 + (6 : Int32)) G1223
                                                                    · refine J_iconst hX dL_law_1229 ci_0 ?_
                                                                      exact J_retZ hR (by decide) dL_law_1230
                                                                  · refine J_case (fun ht33_31 => ?_) (fun ht33_31 => ?_)
                                                                    · refine J_tswIn (off := 1198) (tgt := 1231) hX dL_law_33 (by rw [ht33_31]; decide) (by rw [ht33_31]; decide) (by rw [ht33_31]; decide +kernel) rfl ?_
                                                                      refine J_aload_n 1 hX dL_law_1231 fz1 rfl ?_
                                                                      refine J_aload_n 0 hX dL_law_1232 fz0 rfl ?_
                                                                      refine J_iload_n 3 hX dL_law_1233 fz3 rfl ?_
                                                                      refine J_iconst hX dL_law_1234 ci_1 ?_
                                                                      refine J_iadd hX dL_law_1235 ?_
                                                                      refine J_sld hX hSc dL_law_1236 ?_
                                                                      refine J_aload_n 0 hX dL_law_1237 fz0 rfl ?_
                                                                      refine J_iload_n 3 hX dL_law_1238 fz3 rfl ?_
                                                                      refine J_iconst hX dL_law_1239 ci_2 ?_
                                                                      refine J_iadd hX dL_law_1240 ?_
                                                                      refine J_sld hX hSc dL_law_1241 ?_
                                                                      refine J_callVI (As := [.int (xs (v3 + (1 : Int32)).toNatClampNeg), .int (xs (v3 + (2 : Int32)).toNatClampNeg)]) (st := []) (b := 0) hX mv_L_143 sk_0 rfl rfl rfl (Nat.le_of_ble_eq_true rfl) (by omega) (Nat.le_of_ble_eq_true rfl) dL_law_1242 (fun r G1 h => ok_X9_book  h) fun r1242 G1242 => ?_
                                                                      refine J_aload_n 2 hX dL_law_1245 fz2 rfl ?_
                                                                      refine J_aload_n 0 hX dL_law_1246 fz0 rfl ?_
                                                                      refine J_iload_n 3 hX dL_law_1247 fz3 rfl ?_
                                                                      refine J_iconst hX dL_law_1248 ci_1 ?_
                                                                      refine J_iadd hX dL_law_1249 ?_
                                                                      refine J_sld hX hSc dL_law_1250 ?_
                                                                      refine J_aload_n 0 hX dL_law_1251 fz0 rfl ?_
                                                                      refine J_iload_n 3 hX dL_law_1252 fz3 rfl ?_
                                                                      refine J_iconst hX dL_law_1253 ci_2 ?_
                                                                      refine J_iadd hX dL_law_1254 ?_
                                                                      refine J_sld hX hSc dL_law_1255 ?_
                                                                      refine J_callVI (As := [.int (xs (v3 + (1 : Int32)).toNatClampNeg), .int (xs (v3 + (2 : Int32)).toNatClampNeg)]) (st := [.int r1242]) (b := 186) hX mv_L_146 sk_186 rfl rfl rfl (Nat.le_of_ble_eq_true rfl) (by omega) (Nat.le_of_ble_eq_true rfl) dL_law_1256 (fun r G1 h => ok_X10_book  h) fun r1256 G1256 => ?_
                                                                      refine J_icmp_eq (tgt := 2166) hX dL_law_1259 rfl ?_ ?_
                                                                      · refine J_iinc (lv' := [(3, .int (v3 + (6 : Int32))), (0, .ref b), (1, .ref (AD Y 0)), (2, .ref (AD Y 186))]) 3 hX dL_law_2166 rfl ci_6 (Nat.le_of_ble_eq_true rfl) rfl ?_
                                                                        refine J_goto (tgt := 18) hX dL_law_2169 rfl ?_
                                                                        refine J_sub (lv' := [(0, .ref b), (1, .ref (AD Y 0)), (2, .ref (AD Y 186)), (3, .int (v3 + (6 : Int32)))]) [1, 2, 3, 0] rfl ?_
                                                                        exact hk18 (v3 + (6 : Int32)) G1256
                                                                      · refine J_iconst hX dL_law_1262 ci_0 ?_
                                                                        exact J_retZ hR (by decide) dL_law_1263
                                                                    · refine J_case (fun ht33_32 => ?_) (fun ht33_32 => ?_)
                                                                      · refine J_tswIn (off := 1231) (tgt := 1264) hX dL_law_33 (by rw [ht33_32]; decide) (by rw [ht33_32]; decide) (by rw [ht33_32]; decide +kernel) rfl ?_
                                                                        refine J_aload_n 1 hX dL_law_1264 fz1 rfl ?_
                                                                        refine J_aload_n 0 hX dL_law_1265 fz0 rfl ?_
                                                                        refine J_iload_n 3 hX dL_law_1266 fz3 rfl ?_
                                                                        refine J_iconst hX dL_law_1267 ci_1 ?_
                                                                        refine J_iadd hX dL_law_1268 ?_
                                                                        refine J_sld hX hSc dL_law_1269 ?_
                                                                        refine J_aload_n 0 hX dL_law_1270 fz0 rfl ?_
                                                                        refine J_iload_n 3 hX dL_law_1271 fz3 rfl ?_
                                                                        refine J_iconst hX dL_law_1272 ci_2 ?_
                                                                        refine J_iadd hX dL_law_1273 ?_
                                                                        refine J_sld hX hSc dL_law_1274 ?_
                                                                        refine J_aload_n 0 hX dL_law_1275 fz0 rfl ?_
                                                                        refine J_iload_n 3 hX dL_law_1276 fz3 rfl ?_
                                                                        refine J_iconst hX dL_law_1277 ci_3 ?_
                                                                        refine J_iadd hX dL_law_1278 ?_
                                                                        refine J_sld hX hSc dL_law_1279 ?_
                                                                        refine J_callVI (As := [.int (xs (v3 + (1 : Int32)).toNatClampNeg), .int (xs (v3 + (2 : Int32)).toNatClampNeg), .int (xs (v3 + (3 : Int32)).toNatClampNeg)]) (st := []) (b := 0) hX mv_L_147 sk_0 rfl rfl rfl (Nat.le_of_ble_eq_true rfl) (by omega) (Nat.le_of_ble_eq_true rfl) dL_law_1280 (fun r G1 h => ok_X9_shaped  h) fun r1280 G1280 => ?_
                                                                        refine J_aload_n 2 hX dL_law_1283 fz2 rfl ?_
                                                                        refine J_aload_n 0 hX dL_law_1284 fz0 rfl ?_
                                                                        refine J_iload_n 3 hX dL_law_1285 fz3 rfl ?_
                                                                        refine J_iconst hX dL_law_1286 ci_1 ?_
                                                                        refine J_iadd hX dL_law_1287 ?_
                                                                        refine J_sld hX hSc dL_law_1288 ?_
                                                                        refine J_aload_n 0 hX dL_law_1289 fz0 rfl ?_
                                                                        refine J_iload_n 3 hX dL_law_1290 fz3 rfl ?_
                                                                        refine J_iconst hX dL_law_1291 ci_2 ?_
                                                                        refine J_iadd hX dL_law_1292 ?_
                                                                        refine J_sld hX hSc dL_law_1293 ?_
                                                                        refine J_aload_n 0 hX dL_law_1294 fz0 rfl ?_
                                                                        refine J_iload_n 3 hX dL_law_1295 fz3 rfl ?_
                                                                        refine J_iconst hX dL_law_1296 ci_3 ?_
                                                                        refine J_iadd hX dL_law_1297 ?_
                                                                        refine J_sld hX hSc dL_law_1298 ?_
                                                                        refine J_callVI (As := [.int (xs (v3 + (1 : Int32)).toNatClampNeg), .int (xs (v3 + (2 : Int32)).toNatClampNeg), .int (xs (v3 + (3 : Int32)).toNatClampNeg)]) (st := [.int r1280]) (b := 186) hX mv_L_150 sk_186 rfl rfl rfl (Nat.le_of_ble_eq_true rfl) (by omega) (Nat.le_of_ble_eq_true rfl) dL_law_1299 (fun r G1 h => ok_X10_shaped  h) fun r1299 G1299 => ?_
                                                                        refine J_icmp_eq (tgt := 2166) hX dL_law_1302 rfl ?_ ?_
                                                                        · refine J_iinc (lv' := [(3, .int (v3 + (6 : Int32))), (0, .ref b), (1, .ref (AD Y 0)), (2, .ref (AD Y 186))]) 3 hX dL_law_2166 rfl ci_6 (Nat.le_of_ble_eq_true rfl) rfl ?_
                                                                          refine J_goto (tgt := 18) hX dL_law_2169 rfl ?_
                                                                          refine J_sub (lv' := [(0, .ref b), (1, .ref (AD Y 0)), (2, .ref (AD Y 186)), (3, .int (v3 + (6 : Int32)))]) [1, 2, 3, 0] rfl ?_
                                                                          exact hk18 (v3 + (6 : Int32)) G1299
                                                                        · refine J_iconst hX dL_law_1305 ci_0 ?_
                                                                          exact J_retZ hR (by decide) dL_law_1306
                                                                      · refine J_case (fun ht33_33 => ?_) (fun ht33_33 => ?_)
                                                                        · refine J_tswIn (off := 1274) (tgt := 1307) hX dL_law_33 (by rw [ht33_33]; decide) (by rw [ht33_33]; decide) (by rw [ht33_33]; decide +kernel) rfl ?_
                                                                          refine J_aload_n 1 hX dL_law_1307 fz1 rfl ?_
                                                                          refine J_aload_n 0 hX dL_law_1308 fz0 rfl ?_
                                                                          refine J_iload_n 3 hX dL_law_1309 fz3 rfl ?_
                                                                          refine J_iconst hX dL_law_1310 ci_1 ?_
                                                                          refine J_iadd hX dL_law_1311 ?_
                                                                          refine J_sld hX hSc dL_law_1312 ?_
                                                                          refine J_aload_n 0 hX dL_law_1313 fz0 rfl ?_
                                                                          refine J_iload_n 3 hX dL_law_1314 fz3 rfl ?_
                                                                          refine J_iconst hX dL_law_1315 ci_2 ?_
                                                                          refine J_iadd hX dL_law_1316 ?_
                                                                          refine J_sld hX hSc dL_law_1317 ?_
                                                                          refine J_callVI (As := [.int (xs (v3 + (1 : Int32)).toNatClampNeg), .int (xs (v3 + (2 : Int32)).toNatClampNeg)]) (st := []) (b := 0) hX mv_L_151 sk_0 rfl rfl rfl (Nat.le_of_ble_eq_true rfl) (by omega) (Nat.le_of_ble_eq_true rfl) dL_law_1318 (fun r G1 h => ok_X9_shape  h) fun r1318 G1318 => ?_
                                                                          refine J_aload_n 2 hX dL_law_1321 fz2 rfl ?_
                                                                          refine J_aload_n 0 hX dL_law_1322 fz0 rfl ?_
                                                                          refine J_iload_n 3 hX dL_law_1323 fz3 rfl ?_
                                                                          refine J_iconst hX dL_law_1324 ci_1 ?_
                                                                          refine J_iadd hX dL_law_1325 ?_
                                                                          refine J_sld hX hSc dL_law_1326 ?_
                                                                          refine J_aload_n 0 hX dL_law_1327 fz0 rfl ?_
                                                                          refine J_iload_n 3 hX dL_law_1328 fz3 rfl ?_
                                                                          refine J_iconst hX dL_law_1329 ci_2 ?_
                                                                          refine J_iadd hX dL_law_1330 ?_
                                                                          refine J_sld hX hSc dL_law_1331 ?_
                                                                          refine J_callVI (As := [.int (xs (v3 + (1 : Int32)).toNatClampNeg), .int (xs (v3 + (2 : Int32)).toNatClampNeg)]) (st := [.int r1318]) (b := 186) hX mv_L_154 sk_186 rfl rfl rfl (Nat.le_of_ble_eq_true rfl) (by omega) (Nat.le_of_ble_eq_true rfl) dL_law_1332 (fun r G1 h => ok_X10_shape  h) fun r1332 G1332 => ?_
                                                                          refine J_icmp_eq (tgt := 2166) hX dL_law_1335 rfl ?_ ?_
                                                                          · refine J_iinc (lv' := [(3, .int (v3 + (6 : Int32))), (0, .ref b), (1, .ref (AD Y 0)), (2, .ref (AD Y 186))]) 3 hX dL_law_2166 rfl ci_6 (Nat.le_of_ble_eq_true rfl) rfl ?_
                                                                            refine J_goto (tgt := 18) hX dL_law_2169 rfl ?_
                                                                            refine J_sub (lv' := [(0, .ref b), (1, .ref (AD Y 0)), (2, .ref (AD Y 186)), (3, .int (v3 + (6 : Int32)))]) [1, 2, 3, 0] rfl ?_
                                                                            exact hk18 (v3 + (6 : Int32)) G1332
                                                                          · refine J_iconst hX dL_law_1338 ci_0 ?_
                                                                            exact J_retZ hR (by decide) dL_law_1339
                                                                        · refine J_case (fun ht33_34 => ?_) (fun ht33_34 => ?_)
                                                                          · refine J_tswIn (off := 1307) (tgt := 1340) hX dL_law_33 (by rw [ht33_34]; decide) (by rw [ht33_34]; decide) (by rw [ht33_34]; decide +kernel) rfl ?_
                                                                            refine J_aload_n 1 hX dL_law_1340 fz1 rfl ?_
                                                                            refine J_aload_n 0 hX dL_law_1341 fz0 rfl ?_
                                                                            refine J_iload_n 3 hX dL_law_1342 fz3 rfl ?_
                                                                            refine J_iconst hX dL_law_1343 ci_1 ?_
                                                                            refine J_iadd hX dL_law_1344 ?_
                                                                            refine J_sld hX hSc dL_law_1345 ?_
                                                                            refine J_aload_n 0 hX dL_law_1346 fz0 rfl ?_
                                                                            refine J_iload_n 3 hX dL_law_1347 fz3 rfl ?_
                                                                            refine J_iconst hX dL_law_1348 ci_2 ?_
                                                                            refine J_iadd hX dL_law_1349 ?_
                                                                            refine J_sld hX hSc dL_law_1350 ?_
                                                                            refine J_callVI (As := [.int (xs (v3 + (1 : Int32)).toNatClampNeg), .int (xs (v3 + (2 : Int32)).toNatClampNeg)]) (st := []) (b := 0) hX mv_L_155 sk_0 rfl rfl rfl (Nat.le_of_ble_eq_true rfl) (by omega) (Nat.le_of_ble_eq_true rfl) dL_law_1351 (fun r G1 h => ok_X9_corners  h) fun r1351 G1351 => ?_
                                                                            refine J_aload_n 2 hX dL_law_1354 fz2 rfl ?_
                                                                            refine J_aload_n 0 hX dL_law_1355 fz0 rfl ?_
                                                                            refine J_iload_n 3 hX dL_law_1356 fz3 rfl ?_
                                                                            refine J_iconst hX dL_law_1357 ci_1 ?_
                                                                            refine J_iadd hX dL_law_1358 ?_
                                                                            refine J_sld hX hSc dL_law_1359 ?_
                                                                            refine J_aload_n 0 hX dL_law_1360 fz0 rfl ?_
                                                                            refine J_iload_n 3 hX dL_law_1361 fz3 rfl ?_
                                                                            refine J_iconst hX dL_law_1362 ci_2 ?_
                                                                            refine J_iadd hX dL_law_1363 ?_
                                                                            refine J_sld hX hSc dL_law_1364 ?_
                                                                            refine J_callVI (As := [.int (xs (v3 + (1 : Int32)).toNatClampNeg), .int (xs (v3 + (2 : Int32)).toNatClampNeg)]) (st := [.int r1351]) (b := 186) hX mv_L_158 sk_186 rfl rfl rfl (Nat.le_of_ble_eq_true rfl) (by omega) (Nat.le_of_ble_eq_true rfl) dL_law_1365 (fun r G1 h => ok_X10_corners  h) fun r1365 G1365 => ?_
                                                                            refine J_icmp_eq (tgt := 2166) hX dL_law_1368 rfl ?_ ?_
                                                                            · refine J_iinc (lv' := [(3, .int (v3 + (6 : Int32))), (0, .ref b), (1, .ref (AD Y 0)), (2, .ref (AD Y 186))]) 3 hX dL_law_2166 rfl ci_6 (Nat.le_of_ble_eq_true rfl) rfl ?_
                                                                              refine J_goto (tgt := 18) hX dL_law_2169 rfl ?_
                                                                              refine J_sub (lv' := [(0, .ref b), (1, .ref (AD Y 0)), (2, .ref (AD Y 186)), (3, .int (v3 + (6 : Int32)))]) [1, 2, 3, 0] rfl ?_
                                                                              exact hk18 (v3 + (6 : Int32)) G1365
                                                                            · refine J_iconst hX dL_law_1371 ci_0 ?_
                                                                              exact J_retZ hR (by decide) dL_law_1372
                                                                          · refine J_case (fun ht33_35 => ?_) (fun ht33_35 => ?_)
                                                                            · refine J_tswIn (off := 1340) (tgt := 1373) hX dL_law_33 (by rw [ht33_35]; decide) (by rw [ht33_35]; decide) (by rw [ht33_35]; decide +kernel) rfl ?_
                                                                              refine J_aload_n 1 hX dL_law_1373 fz1 rfl ?_
                                                                              refine J_aload_n 0 hX dL_law_1374 fz0 rfl ?_
                                                                              refine J_iload_n 3 hX dL_law_1375 fz3 rfl ?_
                                                                              refine J_iconst hX dL_law_1376 ci_1 ?_
                                                                              refine J_iadd hX dL_law_1377 ?_
                                                                              refine J_sld hX hSc dL_law_1378 ?_
                                                                              refine J_aload_n 0 hX dL_law_1379 fz0 rfl ?_
                                                                              refine J_iload_n 3 hX dL_law_1380 fz3 rfl ?_
                                                                              refine J_iconst hX dL_law_1381 ci_2 ?_
                                                                              refine J_iadd hX dL_law_1382 ?_
                                                                              refine J_sld hX hSc dL_law_1383 ?_
                                                                              refine J_aload_n 0 hX dL_law_1384 fz0 rfl ?_
                                                                              refine J_iload_n 3 hX dL_law_1385 fz3 rfl ?_
                                                                              refine J_iconst hX dL_law_1386 ci_3 ?_
                                                                              refine J_iadd hX dL_law_1387 ?_
                                                                              refine J_sld hX hSc dL_law_1388 ?_
                                                                              refine J_callVI (As := [.int (xs (v3 + (1 : Int32)).toNatClampNeg), .int (xs (v3 + (2 : Int32)).toNatClampNeg), .int (xs (v3 + (3 : Int32)).toNatClampNeg)]) (st := []) (b := 0) hX mv_L_159 sk_0 rfl rfl rfl (Nat.le_of_ble_eq_true rfl) (by omega) (Nat.le_of_ble_eq_true rfl) dL_law_1389 (fun r G1 h => ok_X9_filled  h) fun r1389 G1389 => ?_
                                                                              refine J_aload_n 2 hX dL_law_1392 fz2 rfl ?_
                                                                              refine J_aload_n 0 hX dL_law_1393 fz0 rfl ?_
                                                                              refine J_iload_n 3 hX dL_law_1394 fz3 rfl ?_
                                                                              refine J_iconst hX dL_law_1395 ci_1 ?_
                                                                              refine J_iadd hX dL_law_1396 ?_
                                                                              refine J_sld hX hSc dL_law_1397 ?_
                                                                              refine J_aload_n 0 hX dL_law_1398 fz0 rfl ?_
                                                                              refine J_iload_n 3 hX dL_law_1399 fz3 rfl ?_
                                                                              refine J_iconst hX dL_law_1400 ci_2 ?_
                                                                              refine J_iadd hX dL_law_1401 ?_
                                                                              refine J_sld hX hSc dL_law_1402 ?_
                                                                              refine J_aload_n 0 hX dL_law_1403 fz0 rfl ?_
                                                                              refine J_iload_n 3 hX dL_law_1404 fz3 rfl ?_
                                                                              refine J_iconst hX dL_law_1405 ci_3 ?_
                                                                              refine J_iadd hX dL_law_1406 ?_
                                                                              refine J_sld hX hSc dL_law_1407 ?_
                                                                              refine J_callVI (As := [.int (xs (v3 + (1 : Int32)).toNatClampNeg), .int (xs (v3 + (2 : Int32)).toNatClampNeg), .int (xs (v3 + (3 : Int32)).toNatClampNeg)]) (st := [.int r1389]) (b := 186) hX mv_L_162 sk_186 rfl rfl rfl (Nat.le_of_ble_eq_true rfl) (by omega) (Nat.le_of_ble_eq_true rfl) dL_law_1408 (fun r G1 h => ok_X10_filled  h) fun r1408 G1408 => ?_
                                                                              refine J_icmp_eq (tgt := 2166) hX dL_law_1411 rfl ?_ ?_
                                                                              · refine J_iinc (lv' := [(3, .int (v3 + (6 : Int32))), (0, .ref b), (1, .ref (AD Y 0)), (2, .ref (AD Y 186))]) 3 hX dL_law_2166 rfl ci_6 (Nat.le_of_ble_eq_true rfl) rfl ?_
                                                                                refine J_goto (tgt := 18) hX dL_law_2169 rfl ?_
                                                                                refine J_sub (lv' := [(0, .ref b), (1, .ref (AD Y 0)), (2, .ref (AD Y 186)), (3, .int (v3 + (6 : Int32)))]) [1, 2, 3, 0] rfl ?_
                                                                                exact hk18 (v3 + (6 : Int32)) G1408
                                                                              · refine J_iconst hX dL_law_1414 ci_0 ?_
                                                                                exact J_retZ hR (by decide) dL_law_1415
                                                                            · refine J_case (fun ht33_36 => ?_) (fun ht33_36 => ?_)
                                                                              · refine J_tswIn (off := 1383) (tgt := 1416) hX dL_law_33 (by rw [ht33_36]; decide) (by rw [ht33_36]; decide) (by rw [ht33_36]; decide +kernel) rfl ?_
                                                                                refine J_aload_n 1 hX dL_law_1416 fz1 rfl ?_
                                                                                refine J_aload_n 0 hX dL_law_1417 fz0 rfl ?_
                                                                                refine J_iload_n 3 hX dL_law_1418 fz3 rfl ?_
                                                                                refine J_iconst hX dL_law_1419 ci_1 ?_
                                                                                refine J_iadd hX dL_law_1420 ?_
                                                                                refine J_sld hX hSc dL_law_1421 ?_
                                                                                refine J_aload_n 0 hX dL_law_1422 fz0 rfl ?_
                                                                                refine J_iload_n 3 hX dL_law_1423 fz3 rfl ?_
                                                                                refine J_iconst hX dL_law_1424 ci_2 ?_
                                                                                refine J_iadd hX dL_law_1425 ?_
                                                                                refine J_sld hX hSc dL_law_1426 ?_
                                                                                refine J_callVI (As := [.int (xs (v3 + (1 : Int32)).toNatClampNeg), .int (xs (v3 + (2 : Int32)).toNatClampNeg)]) (st := []) (b := 0) hX mv_L_163 sk_0 rfl rfl rfl (Nat.le_of_ble_eq_true rfl) (by omega) (Nat.le_of_ble_eq_true rfl) dL_law_1427 (fun r G1 h => ok_X9_last  h) fun r1427 G1427 => ?_
                                                                                refine J_aload_n 2 hX dL_law_1430 fz2 rfl ?_
                                                                                refine J_aload_n 0 hX dL_law_1431 fz0 rfl ?_
                                                                                refine J_iload_n 3 hX dL_law_1432 fz3 rfl ?_
                                                                                refine J_iconst hX dL_law_1433 ci_1 ?_
                                                                                refine J_iadd hX dL_law_1434 ?_
                                                                                refine J_sld hX hSc dL_law_1435 ?_
                                                                                refine J_aload_n 0 hX dL_law_1436 fz0 rfl ?_
                                                                                refine J_iload_n 3 hX dL_law_1437 fz3 rfl ?_
                                                                                refine J_iconst hX dL_law_1438 ci_2 ?_
                                                                                refine J_iadd hX dL_law_1439 ?_
                                                                                refine J_sld hX hSc dL_law_1440 ?_
                                                                                refine J_callVI (As := [.int (xs (v3 + (1 : Int32)).toNatClampNeg), .int (xs (v3 + (2 : Int32)).toNatClampNeg)]) (st := [.int r1427]) (b := 186) hX mv_L_166 sk_186 rfl rfl rfl (Nat.le_of_ble_eq_true rfl) (by omega) (Nat.le_of_ble_eq_true rfl) dL_law_1441 (fun r G1 h => ok_X10_last  h) fun r1441 G1441 => ?_
                                                                                refine J_icmp_eq (tgt := 2166) hX dL_law_1444 rfl ?_ ?_
                                                                                · refine J_iinc (lv' := [(3, .int (v3 + (6 : Int32))), (0, .ref b), (1, .ref (AD Y 0)), (2, .ref (AD Y 186))]) 3 hX dL_law_2166 rfl ci_6 (Nat.le_of_ble_eq_true rfl) rfl ?_
                                                                                  refine J_goto (tgt := 18) hX dL_law_2169 rfl ?_
                                                                                  refine J_sub (lv' := [(0, .ref b), (1, .ref (AD Y 0)), (2, .ref (AD Y 186)), (3, .int (v3 + (6 : Int32)))]) [1, 2, 3, 0] rfl ?_
                                                                                  exact hk18 (v3 + (6 : Int32)) G1441
                                                                                · refine J_iconst hX dL_law_1447 ci_0 ?_
                                                                                  exact J_retZ hR (by decide) dL_law_1448
                                                                              · refine J_case (fun ht33_37 => ?_) (fun ht33_37 => ?_)
                                                                                · refine J_tswIn (off := 1416) (tgt := 1449) hX dL_law_33 (by rw [ht33_37]; decide) (by rw [ht33_37]; decide) (by rw [ht33_37]; decide +kernel) rfl ?_
                                                                                  refine J_aload_n 1 hX dL_law_1449 fz1 rfl ?_
                                                                                  refine J_aload_n 0 hX dL_law_1450 fz0 rfl ?_
                                                                                  refine J_iload_n 3 hX dL_law_1451 fz3 rfl ?_
                                                                                  refine J_iconst hX dL_law_1452 ci_1 ?_
                                                                                  refine J_iadd hX dL_law_1453 ?_
                                                                                  refine J_sld hX hSc dL_law_1454 ?_
                                                                                  refine J_aload_n 0 hX dL_law_1455 fz0 rfl ?_
                                                                                  refine J_iload_n 3 hX dL_law_1456 fz3 rfl ?_
                                                                                  refine J_iconst hX dL_law_1457 ci_2 ?_
                                                                                  refine J_iadd hX dL_law_1458 ?_
                                                                                  refine J_sld hX hSc dL_law_1459 ?_
                                                                                  refine J_callVI (As := [.int (xs (v3 + (1 : Int32)).toNatClampNeg), .int (xs (v3 + (2 : Int32)).toNatClampNeg)]) (st := []) (b := 0) hX mv_L_167 sk_0 rfl rfl rfl (Nat.le_of_ble_eq_true rfl) (by omega) (Nat.le_of_ble_eq_true rfl) dL_law_1460 (fun r G1 h => ok_X9_sweat  h) fun r1460 G1460 => ?_
                                                                                  refine J_aload_n 2 hX dL_law_1463 fz2 rfl ?_
                                                                                  refine J_aload_n 0 hX dL_law_1464 fz0 rfl ?_
                                                                                  refine J_iload_n 3 hX dL_law_1465 fz3 rfl ?_
                                                                                  refine J_iconst hX dL_law_1466 ci_1 ?_
                                                                                  refine J_iadd hX dL_law_1467 ?_
                                                                                  refine J_sld hX hSc dL_law_1468 ?_
                                                                                  refine J_aload_n 0 hX dL_law_1469 fz0 rfl ?_
                                                                                  refine J_iload_n 3 hX dL_law_1470 fz3 rfl ?_
                                                                                  refine J_iconst hX dL_law_1471 ci_2 ?_
                                                                                  refine J_iadd hX dL_law_1472 ?_
                                                                                  refine J_sld hX hSc dL_law_1473 ?_
                                                                                  refine J_callVI (As := [.int (xs (v3 + (1 : Int32)).toNatClampNeg), .int (xs (v3 + (2 : Int32)).toNatClampNeg)]) (st := [.int r1460]) (b := 186) hX mv_L_170 sk_186 rfl rfl rfl (Nat.le_of_ble_eq_true rfl) (by omega) (Nat.le_of_ble_eq_true rfl) dL_law_1474 (fun r G1 h => ok_X10_sweat  h) fun r1474 G1474 => ?_
                                                                                  refine J_icmp_eq (tgt := 2166) hX dL_law_1477 rfl ?_ ?_
                                                                                  · refine J_iinc (lv' := [(3, .int (v3 + (6 : Int32))), (0, .ref b), (1, .ref (AD Y 0)), (2, .ref (AD Y 186))]) 3 hX dL_law_2166 rfl ci_6 (Nat.le_of_ble_eq_true rfl) rfl ?_
                                                                                    refine J_goto (tgt := 18) hX dL_law_2169 rfl ?_
                                                                                    refine J_sub (lv' := [(0, .ref b), (1, .ref (AD Y 0)), (2, .ref (AD Y 186)), (3, .int (v3 + (6 : Int32)))]) [1, 2, 3, 0] rfl ?_
                                                                                    exact hk18 (v3 + (6 : Int32)) G1474
                                                                                  · refine J_iconst hX dL_law_1480 ci_0 ?_
                                                                                    exact J_retZ hR (by decide) dL_law_1481
                                                                                · refine J_case (fun ht33_38 => ?_) (fun ht33_38 => ?_)
                                                                                  · refine J_tswIn (off := 1449) (tgt := 1482) hX dL_law_33 (by rw [ht33_38]; decide) (by rw [ht33_38]; decide) (by rw [ht33_38]; decide +kernel) rfl ?_
                                                                                    refine J_aload_n 1 hX dL_law_1482 fz1 rfl ?_
                                                                                    refine J_aload_n 0 hX dL_law_1483 fz0 rfl ?_
                                                                                    refine J_iload_n 3 hX dL_law_1484 fz3 rfl ?_
                                                                                    refine J_iconst hX dL_law_1485 ci_1 ?_
                                                                                    refine J_iadd hX dL_law_1486 ?_
                                                                                    refine J_sld hX hSc dL_law_1487 ?_
                                                                                    refine J_aload_n 0 hX dL_law_1488 fz0 rfl ?_
                                                                                    refine J_iload_n 3 hX dL_law_1489 fz3 rfl ?_
                                                                                    refine J_iconst hX dL_law_1490 ci_2 ?_
                                                                                    refine J_iadd hX dL_law_1491 ?_
                                                                                    refine J_sld hX hSc dL_law_1492 ?_
                                                                                    refine J_callVI (As := [.int (xs (v3 + (1 : Int32)).toNatClampNeg), .int (xs (v3 + (2 : Int32)).toNatClampNeg)]) (st := []) (b := 0) hX mv_L_171 sk_0 rfl rfl rfl (Nat.le_of_ble_eq_true rfl) (by omega) (Nat.le_of_ble_eq_true rfl) dL_law_1493 (fun r G1 h => ok_X9_nearest  h) fun r1493 G1493 => ?_
                                                                                    refine J_aload_n 2 hX dL_law_1496 fz2 rfl ?_
                                                                                    refine J_aload_n 0 hX dL_law_1497 fz0 rfl ?_
                                                                                    refine J_iload_n 3 hX dL_law_1498 fz3 rfl ?_
                                                                                    refine J_iconst hX dL_law_1499 ci_1 ?_
                                                                                    refine J_iadd hX dL_law_1500 ?_
                                                                                    refine J_sld hX hSc dL_law_1501 ?_
                                                                                    refine J_aload_n 0 hX dL_law_1502 fz0 rfl ?_
                                                                                    refine J_iload_n 3 hX dL_law_1503 fz3 rfl ?_
                                                                                    refine J_iconst hX dL_law_1504 ci_2 ?_
                                                                                    refine J_iadd hX dL_law_1505 ?_
                                                                                    refine J_sld hX hSc dL_law_1506 ?_
                                                                                    refine J_callVI (As := [.int (xs (v3 + (1 : Int32)).toNatClampNeg), .int (xs (v3 + (2 : Int32)).toNatClampNeg)]) (st := [.int r1493]) (b := 186) hX mv_L_174 sk_186 rfl rfl rfl (Nat.le_of_ble_eq_true rfl) (by omega) (Nat.le_of_ble_eq_true rfl) dL_law_1507 (fun r G1 h => ok_X10_nearest  h) fun r1507 G1507 => ?_
                                                                                    refine J_icmp_eq (tgt := 2166) hX dL_law_1510 rfl ?_ ?_
                                                                                    · refine J_iinc (lv' := [(3, .int (v3 + (6 : Int32))), (0, .ref b), (1, .ref (AD Y 0)), (2, .ref (AD Y 186))]) 3 hX dL_law_2166 rfl ci_6 (Nat.le_of_ble_eq_true rfl) rfl ?_
                                                                                      refine J_goto (tgt := 18) hX dL_law_2169 rfl ?_
                                                                                      refine J_sub (lv' := [(0, .ref b), (1, .ref (AD Y 0)), (2, .ref (AD Y 186)), (3, .int (v3 + (6 : Int32)))]) [1, 2, 3, 0] rfl ?_
                                                                                      exact hk18 (v3 + (6 : Int32)) G1507
                                                                                    · refine J_iconst hX dL_law_1513 ci_0 ?_
                                                                                      exact J_retZ hR (by decide) dL_law_1514
                                                                                  · refine J_case (fun ht33_39 => ?_) (fun ht33_39 => ?_)
                                                                                    · refine J_tswIn (off := 1482) (tgt := 1515) hX dL_law_33 (by rw [ht33_39]; decide) (by rw [ht33_39]; decide) (by rw [ht33_39]; decide +kernel) rfl ?_
                                                                                      refine J_aload_n 1 hX dL_law_1515 fz1 rfl ?_
                                                                                      refine J_aload_n 0 hX dL_law_1516 fz0 rfl ?_
                                                                                      refine J_iload_n 3 hX dL_law_1517 fz3 rfl ?_
                                                                                      refine J_iconst hX dL_law_1518 ci_1 ?_
                                                                                      refine J_iadd hX dL_law_1519 ?_
                                                                                      refine J_sld hX hSc dL_law_1520 ?_
                                                                                      refine J_aload_n 0 hX dL_law_1521 fz0 rfl ?_
                                                                                      refine J_iload_n 3 hX dL_law_1522 fz3 rfl ?_
                                                                                      refine J_iconst hX dL_law_1523 ci_2 ?_
                                                                                      refine J_iadd hX dL_law_1524 ?_
                                                                                      refine J_sld hX hSc dL_law_1525 ?_
                                                                                      refine J_aload_n 0 hX dL_law_1526 fz0 rfl ?_
                                                                                      refine J_iload_n 3 hX dL_law_1527 fz3 rfl ?_
                                                                                      refine J_iconst hX dL_law_1528 ci_3 ?_
                                                                                      refine J_iadd hX dL_law_1529 ?_
                                                                                      refine J_sld hX hSc dL_law_1530 ?_
                                                                                      refine J_aload_n 0 hX dL_law_1531 fz0 rfl ?_
                                                                                      refine J_iload_n 3 hX dL_law_1532 fz3 rfl ?_
                                                                                      refine J_iconst hX dL_law_1533 ci_4 ?_
                                                                                      refine J_iadd hX dL_law_1534 ?_
                                                                                      refine J_sld hX hSc dL_law_1535 ?_
                                                                                      refine J_callVI (As := [.int (xs (v3 + (1 : Int32)).toNatClampNeg), .int (xs (v3 + (2 : Int32)).toNatClampNeg), .int (xs (v3 + (3 : Int32)).toNatClampNeg), .int (xs (v3 + (4 : Int32)).toNatClampNeg)]) (st := []) (b := 0) hX mv_L_175 sk_0 rfl rfl rfl (Nat.le_of_ble_eq_true rfl) (by omega) (Nat.le_of_ble_eq_true rfl) dL_law_1536 (fun r G1 h => ok_X9_slow  h) fun r1536 G1536 => ?_
                                                                                      refine J_aload_n 2 hX dL_law_1539 fz2 rfl ?_
                                                                                      refine J_aload_n 0 hX dL_law_1540 fz0 rfl ?_
                                                                                      refine J_iload_n 3 hX dL_law_1541 fz3 rfl ?_
                                                                                      refine J_iconst hX dL_law_1542 ci_1 ?_
                                                                                      refine J_iadd hX dL_law_1543 ?_
                                                                                      refine J_sld hX hSc dL_law_1544 ?_
                                                                                      refine J_aload_n 0 hX dL_law_1545 fz0 rfl ?_
                                                                                      refine J_iload_n 3 hX dL_law_1546 fz3 rfl ?_
                                                                                      refine J_iconst hX dL_law_1547 ci_2 ?_
                                                                                      refine J_iadd hX dL_law_1548 ?_
                                                                                      refine J_sld hX hSc dL_law_1549 ?_
                                                                                      refine J_aload_n 0 hX dL_law_1550 fz0 rfl ?_
                                                                                      refine J_iload_n 3 hX dL_law_1551 fz3 rfl ?_
                                                                                      refine J_iconst hX dL_law_1552 ci_3 ?_
                                                                                      refine J_iadd hX dL_law_1553 ?_
                                                                                      refine J_sld hX hSc dL_law_1554 ?_
                                                                                      refine J_aload_n 0 hX dL_law_1555 fz0 rfl ?_
                                                                                      refine J_iload_n 3 hX dL_law_1556 fz3 rfl ?_
                                                                                      refine J_iconst hX dL_law_1557 ci_4 ?_
                                                                                      refine J_iadd hX dL_law_1558 ?_
                                                                                      refine J_sld hX hSc dL_law_1559 ?_
                                                                                      refine J_callVI (As := [.int (xs (v3 + (1 : Int32)).toNatClampNeg), .int (xs (v3 + (2 : Int32)).toNatClampNeg), .int (xs (v3 + (3 : Int32)).toNatClampNeg), .int (xs (v3 + (4 : Int32)).toNatClampNeg)]) (st := [.int r1536]) (b := 186) hX mv_L_178 sk_186 rfl rfl rfl (Nat.le_of_ble_eq_true rfl) (by omega) (Nat.le_of_ble_eq_true rfl) dL_law_1560 (fun r G1 h => ok_X10_slow  h) fun r1560 G1560 => ?_
                                                                                      refine J_icmp_eq (tgt := 2166) hX dL_law_1563 rfl ?_ ?_
                                                                                      · refine J_iinc (lv' := [(3, .int (v3 + (6 : Int32))), (0, .ref b), (1, .ref (AD Y 0)), (2, .ref (AD Y 186))]) 3 hX dL_law_2166 rfl ci_6 (Nat.le_of_ble_eq_true rfl) rfl ?_
                                                                                        refine J_goto (tgt := 18) hX dL_law_2169 rfl ?_
                                                                                        refine J_sub (lv' := [(0, .ref b), (1, .ref (AD Y 0)), (2, .ref (AD Y 186)), (3, .int (v3 + (6 : Int32)))]) [1, 2, 3, 0] rfl ?_
                                                                                        exact hk18 (v3 + (6 : Int32)) G1560
                                                                                      · refine J_iconst hX dL_law_1566 ci_0 ?_
                                                                                        exact J_retZ hR (by decide) dL_law_1567
                                                                                    · refine J_case (fun ht33_40 => ?_) (fun ht33_40 => ?_)
                                                                                      · refine J_tswIn (off := 1535) (tgt := 1568) hX dL_law_33 (by rw [ht33_40]; decide) (by rw [ht33_40]; decide) (by rw [ht33_40]; decide +kernel) rfl ?_
                                                                                        refine J_aload_n 1 hX dL_law_1568 fz1 rfl ?_
                                                                                        refine J_aload_n 0 hX dL_law_1569 fz0 rfl ?_
                                                                                        refine J_iload_n 3 hX dL_law_1570 fz3 rfl ?_
                                                                                        refine J_iconst hX dL_law_1571 ci_1 ?_
                                                                                        refine J_iadd hX dL_law_1572 ?_
                                                                                        refine J_sld hX hSc dL_law_1573 ?_
                                                                                        refine J_aload_n 0 hX dL_law_1574 fz0 rfl ?_
                                                                                        refine J_iload_n 3 hX dL_law_1575 fz3 rfl ?_
                                                                                        refine J_iconst hX dL_law_1576 ci_2 ?_
                                                                                        refine J_iadd hX dL_law_1577 ?_
                                                                                        refine J_sld hX hSc dL_law_1578 ?_
                                                                                        refine J_callVI (As := [.int (xs (v3 + (1 : Int32)).toNatClampNeg), .int (xs (v3 + (2 : Int32)).toNatClampNeg)]) (st := []) (b := 0) hX mv_L_179 sk_0 rfl rfl rfl (Nat.le_of_ble_eq_true rfl) (by omega) (Nat.le_of_ble_eq_true rfl) dL_law_1579 (fun r G1 h => ok_X9_race  h) fun r1579 G1579 => ?_
                                                                                        refine J_aload_n 2 hX dL_law_1582 fz2 rfl ?_
                                                                                        refine J_aload_n 0 hX dL_law_1583 fz0 rfl ?_
                                                                                        refine J_iload_n 3 hX dL_law_1584 fz3 rfl ?_
                                                                                        refine J_iconst hX dL_law_1585 ci_1 ?_
                                                                                        refine J_iadd hX dL_law_1586 ?_
                                                                                        refine J_sld hX hSc dL_law_1587 ?_
                                                                                        refine J_aload_n 0 hX dL_law_1588 fz0 rfl ?_
                                                                                        refine J_iload_n 3 hX dL_law_1589 fz3 rfl ?_
                                                                                        refine J_iconst hX dL_law_1590 ci_2 ?_
                                                                                        refine J_iadd hX dL_law_1591 ?_
                                                                                        refine J_sld hX hSc dL_law_1592 ?_
                                                                                        refine J_callVI (As := [.int (xs (v3 + (1 : Int32)).toNatClampNeg), .int (xs (v3 + (2 : Int32)).toNatClampNeg)]) (st := [.int r1579]) (b := 186) hX mv_L_182 sk_186 rfl rfl rfl (Nat.le_of_ble_eq_true rfl) (by omega) (Nat.le_of_ble_eq_true rfl) dL_law_1593 (fun r G1 h => ok_X10_race  h) fun r1593 G1593 => ?_
                                                                                        refine J_icmp_eq (tgt := 2166) hX dL_law_1596 rfl ?_ ?_
                                                                                        · refine J_iinc (lv' := [(3, .int (v3 + (6 : Int32))), (0, .ref b), (1, .ref (AD Y 0)), (2, .ref (AD Y 186))]) 3 hX dL_law_2166 rfl ci_6 (Nat.le_of_ble_eq_true rfl) rfl ?_
                                                                                          refine J_goto (tgt := 18) hX dL_law_2169 rfl ?_
                                                                                          refine J_sub (lv' := [(0, .ref b), (1, .ref (AD Y 0)), (2, .ref (AD Y 186)), (3, .int (v3 + (6 : Int32)))]) [1, 2, 3, 0] rfl ?_
                                                                                          exact hk18 (v3 + (6 : Int32)) G1593
                                                                                        · refine J_iconst hX dL_law_1599 ci_0 ?_
                                                                                          exact J_retZ hR (by decide) dL_law_1600
                                                                                      · refine J_case (fun ht33_41 => ?_) (fun ht33_41 => ?_)
                                                                                        · refine J_tswIn (off := 1568) (tgt := 1601) hX dL_law_33 (by rw [ht33_41]; decide) (by rw [ht33_41]; decide) (by rw [ht33_41]; decide +kernel) rfl ?_
                                                                                          refine J_aload_n 1 hX dL_law_1601 fz1 rfl ?_
                                                                                          refine J_aload_n 0 hX dL_law_1602 fz0 rfl ?_
                                                                                          refine J_iload_n 3 hX dL_law_1603 fz3 rfl ?_
                                                                                          refine J_iconst hX dL_law_1604 ci_1 ?_
                                                                                          refine J_iadd hX dL_law_1605 ?_
                                                                                          refine J_sld hX hSc dL_law_1606 ?_
                                                                                          refine J_aload_n 0 hX dL_law_1607 fz0 rfl ?_
                                                                                          refine J_iload_n 3 hX dL_law_1608 fz3 rfl ?_
                                                                                          refine J_iconst hX dL_law_1609 ci_2 ?_
                                                                                          refine J_iadd hX dL_law_1610 ?_
                                                                                          refine J_sld hX hSc dL_law_1611 ?_
                                                                                          refine J_callVI (As := [.int (xs (v3 + (1 : Int32)).toNatClampNeg), .int (xs (v3 + (2 : Int32)).toNatClampNeg)]) (st := []) (b := 0) hX mv_L_183 sk_0 rfl rfl rfl (Nat.le_of_ble_eq_true rfl) (by omega) (Nat.le_of_ble_eq_true rfl) dL_law_1612 (fun r G1 h => ok_X9_share  h) fun r1612 G1612 => ?_
                                                                                          refine J_aload_n 2 hX dL_law_1615 fz2 rfl ?_
                                                                                          refine J_aload_n 0 hX dL_law_1616 fz0 rfl ?_
                                                                                          refine J_iload_n 3 hX dL_law_1617 fz3 rfl ?_
                                                                                          refine J_iconst hX dL_law_1618 ci_1 ?_
                                                                                          refine J_iadd hX dL_law_1619 ?_
                                                                                          refine J_sld hX hSc dL_law_1620 ?_
                                                                                          refine J_aload_n 0 hX dL_law_1621 fz0 rfl ?_
                                                                                          refine J_iload_n 3 hX dL_law_1622 fz3 rfl ?_
                                                                                          refine J_iconst hX dL_law_1623 ci_2 ?_
                                                                                          refine J_iadd hX dL_law_1624 ?_
                                                                                          refine J_sld hX hSc dL_law_1625 ?_
                                                                                          refine J_callVI (As := [.int (xs (v3 + (1 : Int32)).toNatClampNeg), .int (xs (v3 + (2 : Int32)).toNatClampNeg)]) (st := [.int r1612]) (b := 186) hX mv_L_186 sk_186 rfl rfl rfl (Nat.le_of_ble_eq_true rfl) (by omega) (Nat.le_of_ble_eq_true rfl) dL_law_1626 (fun r G1 h => ok_X10_share  h) fun r1626 G1626 => ?_
                                                                                          refine J_icmp_eq (tgt := 2166) hX dL_law_1629 rfl ?_ ?_
                                                                                          · refine J_iinc (lv' := [(3, .int (v3 + (6 : Int32))), (0, .ref b), (1, .ref (AD Y 0)), (2, .ref (AD Y 186))]) 3 hX dL_law_2166 rfl ci_6 (Nat.le_of_ble_eq_true rfl) rfl ?_
                                                                                            refine J_goto (tgt := 18) hX dL_law_2169 rfl ?_
                                                                                            refine J_sub (lv' := [(0, .ref b), (1, .ref (AD Y 0)), (2, .ref (AD Y 186)), (3, .int (v3 + (6 : Int32)))]) [1, 2, 3, 0] rfl ?_
                                                                                            exact hk18 (v3 + (6 : Int32)) G1626
                                                                                          · refine J_iconst hX dL_law_1632 ci_0 ?_
                                                                                            exact J_retZ hR (by decide) dL_law_1633
                                                                                        · refine J_case (fun ht33_42 => ?_) (fun ht33_42 => ?_)
                                                                                          · refine J_tswIn (off := 1601) (tgt := 1634) hX dL_law_33 (by rw [ht33_42]; decide) (by rw [ht33_42]; decide) (by rw [ht33_42]; decide +kernel) rfl ?_
                                                                                            refine J_aload_n 1 hX dL_law_1634 fz1 rfl ?_
                                                                                            refine J_aload_n 0 hX dL_law_1635 fz0 rfl ?_
                                                                                            refine J_iload_n 3 hX dL_law_1636 fz3 rfl ?_
                                                                                            refine J_iconst hX dL_law_1637 ci_1 ?_
                                                                                            refine J_iadd hX dL_law_1638 ?_
                                                                                            refine J_sld hX hSc dL_law_1639 ?_
                                                                                            refine J_aload_n 0 hX dL_law_1640 fz0 rfl ?_
                                                                                            refine J_iload_n 3 hX dL_law_1641 fz3 rfl ?_
                                                                                            refine J_iconst hX dL_law_1642 ci_2 ?_
                                                                                            refine J_iadd hX dL_law_1643 ?_
                                                                                            refine J_sld hX hSc dL_law_1644 ?_
                                                                                            refine J_aload_n 0 hX dL_law_1645 fz0 rfl ?_
                                                                                            refine J_iload_n 3 hX dL_law_1646 fz3 rfl ?_
                                                                                            refine J_iconst hX dL_law_1647 ci_3 ?_
                                                                                            refine J_iadd hX dL_law_1648 ?_
                                                                                            refine J_sld hX hSc dL_law_1649 ?_
                                                                                            refine J_callVJ (As := [.int (xs (v3 + (1 : Int32)).toNatClampNeg), .int (xs (v3 + (2 : Int32)).toNatClampNeg), .int (xs (v3 + (3 : Int32)).toNatClampNeg)]) (st := []) (b := 0) hX mv_L_187 sk_0 rfl rfl rfl (Nat.le_of_ble_eq_true rfl) (by omega) (Nat.le_of_ble_eq_true rfl) dL_law_1650 (fun r G1 h => ok_X9_chance  h) fun r1650 G1650 => ?_
                                                                                            refine J_aload_n 2 hX dL_law_1653 fz2 rfl ?_
                                                                                            refine J_aload_n 0 hX dL_law_1654 fz0 rfl ?_
                                                                                            refine J_iload_n 3 hX dL_law_1655 fz3 rfl ?_
                                                                                            refine J_iconst hX dL_law_1656 ci_1 ?_
                                                                                            refine J_iadd hX dL_law_1657 ?_
                                                                                            refine J_sld hX hSc dL_law_1658 ?_
                                                                                            refine J_aload_n 0 hX dL_law_1659 fz0 rfl ?_
                                                                                            refine J_iload_n 3 hX dL_law_1660 fz3 rfl ?_
                                                                                            refine J_iconst hX dL_law_1661 ci_2 ?_
                                                                                            refine J_iadd hX dL_law_1662 ?_
                                                                                            refine J_sld hX hSc dL_law_1663 ?_
                                                                                            refine J_aload_n 0 hX dL_law_1664 fz0 rfl ?_
                                                                                            refine J_iload_n 3 hX dL_law_1665 fz3 rfl ?_
                                                                                            refine J_iconst hX dL_law_1666 ci_3 ?_
                                                                                            refine J_iadd hX dL_law_1667 ?_
                                                                                            refine J_sld hX hSc dL_law_1668 ?_
                                                                                            refine J_callVJ (As := [.int (xs (v3 + (1 : Int32)).toNatClampNeg), .int (xs (v3 + (2 : Int32)).toNatClampNeg), .int (xs (v3 + (3 : Int32)).toNatClampNeg)]) (st := [.long r1650]) (b := 186) hX mv_L_191 sk_186 rfl rfl rfl (Nat.le_of_ble_eq_true rfl) (by omega) (Nat.le_of_ble_eq_true rfl) dL_law_1669 (fun r G1 h => ok_X10_chance  h) fun r1669 G1669 => ?_
                                                                                            refine J_lcmp hX dL_law_1672 ?_
                                                                                            refine J_if_eq (tgt := 2166) hX dL_law_1673 rfl ?_ ?_
                                                                                            · refine J_iinc (lv' := [(3, .int (v3 + (6 : Int32))), (0, .ref b), (1, .ref (AD Y 0)), (2, .ref (AD Y 186))]) 3 hX dL_law_2166 rfl ci_6 (Nat.le_of_ble_eq_true rfl) rfl ?_
                                                                                              refine J_goto (tgt := 18) hX dL_law_2169 rfl ?_
                                                                                              refine J_sub (lv' := [(0, .ref b), (1, .ref (AD Y 0)), (2, .ref (AD Y 186)), (3, .int (v3 + (6 : Int32)))]) [1, 2, 3, 0] rfl ?_
                                                                                              exact hk18 (v3 + (6 : Int32)) G1669
                                                                                            · refine J_iconst hX dL_law_1676 ci_0 ?_
                                                                                              exact J_retZ hR (by decide) dL_law_1677
                                                                                          · refine J_case (fun ht33_43 => ?_) (fun ht33_43 => ?_)
                                                                                            · refine J_tswIn (off := 1645) (tgt := 1678) hX dL_law_33 (by rw [ht33_43]; decide) (by rw [ht33_43]; decide) (by rw [ht33_43]; decide +kernel) rfl ?_
                                                                                              refine J_aload_n 1 hX dL_law_1678 fz1 rfl ?_
                                                                                              refine J_aload_n 0 hX dL_law_1679 fz0 rfl ?_
                                                                                              refine J_iload_n 3 hX dL_law_1680 fz3 rfl ?_
                                                                                              refine J_iconst hX dL_law_1681 ci_1 ?_
                                                                                              refine J_iadd hX dL_law_1682 ?_
                                                                                              refine J_sld hX hSc dL_law_1683 ?_
                                                                                              refine J_aload_n 0 hX dL_law_1684 fz0 rfl ?_
                                                                                              refine J_iload_n 3 hX dL_law_1685 fz3 rfl ?_
                                                                                              refine J_iconst hX dL_law_1686 ci_2 ?_
                                                                                              refine J_iadd hX dL_law_1687 ?_
                                                                                              refine J_sld hX hSc dL_law_1688 ?_
                                                                                              refine J_aload_n 0 hX dL_law_1689 fz0 rfl ?_
                                                                                              refine J_iload_n 3 hX dL_law_1690 fz3 rfl ?_
                                                                                              refine J_iconst hX dL_law_1691 ci_3 ?_
                                                                                              refine J_iadd hX dL_law_1692 ?_
                                                                                              refine J_sld hX hSc dL_law_1693 ?_
                                                                                              refine J_callVJ (As := [.int (xs (v3 + (1 : Int32)).toNatClampNeg), .int (xs (v3 + (2 : Int32)).toNatClampNeg), .int (xs (v3 + (3 : Int32)).toNatClampNeg)]) (st := []) (b := 0) hX mv_L_192 sk_0 rfl rfl rfl (Nat.le_of_ble_eq_true rfl) (by omega) (Nat.le_of_ble_eq_true rfl) dL_law_1694 (fun r G1 h => ok_X9_some  h) fun r1694 G1694 => ?_
                                                                                              refine J_aload_n 2 hX dL_law_1697 fz2 rfl ?_
                                                                                              refine J_aload_n 0 hX dL_law_1698 fz0 rfl ?_
                                                                                              refine J_iload_n 3 hX dL_law_1699 fz3 rfl ?_
                                                                                              refine J_iconst hX dL_law_1700 ci_1 ?_
                                                                                              refine J_iadd hX dL_law_1701 ?_
                                                                                              refine J_sld hX hSc dL_law_1702 ?_
                                                                                              refine J_aload_n 0 hX dL_law_1703 fz0 rfl ?_
                                                                                              refine J_iload_n 3 hX dL_law_1704 fz3 rfl ?_
                                                                                              refine J_iconst hX dL_law_1705 ci_2 ?_
                                                                                              refine J_iadd hX dL_law_1706 ?_
                                                                                              refine J_sld hX hSc dL_law_1707 ?_
                                                                                              refine J_aload_n 0 hX dL_law_1708 fz0 rfl ?_
                                                                                              refine J_iload_n 3 hX dL_law_1709 fz3 rfl ?_
                                                                                              refine J_iconst hX dL_law_1710 ci_3 ?_
                                                                                              refine J_iadd hX dL_law_1711 ?_
                                                                                              refine J_sld hX hSc dL_law_1712 ?_
                                                                                              refine J_callVJ (As := [.int (xs (v3 + (1 : Int32)).toNatClampNeg), .int (xs (v3 + (2 : Int32)).toNatClampNeg), .int (xs (v3 + (3 : Int32)).toNatClampNeg)]) (st := [.long r1694]) (b := 186) hX mv_L_195 sk_186 rfl rfl rfl (Nat.le_of_ble_eq_true rfl) (by omega) (Nat.le_of_ble_eq_true rfl) dL_law_1713 (fun r G1 h => ok_X10_some  h) fun r1713 G1713 => ?_
                                                                                              refine J_lcmp hX dL_law_1716 ?_
                                                                                              refine J_if_eq (tgt := 2166) hX dL_law_1717 rfl ?_ ?_
                                                                                              · refine J_iinc (lv' := [(3, .int (v3 + (6 : Int32))), (0, .ref b), (1, .ref (AD Y 0)), (2, .ref (AD Y 186))]) 3 hX dL_law_2166 rfl ci_6 (Nat.le_of_ble_eq_true rfl) rfl ?_
                                                                                                refine J_goto (tgt := 18) hX dL_law_2169 rfl ?_
                                                                                                refine J_sub (lv' := [(0, .ref b), (1, .ref (AD Y 0)), (2, .ref (AD Y 186)), (3, .int (v3 + (6 : Int32)))]) [1, 2, 3, 0] rfl ?_
                                                                                                exact hk18 (v3 + (6 : Int32)) G1713
                                                                                              · refine J_iconst hX dL_law_1720 ci_0 ?_
                                                                                                exact J_retZ hR (by decide) dL_law_1721
                                                                                            · refine J_case (fun ht33_44 => ?_) (fun ht33_44 => ?_)
                                                                                              · refine J_tswIn (off := 1689) (tgt := 1722) hX dL_law_33 (by rw [ht33_44]; decide) (by rw [ht33_44]; decide) (by rw [ht33_44]; decide +kernel) rfl ?_
                                                                                                refine J_aload_n 1 hX dL_law_1722 fz1 rfl ?_
                                                                                                refine J_aload_n 0 hX dL_law_1723 fz0 rfl ?_
                                                                                                refine J_iload_n 3 hX dL_law_1724 fz3 rfl ?_
                                                                                                refine J_iconst hX dL_law_1725 ci_1 ?_
                                                                                                refine J_iadd hX dL_law_1726 ?_
                                                                                                refine J_sld hX hSc dL_law_1727 ?_
                                                                                                refine J_aload_n 0 hX dL_law_1728 fz0 rfl ?_
                                                                                                refine J_iload_n 3 hX dL_law_1729 fz3 rfl ?_
                                                                                                refine J_iconst hX dL_law_1730 ci_2 ?_
                                                                                                refine J_iadd hX dL_law_1731 ?_
                                                                                                refine J_sld hX hSc dL_law_1732 ?_
                                                                                                refine J_aload_n 0 hX dL_law_1733 fz0 rfl ?_
                                                                                                refine J_iload_n 3 hX dL_law_1734 fz3 rfl ?_
                                                                                                refine J_iconst hX dL_law_1735 ci_3 ?_
                                                                                                refine J_iadd hX dL_law_1736 ?_
                                                                                                refine J_sld hX hSc dL_law_1737 ?_
                                                                                                refine J_callVJ (As := [.int (xs (v3 + (1 : Int32)).toNatClampNeg), .int (xs (v3 + (2 : Int32)).toNatClampNeg), .int (xs (v3 + (3 : Int32)).toNatClampNeg)]) (st := []) (b := 0) hX mv_L_196 sk_0 rfl rfl rfl (Nat.le_of_ble_eq_true rfl) (by omega) (Nat.le_of_ble_eq_true rfl) dL_law_1738 (fun r G1 h => ok_X9_just  h) fun r1738 G1738 => ?_
                                                                                                refine J_aload_n 2 hX dL_law_1741 fz2 rfl ?_
                                                                                                refine J_aload_n 0 hX dL_law_1742 fz0 rfl ?_
                                                                                                refine J_iload_n 3 hX dL_law_1743 fz3 rfl ?_
                                                                                                refine J_iconst hX dL_law_1744 ci_1 ?_
                                                                                                refine J_iadd hX dL_law_1745 ?_
                                                                                                refine J_sld hX hSc dL_law_1746 ?_
                                                                                                refine J_aload_n 0 hX dL_law_1747 fz0 rfl ?_
                                                                                                refine J_iload_n 3 hX dL_law_1748 fz3 rfl ?_
                                                                                                refine J_iconst hX dL_law_1749 ci_2 ?_
                                                                                                refine J_iadd hX dL_law_1750 ?_
                                                                                                refine J_sld hX hSc dL_law_1751 ?_
                                                                                                refine J_aload_n 0 hX dL_law_1752 fz0 rfl ?_
                                                                                                refine J_iload_n 3 hX dL_law_1753 fz3 rfl ?_
                                                                                                refine J_iconst hX dL_law_1754 ci_3 ?_
                                                                                                refine J_iadd hX dL_law_1755 ?_
                                                                                                refine J_sld hX hSc dL_law_1756 ?_
                                                                                                refine J_callVJ (As := [.int (xs (v3 + (1 : Int32)).toNatClampNeg), .int (xs (v3 + (2 : Int32)).toNatClampNeg), .int (xs (v3 + (3 : Int32)).toNatClampNeg)]) (st := [.long r1738]) (b := 186) hX mv_L_199 sk_186 rfl rfl rfl (Nat.le_of_ble_eq_true rfl) (by omega) (Nat.le_of_ble_eq_true rfl) dL_law_1757 (fun r G1 h => ok_X10_just  h) fun r1757 G1757 => ?_
                                                                                                refine J_lcmp hX dL_law_1760 ?_
                                                                                                refine J_if_eq (tgt := 2166) hX dL_law_1761 rfl ?_ ?_
                                                                                                · refine J_iinc (lv' := [(3, .int (v3 + (6 : Int32))), (0, .ref b), (1, .ref (AD Y 0)), (2, .ref (AD Y 186))]) 3 hX dL_law_2166 rfl ci_6 (Nat.le_of_ble_eq_true rfl) rfl ?_
                                                                                                  refine J_goto (tgt := 18) hX dL_law_2169 rfl ?_
                                                                                                  refine J_sub (lv' := [(0, .ref b), (1, .ref (AD Y 0)), (2, .ref (AD Y 186)), (3, .int (v3 + (6 : Int32)))]) [1, 2, 3, 0] rfl ?_
                                                                                                  exact hk18 (v3 + (6 : Int32)) G1757
                                                                                                · refine J_iconst hX dL_law_1764 ci_0 ?_
                                                                                                  exact J_retZ hR (by decide) dL_law_1765
                                                                                              · refine J_case (fun ht33_45 => ?_) (fun ht33_45 => ?_)
                                                                                                · refine J_tswIn (off := 1733) (tgt := 1766) hX dL_law_33 (by rw [ht33_45]; decide) (by rw [ht33_45]; decide) (by rw [ht33_45]; decide +kernel) rfl ?_
                                                                                                  refine J_aload_n 1 hX dL_law_1766 fz1 rfl ?_
                                                                                                  refine J_aload_n 0 hX dL_law_1767 fz0 rfl ?_
                                                                                                  refine J_iload_n 3 hX dL_law_1768 fz3 rfl ?_
                                                                                                  refine J_iconst hX dL_law_1769 ci_1 ?_
                                                                                                  refine J_iadd hX dL_law_1770 ?_
                                                                                                  refine J_sld hX hSc dL_law_1771 ?_
                                                                                                  refine J_aload_n 0 hX dL_law_1772 fz0 rfl ?_
                                                                                                  refine J_iload_n 3 hX dL_law_1773 fz3 rfl ?_
                                                                                                  refine J_iconst hX dL_law_1774 ci_2 ?_
                                                                                                  refine J_iadd hX dL_law_1775 ?_
                                                                                                  refine J_sld hX hSc dL_law_1776 ?_
                                                                                                  refine J_aload_n 0 hX dL_law_1777 fz0 rfl ?_
                                                                                                  refine J_iload_n 3 hX dL_law_1778 fz3 rfl ?_
                                                                                                  refine J_iconst hX dL_law_1779 ci_3 ?_
                                                                                                  refine J_iadd hX dL_law_1780 ?_
                                                                                                  refine J_sld hX hSc dL_law_1781 ?_
                                                                                                  refine J_callVI (As := [.int (xs (v3 + (1 : Int32)).toNatClampNeg), .int (xs (v3 + (2 : Int32)).toNatClampNeg), .int (xs (v3 + (3 : Int32)).toNatClampNeg)]) (st := []) (b := 0) hX mv_L_200 sk_0 rfl rfl rfl (Nat.le_of_ble_eq_true rfl) (by omega) (Nat.le_of_ble_eq_true rfl) dL_law_1782 (fun r G1 h => ok_X9_likely  h) fun r1782 G1782 => ?_
                                                                                                  refine J_aload_n 2 hX dL_law_1785 fz2 rfl ?_
                                                                                                  refine J_aload_n 0 hX dL_law_1786 fz0 rfl ?_
                                                                                                  refine J_iload_n 3 hX dL_law_1787 fz3 rfl ?_
                                                                                                  refine J_iconst hX dL_law_1788 ci_1 ?_
                                                                                                  refine J_iadd hX dL_law_1789 ?_
                                                                                                  refine J_sld hX hSc dL_law_1790 ?_
                                                                                                  refine J_aload_n 0 hX dL_law_1791 fz0 rfl ?_
                                                                                                  refine J_iload_n 3 hX dL_law_1792 fz3 rfl ?_
                                                                                                  refine J_iconst hX dL_law_1793 ci_2 ?_
                                                                                                  refine J_iadd hX dL_law_1794 ?_
                                                                                                  refine J_sld hX hSc dL_law_1795 ?_
                                                                                                  refine J_aload_n 0 hX dL_law_1796 fz0 rfl ?_
                                                                                                  refine J_iload_n 3 hX dL_law_1797 fz3 rfl ?_
                                                                                                  refine J_iconst hX dL_law_1798 ci_3 ?_
                                                                                                  refine J_iadd hX dL_law_1799 ?_
                                                                                                  refine J_sld hX hSc dL_law_1800 ?_
                                                                                                  refine J_callVI (As := [.int (xs (v3 + (1 : Int32)).toNatClampNeg), .int (xs (v3 + (2 : Int32)).toNatClampNeg), .int (xs (v3 + (3 : Int32)).toNatClampNeg)]) (st := [.int r1782]) (b := 186) hX mv_L_203 sk_186 rfl rfl rfl (Nat.le_of_ble_eq_true rfl) (by omega) (Nat.le_of_ble_eq_true rfl) dL_law_1801 (fun r G1 h => ok_X10_likely  h) fun r1801 G1801 => ?_
                                                                                                  refine J_icmp_eq (tgt := 2166) hX dL_law_1804 rfl ?_ ?_
                                                                                                  · refine J_iinc (lv' := [(3, .int (v3 + (6 : Int32))), (0, .ref b), (1, .ref (AD Y 0)), (2, .ref (AD Y 186))]) 3 hX dL_law_2166 rfl ci_6 (Nat.le_of_ble_eq_true rfl) rfl ?_
                                                                                                    refine J_goto (tgt := 18) hX dL_law_2169 rfl ?_
                                                                                                    refine J_sub (lv' := [(0, .ref b), (1, .ref (AD Y 0)), (2, .ref (AD Y 186)), (3, .int (v3 + (6 : Int32)))]) [1, 2, 3, 0] rfl ?_
                                                                                                    exact hk18 (v3 + (6 : Int32)) G1801
                                                                                                  · refine J_iconst hX dL_law_1807 ci_0 ?_
                                                                                                    exact J_retZ hR (by decide) dL_law_1808
                                                                                                · refine J_case (fun ht33_46 => ?_) (fun ht33_46 => ?_)
                                                                                                  · refine J_tswIn (off := 1776) (tgt := 1809) hX dL_law_33 (by rw [ht33_46]; decide) (by rw [ht33_46]; decide) (by rw [ht33_46]; decide +kernel) rfl ?_
                                                                                                    refine J_aload_n 1 hX dL_law_1809 fz1 rfl ?_
                                                                                                    refine J_aload_n 0 hX dL_law_1810 fz0 rfl ?_
                                                                                                    refine J_iload_n 3 hX dL_law_1811 fz3 rfl ?_
                                                                                                    refine J_iconst hX dL_law_1812 ci_1 ?_
                                                                                                    refine J_iadd hX dL_law_1813 ?_
                                                                                                    refine J_sld hX hSc dL_law_1814 ?_
                                                                                                    refine J_aload_n 0 hX dL_law_1815 fz0 rfl ?_
                                                                                                    refine J_iload_n 3 hX dL_law_1816 fz3 rfl ?_
                                                                                                    refine J_iconst hX dL_law_1817 ci_2 ?_
                                                                                                    refine J_iadd hX dL_law_1818 ?_
                                                                                                    refine J_sld hX hSc dL_law_1819 ?_
                                                                                                    refine J_callVI (As := [.int (xs (v3 + (1 : Int32)).toNatClampNeg), .int (xs (v3 + (2 : Int32)).toNatClampNeg)]) (st := []) (b := 0) hX mv_L_204 sk_0 rfl rfl rfl (Nat.le_of_ble_eq_true rfl) (by omega) (Nat.le_of_ble_eq_true rfl) dL_law_1820 (fun r G1 h => ok_X9_mean  h) fun r1820 G1820 => ?_
                                                                                                    refine J_aload_n 2 hX dL_law_1823 fz2 rfl ?_
                                                                                                    refine J_aload_n 0 hX dL_law_1824 fz0 rfl ?_
                                                                                                    refine J_iload_n 3 hX dL_law_1825 fz3 rfl ?_
                                                                                                    refine J_iconst hX dL_law_1826 ci_1 ?_
                                                                                                    refine J_iadd hX dL_law_1827 ?_
                                                                                                    refine J_sld hX hSc dL_law_1828 ?_
                                                                                                    refine J_aload_n 0 hX dL_law_1829 fz0 rfl ?_
                                                                                                    refine J_iload_n 3 hX dL_law_1830 fz3 rfl ?_
                                                                                                    refine J_iconst hX dL_law_1831 ci_2 ?_
                                                                                                    refine J_iadd hX dL_law_1832 ?_
                                                                                                    refine J_sld hX hSc dL_law_1833 ?_
                                                                                                    refine J_callVI (As := [.int (xs (v3 + (1 : Int32)).toNatClampNeg), .int (xs (v3 + (2 : Int32)).toNatClampNeg)]) (st := [.int r1820]) (b := 186) hX mv_L_207 sk_186 rfl rfl rfl (Nat.le_of_ble_eq_true rfl) (by omega) (Nat.le_of_ble_eq_true rfl) dL_law_1834 (fun r G1 h => ok_X10_mean  h) fun r1834 G1834 => ?_
                                                                                                    refine J_icmp_eq (tgt := 2166) hX dL_law_1837 rfl ?_ ?_
                                                                                                    · refine J_iinc (lv' := [(3, .int (v3 + (6 : Int32))), (0, .ref b), (1, .ref (AD Y 0)), (2, .ref (AD Y 186))]) 3 hX dL_law_2166 rfl ci_6 (Nat.le_of_ble_eq_true rfl) rfl ?_
                                                                                                      refine J_goto (tgt := 18) hX dL_law_2169 rfl ?_
                                                                                                      refine J_sub (lv' := [(0, .ref b), (1, .ref (AD Y 0)), (2, .ref (AD Y 186)), (3, .int (v3 + (6 : Int32)))]) [1, 2, 3, 0] rfl ?_
                                                                                                      exact hk18 (v3 + (6 : Int32)) G1834
                                                                                                    · refine J_iconst hX dL_law_1840 ci_0 ?_
                                                                                                      exact J_retZ hR (by decide) dL_law_1841
                                                                                                  · refine J_case (fun ht33_47 => ?_) (fun ht33_47 => ?_)
                                                                                                    · refine J_tswIn (off := 1809) (tgt := 1842) hX dL_law_33 (by rw [ht33_47]; decide) (by rw [ht33_47]; decide) (by rw [ht33_47]; decide +kernel) rfl ?_
                                                                                                      refine J_aload_n 1 hX dL_law_1842 fz1 rfl ?_
                                                                                                      refine J_aload_n 0 hX dL_law_1843 fz0 rfl ?_
                                                                                                      refine J_iload_n 3 hX dL_law_1844 fz3 rfl ?_
                                                                                                      refine J_iconst hX dL_law_1845 ci_1 ?_
                                                                                                      refine J_iadd hX dL_law_1846 ?_
                                                                                                      refine J_sld hX hSc dL_law_1847 ?_
                                                                                                      refine J_aload_n 0 hX dL_law_1848 fz0 rfl ?_
                                                                                                      refine J_iload_n 3 hX dL_law_1849 fz3 rfl ?_
                                                                                                      refine J_iconst hX dL_law_1850 ci_2 ?_
                                                                                                      refine J_iadd hX dL_law_1851 ?_
                                                                                                      refine J_sld hX hSc dL_law_1852 ?_
                                                                                                      refine J_aload_n 0 hX dL_law_1853 fz0 rfl ?_
                                                                                                      refine J_iload_n 3 hX dL_law_1854 fz3 rfl ?_
                                                                                                      refine J_iconst hX dL_law_1855 ci_3 ?_
                                                                                                      refine J_iadd hX dL_law_1856 ?_
                                                                                                      refine J_sld hX hSc dL_law_1857 ?_
                                                                                                      refine J_aload_n 0 hX dL_law_1858 fz0 rfl ?_
                                                                                                      refine J_iload_n 3 hX dL_law_1859 fz3 rfl ?_
                                                                                                      refine J_iconst hX dL_law_1860 ci_4 ?_
                                                                                                      refine J_iadd hX dL_law_1861 ?_
                                                                                                      refine J_sld hX hSc dL_law_1862 ?_
                                                                                                      refine J_callVI (As := [.int (xs (v3 + (1 : Int32)).toNatClampNeg), .int (xs (v3 + (2 : Int32)).toNatClampNeg), .int (xs (v3 + (3 : Int32)).toNatClampNeg), .int (xs (v3 + (4 : Int32)).toNatClampNeg)]) (st := []) (b := 0) hX mv_L_208 sk_0 rfl rfl rfl (Nat.le_of_ble_eq_true rfl) (by omega) (Nat.le_of_ble_eq_true rfl) dL_law_1863 (fun r G1 h => ok_X9_evenings  h) fun r1863 G1863 => ?_
                                                                                                      refine J_aload_n 2 hX dL_law_1866 fz2 rfl ?_
                                                                                                      refine J_aload_n 0 hX dL_law_1867 fz0 rfl ?_
                                                                                                      refine J_iload_n 3 hX dL_law_1868 fz3 rfl ?_
                                                                                                      refine J_iconst hX dL_law_1869 ci_1 ?_
                                                                                                      refine J_iadd hX dL_law_1870 ?_
                                                                                                      refine J_sld hX hSc dL_law_1871 ?_
                                                                                                      refine J_aload_n 0 hX dL_law_1872 fz0 rfl ?_
                                                                                                      refine J_iload_n 3 hX dL_law_1873 fz3 rfl ?_
                                                                                                      refine J_iconst hX dL_law_1874 ci_2 ?_
                                                                                                      refine J_iadd hX dL_law_1875 ?_
                                                                                                      refine J_sld hX hSc dL_law_1876 ?_
                                                                                                      refine J_aload_n 0 hX dL_law_1877 fz0 rfl ?_
                                                                                                      refine J_iload_n 3 hX dL_law_1878 fz3 rfl ?_
                                                                                                      refine J_iconst hX dL_law_1879 ci_3 ?_
                                                                                                      refine J_iadd hX dL_law_1880 ?_
                                                                                                      refine J_sld hX hSc dL_law_1881 ?_
                                                                                                      refine J_aload_n 0 hX dL_law_1882 fz0 rfl ?_
                                                                                                      refine J_iload_n 3 hX dL_law_1883 fz3 rfl ?_
                                                                                                      refine J_iconst hX dL_law_1884 ci_4 ?_
                                                                                                      refine J_iadd hX dL_law_1885 ?_
                                                                                                      refine J_sld hX hSc dL_law_1886 ?_
                                                                                                      refine J_callVI (As := [.int (xs (v3 + (1 : Int32)).toNatClampNeg), .int (xs (v3 + (2 : Int32)).toNatClampNeg), .int (xs (v3 + (3 : Int32)).toNatClampNeg), .int (xs (v3 + (4 : Int32)).toNatClampNeg)]) (st := [.int r1863]) (b := 186) hX mv_L_211 sk_186 rfl rfl rfl (Nat.le_of_ble_eq_true rfl) (by omega) (Nat.le_of_ble_eq_true rfl) dL_law_1887 (fun r G1 h => ok_X10_evenings  h) fun r1887 G1887 => ?_
                                                                                                      refine J_icmp_eq (tgt := 2166) hX dL_law_1890 rfl ?_ ?_
                                                                                                      · refine J_iinc (lv' := [(3, .int (v3 + (6 : Int32))), (0, .ref b), (1, .ref (AD Y 0)), (2, .ref (AD Y 186))]) 3 hX dL_law_2166 rfl ci_6 (Nat.le_of_ble_eq_true rfl) rfl ?_
                                                                                                        refine J_goto (tgt := 18) hX dL_law_2169 rfl ?_
                                                                                                        refine J_sub (lv' := [(0, .ref b), (1, .ref (AD Y 0)), (2, .ref (AD Y 186)), (3, .int (v3 + (6 : Int32)))]) [1, 2, 3, 0] rfl ?_
                                                                                                        exact hk18 (v3 + (6 : Int32)) G1887
                                                                                                      · refine J_iconst hX dL_law_1893 ci_0 ?_
                                                                                                        exact J_retZ hR (by decide) dL_law_1894
                                                                                                    · refine J_case (fun ht33_48 => ?_) (fun ht33_48 => ?_)
                                                                                                      · refine J_tswIn (off := 1862) (tgt := 1895) hX dL_law_33 (by rw [ht33_48]; decide) (by rw [ht33_48]; decide) (by rw [ht33_48]; decide +kernel) rfl ?_
                                                                                                        refine J_aload_n 1 hX dL_law_1895 fz1 rfl ?_
                                                                                                        refine J_aload_n 0 hX dL_law_1896 fz0 rfl ?_
                                                                                                        refine J_iload_n 3 hX dL_law_1897 fz3 rfl ?_
                                                                                                        refine J_iconst hX dL_law_1898 ci_1 ?_
                                                                                                        refine J_iadd hX dL_law_1899 ?_
                                                                                                        refine J_sld hX hSc dL_law_1900 ?_
                                                                                                        refine J_callVI (As := [.int (xs (v3 + (1 : Int32)).toNatClampNeg)]) (st := []) (b := 0) hX mv_L_212 sk_0 rfl rfl rfl (Nat.le_of_ble_eq_true rfl) (by omega) (Nat.le_of_ble_eq_true rfl) dL_law_1901 (fun r G1 h => ok_X9_judge  h) fun r1901 G1901 => ?_
                                                                                                        refine J_aload_n 2 hX dL_law_1904 fz2 rfl ?_
                                                                                                        refine J_aload_n 0 hX dL_law_1905 fz0 rfl ?_
                                                                                                        refine J_iload_n 3 hX dL_law_1906 fz3 rfl ?_
                                                                                                        refine J_iconst hX dL_law_1907 ci_1 ?_
                                                                                                        refine J_iadd hX dL_law_1908 ?_
                                                                                                        refine J_sld hX hSc dL_law_1909 ?_
                                                                                                        refine J_callVI (As := [.int (xs (v3 + (1 : Int32)).toNatClampNeg)]) (st := [.int r1901]) (b := 186) hX mv_L_215 sk_186 rfl rfl rfl (Nat.le_of_ble_eq_true rfl) (by omega) (Nat.le_of_ble_eq_true rfl) dL_law_1910 (fun r G1 h => ok_X10_judge  h) fun r1910 G1910 => ?_
                                                                                                        refine J_icmp_eq (tgt := 2166) hX dL_law_1913 rfl ?_ ?_
                                                                                                        · refine J_iinc (lv' := [(3, .int (v3 + (6 : Int32))), (0, .ref b), (1, .ref (AD Y 0)), (2, .ref (AD Y 186))]) 3 hX dL_law_2166 rfl ci_6 (Nat.le_of_ble_eq_true rfl) rfl ?_
                                                                                                          refine J_goto (tgt := 18) hX dL_law_2169 rfl ?_
                                                                                                          refine J_sub (lv' := [(0, .ref b), (1, .ref (AD Y 0)), (2, .ref (AD Y 186)), (3, .int (v3 + (6 : Int32)))]) [1, 2, 3, 0] rfl ?_
                                                                                                          exact hk18 (v3 + (6 : Int32)) G1910
                                                                                                        · refine J_iconst hX dL_law_1916 ci_0 ?_
                                                                                                          exact J_retZ hR (by decide) dL_law_1917
                                                                                                      · refine J_case (fun ht33_49 => ?_) (fun ht33_49 => ?_)
                                                                                                        · refine J_tswIn (off := 1885) (tgt := 1918) hX dL_law_33 (by rw [ht33_49]; decide) (by rw [ht33_49]; decide) (by rw [ht33_49]; decide +kernel) rfl ?_
                                                                                                          refine J_aload_n 1 hX dL_law_1918 fz1 rfl ?_
                                                                                                          refine J_aload_n 0 hX dL_law_1919 fz0 rfl ?_
                                                                                                          refine J_iload_n 3 hX dL_law_1920 fz3 rfl ?_
                                                                                                          refine J_iconst hX dL_law_1921 ci_1 ?_
                                                                                                          refine J_iadd hX dL_law_1922 ?_
                                                                                                          refine J_sld hX hSc dL_law_1923 ?_
                                                                                                          refine J_callVI (As := [.int (xs (v3 + (1 : Int32)).toNatClampNeg)]) (st := []) (b := 0) hX mv_L_216 sk_0 rfl rfl rfl (Nat.le_of_ble_eq_true rfl) (by omega) (Nat.le_of_ble_eq_true rfl) dL_law_1924 (fun r G1 h => ok_X9_count  h) fun r1924 G1924 => ?_
                                                                                                          refine J_aload_n 2 hX dL_law_1927 fz2 rfl ?_
                                                                                                          refine J_aload_n 0 hX dL_law_1928 fz0 rfl ?_
                                                                                                          refine J_iload_n 3 hX dL_law_1929 fz3 rfl ?_
                                                                                                          refine J_iconst hX dL_law_1930 ci_1 ?_
                                                                                                          refine J_iadd hX dL_law_1931 ?_
                                                                                                          refine J_sld hX hSc dL_law_1932 ?_
                                                                                                          refine J_callVI (As := [.int (xs (v3 + (1 : Int32)).toNatClampNeg)]) (st := [.int r1924]) (b := 186) hX mv_L_219 sk_186 rfl rfl rfl (Nat.le_of_ble_eq_true rfl) (by omega) (Nat.le_of_ble_eq_true rfl) dL_law_1933 (fun r G1 h => ok_X10_count  h) fun r1933 G1933 => ?_
                                                                                                          refine J_icmp_eq (tgt := 2166) hX dL_law_1936 rfl ?_ ?_
                                                                                                          · refine J_iinc (lv' := [(3, .int (v3 + (6 : Int32))), (0, .ref b), (1, .ref (AD Y 0)), (2, .ref (AD Y 186))]) 3 hX dL_law_2166 rfl ci_6 (Nat.le_of_ble_eq_true rfl) rfl ?_
                                                                                                            refine J_goto (tgt := 18) hX dL_law_2169 rfl ?_
                                                                                                            refine J_sub (lv' := [(0, .ref b), (1, .ref (AD Y 0)), (2, .ref (AD Y 186)), (3, .int (v3 + (6 : Int32)))]) [1, 2, 3, 0] rfl ?_
                                                                                                            exact hk18 (v3 + (6 : Int32)) G1933
                                                                                                          · refine J_iconst hX dL_law_1939 ci_0 ?_
                                                                                                            exact J_retZ hR (by decide) dL_law_1940
                                                                                                        · refine J_case (fun ht33_50 => ?_) (fun ht33_50 => ?_)
                                                                                                          · refine J_tswIn (off := 1908) (tgt := 1941) hX dL_law_33 (by rw [ht33_50]; decide) (by rw [ht33_50]; decide) (by rw [ht33_50]; decide +kernel) rfl ?_
                                                                                                            refine J_aload_n 1 hX dL_law_1941 fz1 rfl ?_
                                                                                                            refine J_aload_n 0 hX dL_law_1942 fz0 rfl ?_
                                                                                                            refine J_iload_n 3 hX dL_law_1943 fz3 rfl ?_
                                                                                                            refine J_iconst hX dL_law_1944 ci_1 ?_
                                                                                                            refine J_iadd hX dL_law_1945 ?_
                                                                                                            refine J_sld hX hSc dL_law_1946 ?_
                                                                                                            refine J_callVI (As := [.int (xs (v3 + (1 : Int32)).toNatClampNeg)]) (st := []) (b := 0) hX mv_L_220 sk_0 rfl rfl rfl (Nat.le_of_ble_eq_true rfl) (by omega) (Nat.le_of_ble_eq_true rfl) dL_law_1947 (fun r G1 h => ok_X9_keep  h) fun r1947 G1947 => ?_
                                                                                                            refine J_aload_n 2 hX dL_law_1950 fz2 rfl ?_
                                                                                                            refine J_aload_n 0 hX dL_law_1951 fz0 rfl ?_
                                                                                                            refine J_iload_n 3 hX dL_law_1952 fz3 rfl ?_
                                                                                                            refine J_iconst hX dL_law_1953 ci_1 ?_
                                                                                                            refine J_iadd hX dL_law_1954 ?_
                                                                                                            refine J_sld hX hSc dL_law_1955 ?_
                                                                                                            refine J_callVI (As := [.int (xs (v3 + (1 : Int32)).toNatClampNeg)]) (st := [.int r1947]) (b := 186) hX mv_L_223 sk_186 rfl rfl rfl (Nat.le_of_ble_eq_true rfl) (by omega) (Nat.le_of_ble_eq_true rfl) dL_law_1956 (fun r G1 h => ok_X10_keep  h) fun r1956 G1956 => ?_
                                                                                                            refine J_icmp_eq (tgt := 2166) hX dL_law_1959 rfl ?_ ?_
                                                                                                            · refine J_iinc (lv' := [(3, .int (v3 + (6 : Int32))), (0, .ref b), (1, .ref (AD Y 0)), (2, .ref (AD Y 186))]) 3 hX dL_law_2166 rfl ci_6 (Nat.le_of_ble_eq_true rfl) rfl ?_
                                                                                                              refine J_goto (tgt := 18) hX dL_law_2169 rfl ?_
                                                                                                              refine J_sub (lv' := [(0, .ref b), (1, .ref (AD Y 0)), (2, .ref (AD Y 186)), (3, .int (v3 + (6 : Int32)))]) [1, 2, 3, 0] rfl ?_
                                                                                                              exact hk18 (v3 + (6 : Int32)) G1956
                                                                                                            · refine J_iconst hX dL_law_1962 ci_0 ?_
                                                                                                              exact J_retZ hR (by decide) dL_law_1963
                                                                                                          · refine J_case (fun ht33_51 => ?_) (fun ht33_51 => ?_)
                                                                                                            · refine J_tswIn (off := 1931) (tgt := 1964) hX dL_law_33 (by rw [ht33_51]; decide) (by rw [ht33_51]; decide) (by rw [ht33_51]; decide +kernel) rfl ?_
                                                                                                              refine J_aload_n 1 hX dL_law_1964 fz1 rfl ?_
                                                                                                              refine J_aload_n 0 hX dL_law_1965 fz0 rfl ?_
                                                                                                              refine J_iload_n 3 hX dL_law_1966 fz3 rfl ?_
                                                                                                              refine J_iconst hX dL_law_1967 ci_1 ?_
                                                                                                              refine J_iadd hX dL_law_1968 ?_
                                                                                                              refine J_sld hX hSc dL_law_1969 ?_
                                                                                                              refine J_callVI (As := [.int (xs (v3 + (1 : Int32)).toNatClampNeg)]) (st := []) (b := 0) hX mv_L_224 sk_0 rfl rfl rfl (Nat.le_of_ble_eq_true rfl) (by omega) (Nat.le_of_ble_eq_true rfl) dL_law_1970 (fun r G1 h => ok_X9_back  h) fun r1970 G1970 => ?_
                                                                                                              refine J_aload_n 2 hX dL_law_1973 fz2 rfl ?_
                                                                                                              refine J_aload_n 0 hX dL_law_1974 fz0 rfl ?_
                                                                                                              refine J_iload_n 3 hX dL_law_1975 fz3 rfl ?_
                                                                                                              refine J_iconst hX dL_law_1976 ci_1 ?_
                                                                                                              refine J_iadd hX dL_law_1977 ?_
                                                                                                              refine J_sld hX hSc dL_law_1978 ?_
                                                                                                              refine J_callVI (As := [.int (xs (v3 + (1 : Int32)).toNatClampNeg)]) (st := [.int r1970]) (b := 186) hX mv_L_227 sk_186 rfl rfl rfl (Nat.le_of_ble_eq_true rfl) (by omega) (Nat.le_of_ble_eq_true rfl) dL_law_1979 (fun r G1 h => ok_X10_back  h) fun r1979 G1979 => ?_
                                                                                                              refine J_icmp_eq (tgt := 2166) hX dL_law_1982 rfl ?_ ?_
                                                                                                              · refine J_iinc (lv' := [(3, .int (v3 + (6 : Int32))), (0, .ref b), (1, .ref (AD Y 0)), (2, .ref (AD Y 186))]) 3 hX dL_law_2166 rfl ci_6 (Nat.le_of_ble_eq_true rfl) rfl ?_
                                                                                                                refine J_goto (tgt := 18) hX dL_law_2169 rfl ?_
                                                                                                                refine J_sub (lv' := [(0, .ref b), (1, .ref (AD Y 0)), (2, .ref (AD Y 186)), (3, .int (v3 + (6 : Int32)))]) [1, 2, 3, 0] rfl ?_
                                                                                                                exact hk18 (v3 + (6 : Int32)) G1979
                                                                                                              · refine J_iconst hX dL_law_1985 ci_0 ?_
                                                                                                                exact J_retZ hR (by decide) dL_law_1986
                                                                                                            · refine J_case (fun ht33_52 => ?_) (fun ht33_52 => ?_)
                                                                                                              · refine J_tswIn (off := 1954) (tgt := 1987) hX dL_law_33 (by rw [ht33_52]; decide) (by rw [ht33_52]; decide) (by rw [ht33_52]; decide +kernel) rfl ?_
                                                                                                                refine J_aload_n 1 hX dL_law_1987 fz1 rfl ?_
                                                                                                                refine J_aload_n 0 hX dL_law_1988 fz0 rfl ?_
                                                                                                                refine J_iload_n 3 hX dL_law_1989 fz3 rfl ?_
                                                                                                                refine J_iconst hX dL_law_1990 ci_1 ?_
                                                                                                                refine J_iadd hX dL_law_1991 ?_
                                                                                                                refine J_sld hX hSc dL_law_1992 ?_
                                                                                                                refine J_aload_n 0 hX dL_law_1993 fz0 rfl ?_
                                                                                                                refine J_iload_n 3 hX dL_law_1994 fz3 rfl ?_
                                                                                                                refine J_iconst hX dL_law_1995 ci_2 ?_
                                                                                                                refine J_iadd hX dL_law_1996 ?_
                                                                                                                refine J_sld hX hSc dL_law_1997 ?_
                                                                                                                refine J_aload_n 0 hX dL_law_1998 fz0 rfl ?_
                                                                                                                refine J_iload_n 3 hX dL_law_1999 fz3 rfl ?_
                                                                                                                refine J_iconst hX dL_law_2000 ci_3 ?_
                                                                                                                refine J_iadd hX dL_law_2001 ?_
                                                                                                                refine J_sld hX hSc dL_law_2002 ?_
                                                                                                                refine J_callVI (As := [.int (xs (v3 + (1 : Int32)).toNatClampNeg), .int (xs (v3 + (2 : Int32)).toNatClampNeg), .int (xs (v3 + (3 : Int32)).toNatClampNeg)]) (st := []) (b := 0) hX mv_L_228 sk_0 rfl rfl rfl (Nat.le_of_ble_eq_true rfl) (by omega) (Nat.le_of_ble_eq_true rfl) dL_law_2003 (fun r G1 h => ok_X9_row  h) fun r2003 G2003 => ?_
                                                                                                                refine J_aload_n 2 hX dL_law_2006 fz2 rfl ?_
                                                                                                                refine J_aload_n 0 hX dL_law_2007 fz0 rfl ?_
                                                                                                                refine J_iload_n 3 hX dL_law_2008 fz3 rfl ?_
                                                                                                                refine J_iconst hX dL_law_2009 ci_1 ?_
                                                                                                                refine J_iadd hX dL_law_2010 ?_
                                                                                                                refine J_sld hX hSc dL_law_2011 ?_
                                                                                                                refine J_aload_n 0 hX dL_law_2012 fz0 rfl ?_
                                                                                                                refine J_iload_n 3 hX dL_law_2013 fz3 rfl ?_
                                                                                                                refine J_iconst hX dL_law_2014 ci_2 ?_
                                                                                                                refine J_iadd hX dL_law_2015 ?_
                                                                                                                refine J_sld hX hSc dL_law_2016 ?_
                                                                                                                refine J_aload_n 0 hX dL_law_2017 fz0 rfl ?_
                                                                                                                refine J_iload_n 3 hX dL_law_2018 fz3 rfl ?_
                                                                                                                refine J_iconst hX dL_law_2019 ci_3 ?_
                                                                                                                refine J_iadd hX dL_law_2020 ?_
                                                                                                                refine J_sld hX hSc dL_law_2021 ?_
                                                                                                                refine J_callVI (As := [.int (xs (v3 + (1 : Int32)).toNatClampNeg), .int (xs (v3 + (2 : Int32)).toNatClampNeg), .int (xs (v3 + (3 : Int32)).toNatClampNeg)]) (st := [.int r2003]) (b := 186) hX mv_L_231 sk_186 rfl rfl rfl (Nat.le_of_ble_eq_true rfl) (by omega) (Nat.le_of_ble_eq_true rfl) dL_law_2022 (fun r G1 h => ok_X10_row  h) fun r2022 G2022 => ?_
                                                                                                                refine J_icmp_eq (tgt := 2166) hX dL_law_2025 rfl ?_ ?_
                                                                                                                · refine J_iinc (lv' := [(3, .int (v3 + (6 : Int32))), (0, .ref b), (1, .ref (AD Y 0)), (2, .ref (AD Y 186))]) 3 hX dL_law_2166 rfl ci_6 (Nat.le_of_ble_eq_true rfl) rfl ?_
                                                                                                                  refine J_goto (tgt := 18) hX dL_law_2169 rfl ?_
                                                                                                                  refine J_sub (lv' := [(0, .ref b), (1, .ref (AD Y 0)), (2, .ref (AD Y 186)), (3, .int (v3 + (6 : Int32)))]) [1, 2, 3, 0] rfl ?_
                                                                                                                  exact hk18 (v3 + (6 : Int32)) G2022
                                                                                                                · refine J_iconst hX dL_law_2028 ci_0 ?_
                                                                                                                  exact J_retZ hR (by decide) dL_law_2029
                                                                                                              · refine J_case (fun ht33_53 => ?_) (fun ht33_53 => ?_)
                                                                                                                · refine J_tswIn (off := 1997) (tgt := 2030) hX dL_law_33 (by rw [ht33_53]; decide) (by rw [ht33_53]; decide) (by rw [ht33_53]; decide +kernel) rfl ?_
                                                                                                                  refine J_aload_n 1 hX dL_law_2030 fz1 rfl ?_
                                                                                                                  refine J_aload_n 0 hX dL_law_2031 fz0 rfl ?_
                                                                                                                  refine J_iload_n 3 hX dL_law_2032 fz3 rfl ?_
                                                                                                                  refine J_iconst hX dL_law_2033 ci_1 ?_
                                                                                                                  refine J_iadd hX dL_law_2034 ?_
                                                                                                                  refine J_sld hX hSc dL_law_2035 ?_
                                                                                                                  refine J_aload_n 0 hX dL_law_2036 fz0 rfl ?_
                                                                                                                  refine J_iload_n 3 hX dL_law_2037 fz3 rfl ?_
                                                                                                                  refine J_iconst hX dL_law_2038 ci_2 ?_
                                                                                                                  refine J_iadd hX dL_law_2039 ?_
                                                                                                                  refine J_sld hX hSc dL_law_2040 ?_
                                                                                                                  refine J_aload_n 0 hX dL_law_2041 fz0 rfl ?_
                                                                                                                  refine J_iload_n 3 hX dL_law_2042 fz3 rfl ?_
                                                                                                                  refine J_iconst hX dL_law_2043 ci_3 ?_
                                                                                                                  refine J_iadd hX dL_law_2044 ?_
                                                                                                                  refine J_sld hX hSc dL_law_2045 ?_
                                                                                                                  refine J_i2l hX dL_law_2046 ?_
                                                                                                                  refine J_bipush hX dL_law_2047 cb_32 ?_
                                                                                                                  refine J_lshl hX dL_law_2049 ?_
                                                                                                                  refine J_aload_n 0 hX dL_law_2050 fz0 rfl ?_
                                                                                                                  refine J_iload_n 3 hX dL_law_2051 fz3 rfl ?_
                                                                                                                  refine J_iconst hX dL_law_2052 ci_4 ?_
                                                                                                                  refine J_iadd hX dL_law_2053 ?_
                                                                                                                  refine J_sld hX hSc dL_law_2054 ?_
                                                                                                                  refine J_i2l hX dL_law_2055 ?_
                                                                                                                  refine J_ldc2 hX dL_law_2056 ll_L_232 ?_
                                                                                                                  refine J_land hX dL_law_2059 ?_
                                                                                                                  refine J_lor hX dL_law_2060 ?_
                                                                                                                  refine J_callVI (As := [.int (xs (v3 + (1 : Int32)).toNatClampNeg), .int (xs (v3 + (2 : Int32)).toNatClampNeg), .long ((((xs (v3 + (3 : Int32)).toNatClampNeg).toInt64) <<< ((32 : Int32).toInt64 &&& 63)) ||| (((xs (v3 + (4 : Int32)).toNatClampNeg).toInt64) &&& (4294967295 : Int64)))]) (st := []) (b := 0) hX mv_L_234 sk_0 rfl rfl rfl (Nat.le_of_ble_eq_true rfl) (by omega) (Nat.le_of_ble_eq_true rfl) dL_law_2061 (fun r G1 h => ok_X9_write  h) fun r2061 G2061 => ?_
                                                                                                                  refine J_aload_n 2 hX dL_law_2064 fz2 rfl ?_
                                                                                                                  refine J_aload_n 0 hX dL_law_2065 fz0 rfl ?_
                                                                                                                  refine J_iload_n 3 hX dL_law_2066 fz3 rfl ?_
                                                                                                                  refine J_iconst hX dL_law_2067 ci_1 ?_
                                                                                                                  refine J_iadd hX dL_law_2068 ?_
                                                                                                                  refine J_sld hX hSc dL_law_2069 ?_
                                                                                                                  refine J_aload_n 0 hX dL_law_2070 fz0 rfl ?_
                                                                                                                  refine J_iload_n 3 hX dL_law_2071 fz3 rfl ?_
                                                                                                                  refine J_iconst hX dL_law_2072 ci_2 ?_
                                                                                                                  refine J_iadd hX dL_law_2073 ?_
                                                                                                                  refine J_sld hX hSc dL_law_2074 ?_
                                                                                                                  refine J_aload_n 0 hX dL_law_2075 fz0 rfl ?_
                                                                                                                  refine J_iload_n 3 hX dL_law_2076 fz3 rfl ?_
                                                                                                                  refine J_iconst hX dL_law_2077 ci_3 ?_
                                                                                                                  refine J_iadd hX dL_law_2078 ?_
                                                                                                                  refine J_sld hX hSc dL_law_2079 ?_
                                                                                                                  refine J_i2l hX dL_law_2080 ?_
                                                                                                                  refine J_bipush hX dL_law_2081 cb_32 ?_
                                                                                                                  refine J_lshl hX dL_law_2083 ?_
                                                                                                                  refine J_aload_n 0 hX dL_law_2084 fz0 rfl ?_
                                                                                                                  refine J_iload_n 3 hX dL_law_2085 fz3 rfl ?_
                                                                                                                  refine J_iconst hX dL_law_2086 ci_4 ?_
                                                                                                                  refine J_iadd hX dL_law_2087 ?_
                                                                                                                  refine J_sld hX hSc dL_law_2088 ?_
                                                                                                                  refine J_i2l hX dL_law_2089 ?_
                                                                                                                  refine J_ldc2 hX dL_law_2090 ll_L_232 ?_
                                                                                                                  refine J_land hX dL_law_2093 ?_
                                                                                                                  refine J_lor hX dL_law_2094 ?_
                                                                                                                  refine J_callVI (As := [.int (xs (v3 + (1 : Int32)).toNatClampNeg), .int (xs (v3 + (2 : Int32)).toNatClampNeg), .long ((((xs (v3 + (3 : Int32)).toNatClampNeg).toInt64) <<< ((32 : Int32).toInt64 &&& 63)) ||| (((xs (v3 + (4 : Int32)).toNatClampNeg).toInt64) &&& (4294967295 : Int64)))]) (st := [.int r2061]) (b := 186) hX mv_L_238 sk_186 rfl rfl rfl (Nat.le_of_ble_eq_true rfl) (by omega) (Nat.le_of_ble_eq_true rfl) dL_law_2095 (fun r G1 h => ok_X10_write  h) fun r2095 G2095 => ?_
                                                                                                                  refine J_icmp_eq (tgt := 2166) hX dL_law_2098 rfl ?_ ?_
                                                                                                                  · refine J_iinc (lv' := [(3, .int (v3 + (6 : Int32))), (0, .ref b), (1, .ref (AD Y 0)), (2, .ref (AD Y 186))]) 3 hX dL_law_2166 rfl ci_6 (Nat.le_of_ble_eq_true rfl) rfl ?_
                                                                                                                    refine J_goto (tgt := 18) hX dL_law_2169 rfl ?_
                                                                                                                    refine J_sub (lv' := [(0, .ref b), (1, .ref (AD Y 0)), (2, .ref (AD Y 186)), (3, .int (v3 + (6 : Int32)))]) [1, 2, 3, 0] rfl ?_
                                                                                                                    exact hk18 (v3 + (6 : Int32)) G2095
                                                                                                                  · refine J_iconst hX dL_law_2101 ci_0 ?_
                                                                                                                    exact J_retZ hR (by decide) dL_law_2102
                                                                                                                · refine J_case (fun ht33_54 => ?_) (fun ht33_54 => ?_)
                                                                                                                  · refine J_tswIn (off := 2070) (tgt := 2103) hX dL_law_33 (by rw [ht33_54]; decide) (by rw [ht33_54]; decide) (by rw [ht33_54]; decide +kernel) rfl ?_
                                                                                                                    refine J_aload_n 1 hX dL_law_2103 fz1 rfl ?_
                                                                                                                    refine J_aload_n 0 hX dL_law_2104 fz0 rfl ?_
                                                                                                                    refine J_iload_n 3 hX dL_law_2105 fz3 rfl ?_
                                                                                                                    refine J_iconst hX dL_law_2106 ci_1 ?_
                                                                                                                    refine J_iadd hX dL_law_2107 ?_
                                                                                                                    refine J_sld hX hSc dL_law_2108 ?_
                                                                                                                    refine J_aload_n 0 hX dL_law_2109 fz0 rfl ?_
                                                                                                                    refine J_iload_n 3 hX dL_law_2110 fz3 rfl ?_
                                                                                                                    refine J_iconst hX dL_law_2111 ci_2 ?_
                                                                                                                    refine J_iadd hX dL_law_2112 ?_
                                                                                                                    refine J_sld hX hSc dL_law_2113 ?_
                                                                                                                    refine J_aload_n 0 hX dL_law_2114 fz0 rfl ?_
                                                                                                                    refine J_iload_n 3 hX dL_law_2115 fz3 rfl ?_
                                                                                                                    refine J_iconst hX dL_law_2116 ci_3 ?_
                                                                                                                    refine J_iadd hX dL_law_2117 ?_
                                                                                                                    refine J_sld hX hSc dL_law_2118 ?_
                                                                                                                    refine J_aload_n 0 hX dL_law_2119 fz0 rfl ?_
                                                                                                                    refine J_iload_n 3 hX dL_law_2120 fz3 rfl ?_
                                                                                                                    refine J_iconst hX dL_law_2121 ci_4 ?_
                                                                                                                    refine J_iadd hX dL_law_2122 ?_
                                                                                                                    refine J_sld hX hSc dL_law_2123 ?_
                                                                                                                    refine J_aload_n 0 hX dL_law_2124 fz0 rfl ?_
                                                                                                                    refine J_iload_n 3 hX dL_law_2125 fz3 rfl ?_
                                                                                                                    refine J_iconst hX dL_law_2126 ci_5 ?_
                                                                                                                    refine J_iadd hX dL_law_2127 ?_
                                                                                                                    refine J_sld hX hSc dL_law_2128 ?_
                                                                                                                    refine J_callVI (As := [.int (xs (v3 + (1 : Int32)).toNatClampNeg), .int (xs (v3 + (2 : Int32)).toNatClampNeg), .int (xs (v3 + (3 : Int32)).toNatClampNeg), .int (xs (v3 + (4 : Int32)).toNatClampNeg), .int (xs (v3 + (5 : Int32)).toNatClampNeg)]) (st := []) (b := 0) hX mv_L_239 sk_0 rfl rfl rfl (Nat.le_of_ble_eq_true rfl) (by omega) (Nat.le_of_ble_eq_true rfl) dL_law_2129 (fun r G1 h => ok_X9_paste  h) fun r2129 G2129 => ?_
                                                                                                                    refine J_aload_n 2 hX dL_law_2132 fz2 rfl ?_
                                                                                                                    refine J_aload_n 0 hX dL_law_2133 fz0 rfl ?_
                                                                                                                    refine J_iload_n 3 hX dL_law_2134 fz3 rfl ?_
                                                                                                                    refine J_iconst hX dL_law_2135 ci_1 ?_
                                                                                                                    refine J_iadd hX dL_law_2136 ?_
                                                                                                                    refine J_sld hX hSc dL_law_2137 ?_
                                                                                                                    refine J_aload_n 0 hX dL_law_2138 fz0 rfl ?_
                                                                                                                    refine J_iload_n 3 hX dL_law_2139 fz3 rfl ?_
                                                                                                                    refine J_iconst hX dL_law_2140 ci_2 ?_
                                                                                                                    refine J_iadd hX dL_law_2141 ?_
                                                                                                                    refine J_sld hX hSc dL_law_2142 ?_
                                                                                                                    refine J_aload_n 0 hX dL_law_2143 fz0 rfl ?_
                                                                                                                    refine J_iload_n 3 hX dL_law_2144 fz3 rfl ?_
                                                                                                                    refine J_iconst hX dL_law_2145 ci_3 ?_
                                                                                                                    refine J_iadd hX dL_law_2146 ?_
                                                                                                                    refine J_sld hX hSc dL_law_2147 ?_
                                                                                                                    refine J_aload_n 0 hX dL_law_2148 fz0 rfl ?_
                                                                                                                    refine J_iload_n 3 hX dL_law_2149 fz3 rfl ?_
                                                                                                                    refine J_iconst hX dL_law_2150 ci_4 ?_
                                                                                                                    refine J_iadd hX dL_law_2151 ?_
                                                                                                                    refine J_sld hX hSc dL_law_2152 ?_
                                                                                                                    refine J_aload_n 0 hX dL_law_2153 fz0 rfl ?_
                                                                                                                    refine J_iload_n 3 hX dL_law_2154 fz3 rfl ?_
                                                                                                                    refine J_iconst hX dL_law_2155 ci_5 ?_
                                                                                                                    refine J_iadd hX dL_law_2156 ?_
                                                                                                                    refine J_sld hX hSc dL_law_2157 ?_
                                                                                                                    refine J_callVI (As := [.int (xs (v3 + (1 : Int32)).toNatClampNeg), .int (xs (v3 + (2 : Int32)).toNatClampNeg), .int (xs (v3 + (3 : Int32)).toNatClampNeg), .int (xs (v3 + (4 : Int32)).toNatClampNeg), .int (xs (v3 + (5 : Int32)).toNatClampNeg)]) (st := [.int r2129]) (b := 186) hX mv_L_242 sk_186 rfl rfl rfl (Nat.le_of_ble_eq_true rfl) (by omega) (Nat.le_of_ble_eq_true rfl) dL_law_2158 (fun r G1 h => ok_X10_paste  h) fun r2158 G2158 => ?_
                                                                                                                    refine J_icmp_eq (tgt := 2166) hX dL_law_2161 rfl ?_ ?_
                                                                                                                    · refine J_iinc (lv' := [(3, .int (v3 + (6 : Int32))), (0, .ref b), (1, .ref (AD Y 0)), (2, .ref (AD Y 186))]) 3 hX dL_law_2166 rfl ci_6 (Nat.le_of_ble_eq_true rfl) rfl ?_
                                                                                                                      refine J_goto (tgt := 18) hX dL_law_2169 rfl ?_
                                                                                                                      refine J_sub (lv' := [(0, .ref b), (1, .ref (AD Y 0)), (2, .ref (AD Y 186)), (3, .int (v3 + (6 : Int32)))]) [1, 2, 3, 0] rfl ?_
                                                                                                                      exact hk18 (v3 + (6 : Int32)) G2158
                                                                                                                    · refine J_iconst hX dL_law_2164 ci_0 ?_
                                                                                                                      exact J_retZ hR (by decide) dL_law_2165
                                                                                                                  · refine J_tswOut (tgt := 2166) hX dL_law_33 (by have e_ht33_0 := ne_toInt ht33_0; rw [show ((0 : Int32).toInt) = 0 from by decide] at e_ht33_0; have e_ht33_1 := ne_toInt ht33_1; rw [show ((1 : Int32).toInt) = 1 from by decide] at e_ht33_1; have e_ht33_2 := ne_toInt ht33_2; rw [show ((2 : Int32).toInt) = 2 from by decide] at e_ht33_2; have e_ht33_3 := ne_toInt ht33_3; rw [show ((3 : Int32).toInt) = 3 from by decide] at e_ht33_3; have e_ht33_4 := ne_toInt ht33_4; rw [show ((4 : Int32).toInt) = 4 from by decide] at e_ht33_4; have e_ht33_5 := ne_toInt ht33_5; rw [show ((5 : Int32).toInt) = 5 from by decide] at e_ht33_5; have e_ht33_6 := ne_toInt ht33_6; rw [show ((6 : Int32).toInt) = 6 from by decide] at e_ht33_6; have e_ht33_7 := ne_toInt ht33_7; rw [show ((7 : Int32).toInt) = 7 from by decide] at e_ht33_7; have e_ht33_8 := ne_toInt ht33_8; rw [show ((8 : Int32).toInt) = 8 from by decide] at e_ht33_8; have e_ht33_9 := ne_toInt ht33_9; rw [show ((9 : Int32).toInt) = 9 from by decide] at e_ht33_9; have e_ht33_10 := ne_toInt ht33_10; rw [show ((10 : Int32).toInt) = 10 from by decide] at e_ht33_10; have e_ht33_11 := ne_toInt ht33_11; rw [show ((11 : Int32).toInt) = 11 from by decide] at e_ht33_11; have e_ht33_12 := ne_toInt ht33_12; rw [show ((12 : Int32).toInt) = 12 from by decide] at e_ht33_12; have e_ht33_13 := ne_toInt ht33_13; rw [show ((13 : Int32).toInt) = 13 from by decide] at e_ht33_13; have e_ht33_14 := ne_toInt ht33_14; rw [show ((14 : Int32).toInt) = 14 from by decide] at e_ht33_14; have e_ht33_15 := ne_toInt ht33_15; rw [show ((15 : Int32).toInt) = 15 from by decide] at e_ht33_15; have e_ht33_16 := ne_toInt ht33_16; rw [show ((16 : Int32).toInt) = 16 from by decide] at e_ht33_16; have e_ht33_17 := ne_toInt ht33_17; rw [show ((17 : Int32).toInt) = 17 from by decide] at e_ht33_17; have e_ht33_18 := ne_toInt ht33_18; rw [show ((18 : Int32).toInt) = 18 from by decide] at e_ht33_18; have e_ht33_19 := ne_toInt ht33_19; rw [show ((19 : Int32).toInt) = 19 from by decide] at e_ht33_19; have e_ht33_20 := ne_toInt ht33_20; rw [show ((20 : Int32).toInt) = 20 from by decide] at e_ht33_20; have e_ht33_21 := ne_toInt ht33_21; rw [show ((21 : Int32).toInt) = 21 from by decide] at e_ht33_21; have e_ht33_22 := ne_toInt ht33_22; rw [show ((22 : Int32).toInt) = 22 from by decide] at e_ht33_22; have e_ht33_23 := ne_toInt ht33_23; rw [show ((23 : Int32).toInt) = 23 from by decide] at e_ht33_23; have e_ht33_24 := ne_toInt ht33_24; rw [show ((24 : Int32).toInt) = 24 from by decide] at e_ht33_24; have e_ht33_25 := ne_toInt ht33_25; rw [show ((25 : Int32).toInt) = 25 from by decide] at e_ht33_25; have e_ht33_26 := ne_toInt ht33_26; rw [show ((26 : Int32).toInt) = 26 from by decide] at e_ht33_26; have e_ht33_27 := ne_toInt ht33_27; rw [show ((27 : Int32).toInt) = 27 from by decide] at e_ht33_27; have e_ht33_28 := ne_toInt ht33_28; rw [show ((28 : Int32).toInt) = 28 from by decide] at e_ht33_28; have e_ht33_29 := ne_toInt ht33_29; rw [show ((29 : Int32).toInt) = 29 from by decide] at e_ht33_29; have e_ht33_30 := ne_toInt ht33_30; rw [show ((30 : Int32).toInt) = 30 from by decide] at e_ht33_30; have e_ht33_31 := ne_toInt ht33_31; rw [show ((31 : Int32).toInt) = 31 from by decide] at e_ht33_31; have e_ht33_32 := ne_toInt ht33_32; rw [show ((32 : Int32).toInt) = 32 from by decide] at e_ht33_32; have e_ht33_33 := ne_toInt ht33_33; rw [show ((33 : Int32).toInt) = 33 from by decide] at e_ht33_33; have e_ht33_34 := ne_toInt ht33_34; rw [show ((34 : Int32).toInt) = 34 from by decide] at e_ht33_34; have e_ht33_35 := ne_toInt ht33_35; rw [show ((35 : Int32).toInt) = 35 from by decide] at e_ht33_35; have e_ht33_36 := ne_toInt ht33_36; rw [show ((36 : Int32).toInt) = 36 from by decide] at e_ht33_36; have e_ht33_37 := ne_toInt ht33_37; rw [show ((37 : Int32).toInt) = 37 from by decide] at e_ht33_37; have e_ht33_38 := ne_toInt ht33_38; rw [show ((38 : Int32).toInt) = 38 from by decide] at e_ht33_38; have e_ht33_39 := ne_toInt ht33_39; rw [show ((39 : Int32).toInt) = 39 from by decide] at e_ht33_39; have e_ht33_40 := ne_toInt ht33_40; rw [show ((40 : Int32).toInt) = 40 from by decide] at e_ht33_40; have e_ht33_41 := ne_toInt ht33_41; rw [show ((41 : Int32).toInt) = 41 from by decide] at e_ht33_41; have e_ht33_42 := ne_toInt ht33_42; rw [show ((42 : Int32).toInt) = 42 from by decide] at e_ht33_42; have e_ht33_43 := ne_toInt ht33_43; rw [show ((43 : Int32).toInt) = 43 from by decide] at e_ht33_43; have e_ht33_44 := ne_toInt ht33_44; rw [show ((44 : Int32).toInt) = 44 from by decide] at e_ht33_44; have e_ht33_45 := ne_toInt ht33_45; rw [show ((45 : Int32).toInt) = 45 from by decide] at e_ht33_45; have e_ht33_46 := ne_toInt ht33_46; rw [show ((46 : Int32).toInt) = 46 from by decide] at e_ht33_46; have e_ht33_47 := ne_toInt ht33_47; rw [show ((47 : Int32).toInt) = 47 from by decide] at e_ht33_47; have e_ht33_48 := ne_toInt ht33_48; rw [show ((48 : Int32).toInt) = 48 from by decide] at e_ht33_48; have e_ht33_49 := ne_toInt ht33_49; rw [show ((49 : Int32).toInt) = 49 from by decide] at e_ht33_49; have e_ht33_50 := ne_toInt ht33_50; rw [show ((50 : Int32).toInt) = 50 from by decide] at e_ht33_50; have e_ht33_51 := ne_toInt ht33_51; rw [show ((51 : Int32).toInt) = 51 from by decide] at e_ht33_51; have e_ht33_52 := ne_toInt ht33_52; rw [show ((52 : Int32).toInt) = 52 from by decide] at e_ht33_52; have e_ht33_53 := ne_toInt ht33_53; rw [show ((53 : Int32).toInt) = 53 from by decide] at e_ht33_53; have e_ht33_54 := ne_toInt ht33_54; rw [show ((54 : Int32).toInt) = 54 from by decide] at e_ht33_54; omega) rfl ?_
                                                                                                                    refine J_iinc (lv' := [(3, .int (v3 + (6 : Int32))), (0, .ref b), (1, .ref (AD Y 0)), (2, .ref (AD Y 186))]) 3 hX dL_law_2166 rfl ci_6 (Nat.le_of_ble_eq_true rfl) rfl ?_
                                                                                                                    refine J_goto (tgt := 18) hX dL_law_2169 rfl ?_
                                                                                                                    refine J_sub (lv' := [(0, .ref b), (1, .ref (AD Y 0)), (2, .ref (AD Y 186)), (3, .int (v3 + (6 : Int32)))]) [1, 2, 3, 0] rfl ?_
                                                                                                                    exact hk18 (v3 + (6 : Int32)) G
  exact K18 FU v3 G hf
