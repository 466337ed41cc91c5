def f_X10_in (v0 : Int64) (v2 : Int64) (v4 : Int64) (G : GM) : Option (Int32 × GM) :=
  if (lg_cmp v0 v2) < 0 then
(some ((0 : Int32), G))
else
(if 0 < (lg_cmp v0 v4) then
(some ((0 : Int32), G))
else
(some ((1 : Int32), G)))
def f_X10_isSlot (v0 : Int32) (G : GM) : Option (Int32 × GM) :=
  ob (f_X10_in (v0.toInt64) (0 : Int64) (3 : Int64) G) fun r6 G6 =>
gd (decide (r6 = 0 ∨ r6 = 1)) (some (r6, G6))
def lp_X10_row_57 (v1 : Int32) (v2 : Int32) (v3 : Int32)   (v4 : Int32) (G : GM) (kc57 : Int32 → GM → Option (Int32 × GM)) : Option (Int32 × GM) :=
  if v3 ≤ v4 then
(some ((0 : Int32), G))
else
(gd (inb (((60 : Int32) * v1) + v4) 240) <| lt (sJ G 189 (((60 : Int32) * v1) + v4).toNatClampNeg (0 : Int64)) fun G75 =>
(kc57 (v4 + (1 : Int32)) G75))
def f_X10_row (v1 : Int32) (v2 : Int32) (v3 : Int32) (G : GM) : Option (Int32 × GM) :=
  lt (sI G 186 0 (0 : Int32)) fun G2 =>
ob (f_X10_isSlot v1 G2) fun r6 G6 =>
if r6 = 0 then
(some ((-2 : Int32), G6))
else
(ob (f_X10_in (v2.toInt64) (0 : Int64) (3 : Int64) G6) fun r18 G18 =>
if r18 = 0 then
(some ((-2 : Int32), G18))
else
(if v3 ≤ (60 : Int32) then
(if 0 ≤ v3 then
(gd (inb v1 4) <| lt (sI G18 187 v1.toNatClampNeg v2) fun G46 =>
gd (inb v1 4) <| lt (sI G46 188 v1.toNatClampNeg v3) fun G53 =>
(wl1 FU (lp_X10_row_57 v1 v2 v3) (0 : Int32) G53))
else
(some ((-3 : Int32), G18)))
else
(some ((-2 : Int32), G18))))
def f_X10_cut (v0 : Int64) (v2 : Int32) (G : GM) : Option (Int64 × GM) :=
  if v2 = 0 then
(some ((((v0.toInt32).toInt8.toInt32).toInt64), G))
else
(if v2 = (1 : Int32) then
(some ((((v0.toInt32).toInt16.toInt32).toInt64), G))
else
(if v2 = (2 : Int32) then
(some (((v0.toInt32).toInt64), G))
else
(some (v0, G))))
def f_X10_write (v1 : Int32) (v2 : Int32) (v3 : Int64) (G : GM) : Option (Int32 × GM) :=
  lt (sI G 186 0 (0 : Int32)) fun G2 =>
ob (f_X10_isSlot v1 G2) fun r6 G6 =>
if r6 = 0 then
(some ((-2 : Int32), G6))
else
(gd (inb v1 4) <|
if (gI G6 187 v1.toNatClampNeg) = (-1 : Int32) then
(some ((-6 : Int32), G6))
else
(gd (inb v1 4) <|
ob (f_X10_in (v2.toInt64) (0 : Int64) (((gI G6 188 v1.toNatClampNeg) - (1 : Int32)).toInt64) G6) fun r40 G40 =>
if r40 = 0 then
(some ((-7 : Int32), G40))
else
(gd (inb v1 4) <|
ob (f_X10_cut v3 (gI G40 187 v1.toNatClampNeg) G40) fun r66 G66 =>
gd (inb (((60 : Int32) * v1) + v2) 240) <| lt (sJ G66 189 (((60 : Int32) * v1) + v2).toNatClampNeg r66) fun G69 =>
some ((0 : Int32), G69))))
def lp_X10_paste_155 (v1 : Int32) (v2 : Int32) (v3 : Int32) (v4 : Int32) (v5 : Int32)   (v6 : Int32) (G : GM) (kc155 : Int32 → GM → Option (Int32 × GM)) : Option (Int32 × GM) :=
  if v5 ≤ v6 then
(some ((0 : Int32), G))
else
(gd (inb v6 60) <|
gd (inb ((((60 : Int32) * v3) + v4) + v6) 240) <| lt (sJ G 189 ((((60 : Int32) * v3) + v4) + v6).toNatClampNeg (gJ G 190 v6.toNatClampNeg)) fun G183 =>
(kc155 (v6 + (1 : Int32)) G183))
def lp_X10_paste_118 (v1 : Int32) (v2 : Int32) (v3 : Int32) (v4 : Int32) (v5 : Int32)   (v6 : Int32) (G : GM) (kc118 : Int32 → GM → Option (Int32 × GM)) : Option (Int32 × GM) :=
  if v5 ≤ v6 then
((wl1 FU (lp_X10_paste_155 v1 v2 v3 v4 v5) (0 : Int32) G))
else
(gd (inb ((((60 : Int32) * v1) + v2) + v6) 240) <|
gd (inb v6 60) <| lt (sJ G 190 v6.toNatClampNeg (gJ G 189 ((((60 : Int32) * v1) + v2) + v6).toNatClampNeg)) fun G145 =>
(kc118 (v6 + (1 : Int32)) G145))
def f_X10_paste (v1 : Int32) (v2 : Int32) (v3 : Int32) (v4 : Int32) (v5 : Int32) (G : GM) : Option (Int32 × GM) :=
  lt (sI G 186 0 (0 : Int32)) fun G2 =>
ob (f_X10_isSlot v1 G2) fun r6 G6 =>
if r6 = 0 then
(some ((-2 : Int32), G6))
else
(ob (f_X10_isSlot v3 G6) fun r13 G13 =>
if r13 = 0 then
(some ((-2 : Int32), G13))
else
(gd (inb v1 4) <|
if (gI G13 187 v1.toNatClampNeg) = (-1 : Int32) then
(some ((-6 : Int32), G13))
else
(gd (inb v3 4) <|
if (gI G13 187 v3.toNatClampNeg) = (-1 : Int32) then
(some ((-6 : Int32), G13))
else
(gd (inb v1 4) <|
gd (inb v3 4) <|
if (gI G13 187 v1.toNatClampNeg) = (gI G13 187 v3.toNatClampNeg) then
(if v2 < 0 then
(some ((-7 : Int32), G13))
else
(if v4 < 0 then
(some ((-7 : Int32), G13))
else
(if v5 < 0 then
(some ((-7 : Int32), G13))
else
(gd (inb v1 4) <|
if 0 < (lg_cmp ((v2.toInt64) + (v5.toInt64)) ((gI G13 188 v1.toNatClampNeg).toInt64)) then
(some ((-7 : Int32), G13))
else
(gd (inb v3 4) <|
if (lg_cmp ((v4.toInt64) + (v5.toInt64)) ((gI G13 188 v3.toNatClampNeg).toInt64)) ≤ 0 then
((wl1 FU (lp_X10_paste_118 v1 v2 v3 v4 v5) (0 : Int32) G13))
else
(some ((-7 : Int32), G13)))))))
else
(some ((-8 : Int32), G13))))))
def lp_X10_four_3 (v1 : Int32)   (v2 : Int32) (G : GM) (kc3 : Int32 → GM → Option (GM)) : Option (GM) :=
  if v2 < 0 then
(some G)
else
(gd (inb (gI G 186 6) 800) <| lt (sI G 191 (gI G 186 6).toNatClampNeg (vp_nar .byte ((v1 >>> (v2 &&& 31)).toInt8.toInt32))) fun G19 =>
lt (sI G19 186 6 ((gI G19 186 6) + (1 : Int32))) fun G27 =>
(kc3 (v2 + (-8 : Int32)) G27))
def f_X10_four (v1 : Int32) (G : GM) : Option (GM) :=
  (wl1 FU (lp_X10_four_3 v1) (24 : Int32) G)
def f_X10_feed (v1 : Int32) (v2 : Int32) (v3 : Int32) (v4 : Int32) (v5 : Int32) (G : GM) : Option (Int32 × GM) :=
  lt (sI G 186 0 (0 : Int32)) fun G2 =>
if ((gI G2 186 6) + (20 : Int32)) ≤ (800 : Int32) then
(ov (f_X10_four v1 G2) fun G22 =>
ov (f_X10_four v2 G22) fun G27 =>
ov (f_X10_four v3 G27) fun G32 =>
ov (f_X10_four v4 G32) fun G38 =>
ov (f_X10_four v5 G38) fun G44 =>
some ((gI G44 186 6), G44))
else
(some ((-1 : Int32), G2))
def f_X10_end (v1 : Int32) (G : GM) : Option (Int32 × GM) :=
  lt (sI G 186 0 (0 : Int32)) fun G2 =>
ob (f_X10_in (v1.toInt64) (0 : Int64) ((gI G2 186 6).toInt64) G2) fun r13 G13 =>
if r13 = 0 then
(some ((-1 : Int32), G13))
else
(lt (sI G13 186 6 v1) fun G23 =>
some (v1, G23))
def f_X10_isByte (v1 : Int32) (v2 : Int32) (v3 : Int32) (G : GM) : Option (Int32 × GM) :=
  if (gI G 186 6) ≤ v1 then
(some ((0 : Int32), G))
else
(gd (inb v1 800) <|
if (gI G 191 v1.toNatClampNeg) < v2 then
(some ((0 : Int32), G))
else
(gd (inb v1 800) <|
if v3 < (gI G 191 v1.toNatClampNeg) then
(some ((0 : Int32), G))
else
(some ((1 : Int32), G))))
def k_X10_next_294  (s0 : Int32)  (G : GM) : Option (GM) :=
  lt (sI G 186 8 s0) fun G294 =>
lt (sI G294 186 7 ((gI G294 186 7) + (1 : Int32))) fun G304 =>
some G304
def k_X10_next_258  (s0 : Int32) (kc208 : GM → Option (GM)) (G : GM) : Option (GM) :=
  lt (sI G 186 10 s0) fun G258 =>
lt (sI G258 186 7 ((gI G258 186 7) + (1 : Int32))) fun G268 =>
(kc208  G268)
def lp_X10_next_208     (G : GM) (kc208 : GM → Option (GM)) : Option (GM) :=
  ob (f_X10_isByte (gI G 186 7) (48 : Int32) (57 : Int32) G) fun r217 G217 =>
if r217 = 0 then
(some G217)
else
(if (gI G217 186 10) ≤ (100000 : Int32) then
(gd (inb (gI G217 186 7) 800) <|
(k_X10_next_258 ((((10 : Int32) * (gI G217 186 10)) + (gI G217 191 (gI G217 186 7).toNatClampNeg)) - (48 : Int32)) kc208 G217))
else
((k_X10_next_258 (1000000 : Int32) kc208 G217)))
def k_X10_next_169  (v1 : Int32) (kc102 : Int32 → GM → Option (GM)) (G : GM) : Option (GM) :=
  lt (sI G 186 7 ((gI G 186 7) + (1 : Int32))) fun G176 =>
(kc102 (v1 + (1 : Int32)) G176)
def k_X10_next_153  (v1 : Int32) (s0 : Int64) (kc102 : Int32 → GM → Option (GM)) (G : GM) : Option (GM) :=
  lt (sJ G 186 11 s0) fun G153 =>
if v1 ≤ (11 : Int32) then
((k_X10_next_169 v1 kc102 G153))
else
(lt (sJ G153 186 11 (-1 : Int64)) fun G166 =>
(k_X10_next_169 v1 kc102 G166))
def lp_X10_next_102    (v1 : Int32) (G : GM) (kc102 : Int32 → GM → Option (GM)) : Option (GM) :=
  ob (f_X10_isByte (gI G 186 7) (97 : Int32) (122 : Int32) G) fun r111 G111 =>
if r111 = 0 then
(some G111)
else
(if v1 ≤ (11 : Int32) then
(gd (inb (gI G111 186 7) 800) <|
(k_X10_next_153 v1 ((((27 : Int64) * (gJ G111 186 11)) + ((gI G111 191 (gI G111 186 7).toNatClampNeg).toInt64)) - (96 : Int64)) kc102 G111))
else
((k_X10_next_153 v1 (-1 : Int64) kc102 G111)))
def k_X10_next_30   (kc0 : GM → Option (GM)) (G : GM) : Option (GM) :=
  lt (sI G 186 7 ((gI G 186 7) + (1 : Int32))) fun G37 =>
(kc0  G37)
def lp_X10_next_0     (G : GM) (kc0 : GM → Option (GM)) : Option (GM) :=
  ob (f_X10_isByte (gI G 186 7) (32 : Int32) (32 : Int32) G) fun r9 G9 =>
if r9 = 0 then
(ob (f_X10_isByte (gI G9 186 7) (10 : Int32) (10 : Int32) G9) fun r24 G24 =>
if r24 = 0 then
(lt (sI G24 186 9 (gI G24 186 7)) fun G48 =>
lt (sI G48 186 10 (0 : Int32)) fun G53 =>
lt (sJ G53 186 11 (0 : Int64)) fun G58 =>
if (gI G58 186 7) = (gI G58 186 6) then
(lt (sI G58 186 8 (0 : Int32)) fun G74 =>
some G74)
else
(ob (f_X10_isByte (gI G58 186 7) (97 : Int32) (122 : Int32) G58) fun r89 G89 =>
if r89 = 0 then
(ob (f_X10_isByte (gI G89 186 7) (48 : Int32) (57 : Int32) G89) fun r197 G197 =>
if r197 = 0 then
(gd (inb (gI G197 186 7) 800) <|
if (gI G197 191 (gI G197 186 7).toNatClampNeg) = (59 : Int32) then
((k_X10_next_294 (3 : Int32) G197))
else
((k_X10_next_294 (4 : Int32) G197)))
else
(lt (sI G197 186 8 (2 : Int32)) fun G205 =>
(wl0 FU (lp_X10_next_208 )  G205)))
else
(lt (sI G89 186 8 (1 : Int32)) fun G97 =>
(wl1 FU (lp_X10_next_102 ) (0 : Int32) G97))))
else
((k_X10_next_30 kc0 G24)))
else
((k_X10_next_30 kc0 G9))
def f_X10_next  (G : GM) : Option (GM) :=
  (wl0 FU (lp_X10_next_0 )  G)
def f_X10_isGood  (G : GM) : Option (Int32 × GM) :=
  if (gI G 186 12) = 0 then
(some ((1 : Int32), G))
else
(some ((0 : Int32), G))
def f_X10_fails (v1 : Int32) (G : GM) : Option (GM) :=
  if (gI G 186 12) = 0 then
(lt (sI G 186 12 v1) fun G10 =>
lt (sI G10 186 13 (gI G10 186 9)) fun G18 =>
some G18)
else
(some G)
def f_X10_is (v1 : Int64) (G : GM) : Option (Int32 × GM) :=
  if (gI G 186 12) = 0 then
(if (gI G 186 8) = (1 : Int32) then
(if (lg_cmp (gJ G 186 11) v1) = 0 then
(some ((1 : Int32), G))
else
(some ((0 : Int32), G)))
else
(some ((0 : Int32), G)))
else
(some ((0 : Int32), G))
def f_X10_takes (v1 : Int64) (G : GM) : Option (Int32 × GM) :=
  ob (f_X10_is v1 G) fun r2 G2 =>
if r2 = 0 then
(some ((0 : Int32), G2))
else
(ov (f_X10_next G2) fun G11 =>
some ((1 : Int32), G11))
def f_X10_asks (v1 : Int64) (G : GM) : Option (GM) :=
  ob (f_X10_takes v1 G) fun r2 G2 =>
if r2 = 0 then
(ov (f_X10_fails (1 : Int32) G2) fun G10 =>
some G10)
else
(some G2)
def f_X10_number (v1 : Int32) (v2 : Int32) (G : GM) : Option (Int32 × GM) :=
  if (gI G 186 12) = 0 then
(if (gI G 186 8) = (2 : Int32) then
(ob (f_X10_in ((gI G 186 10).toInt64) (v1.toInt64) (v2.toInt64) G) fun r33 G33 =>
if r33 = 0 then
(ov (f_X10_fails (2 : Int32) G33) fun G41 =>
some (v1, G41))
else
(lt (gI G33 186 10) fun x50 =>
ov (f_X10_next G33) fun G52 =>
some (x50, G52)))
else
(ov (f_X10_fails (1 : Int32) G) fun G19 =>
some (v1, G19)))
else
(some (v1, G))
def f_X10_number_ (v1 : Int64) (v3 : Int32) (v4 : Int32) (G : GM) : Option (Int32 × GM) :=
  ov (f_X10_asks v1 G) fun G2 =>
ob (f_X10_number v3 v4 G2) fun r9 G9 =>
some (r9, G9)
def k_X10_ends_13    (G : GM) : Option (GM) :=
  if (gI G 186 12) = 0 then
(ov (f_X10_next G) fun G21 =>
some G21)
else
(some G)
def f_X10_ends  (G : GM) : Option (GM) :=
  if (gI G 186 8) = (3 : Int32) then
((k_X10_ends_13 G))
else
(ov (f_X10_fails (1 : Int32) G) fun G10 =>
(k_X10_ends_13 G10))
def f_X10_begins  (G : GM) : Option (GM) :=
  lt (sI G 186 12 (0 : Int32)) fun G2 =>
lt (sI G2 186 13 (-1 : Int32)) fun G7 =>
lt (sI G7 186 7 (0 : Int32)) fun G12 =>
ov (f_X10_next G12) fun G16 =>
some G16
def k_X10_isOver_29  (s0 : Int32)  (G : GM) : Option (GM) :=
  lt (sI G 186 15 s0) fun G29 =>
some G29
def f_X10_isOver  (G : GM) : Option (GM) :=
  lt (sI G 186 6 (0 : Int32)) fun G2 =>
lt (sI G2 186 14 (gI G2 186 12)) fun G10 =>
if (gI G10 186 12) = 0 then
((k_X10_isOver_29 (-1 : Int32) G10))
else
((k_X10_isOver_29 (gI G10 186 13) G10))
def f_X10_fault (v1 : Int32) (G : GM) : Option (Int32 × GM) :=
  lt (sI G 186 0 (0 : Int32)) fun G2 =>
if v1 = 0 then
(some ((gI G2 186 14), G2))
else
(if v1 = (1 : Int32) then
(some ((gI G2 186 15), G2))
else
(some ((-1 : Int32), G2)))
def f_X10_of (v1 : Int32) (v2 : Int32) (G : GM) : Option (Int32 × GM) :=
  gd (inb (((8 : Int32) * v1) + v2) 48) <|
some ((gI G 193 (((8 : Int32) * v1) + v2).toNatClampNeg), G)
def f_X10_numbersOf (v1 : Int32) (G : GM) : Option (Int32 × GM) :=
  ob (f_X10_of v1 (0 : Int32) G) fun r3 G3 =>
ob (f_X10_of v1 (1 : Int32) G3) fun r9 G9 =>
ob (f_X10_of v1 (2 : Int32) G9) fun r16 G16 =>
some (((r3 * r9) * r16), G16)
def lp_X10_plans_135 (rec : Int32 → Int32 → Int32 → Int32 → GM → Option (GM)) (v1 : Int32) (v2 : Int32) (v3 : Int32) (v4 : Int32)   (v5 : Int32) (G : GM) (kc135 : Int32 → GM → Option (GM)) : Option (GM) :=
  ob (f_X10_of v1 (1 : Int32) G) fun r140 G140 =>
if r140 < v5 then
(some G140)
else
(gd (inb v3 5) <|
if (gI G140 201 v3.toNatClampNeg) < v5 then
(some G140)
else
(ob (f_X10_of v1 (1 : Int32) G140) fun r165 G165 =>
ob (f_X10_of v1 (2 : Int32) G165) fun r171 G171 =>
if (r165 * r171) < (v4 + v5) then
(some G171)
else
(gd (inb (((5 : Int32) * v2) + v3) 15) <| lt (sI G171 199 (((5 : Int32) * v2) + v3).toNatClampNeg v5) fun G189 =>
gd (inb v3 5) <|
gd (inb v3 5) <| lt (sI G189 201 v3.toNatClampNeg ((gI G189 201 v3.toNatClampNeg) - v5)) fun G200 =>
ov (rec v1 v2 (v3 + (1 : Int32)) (v4 + v5) G200) fun G212 =>
gd (inb v3 5) <|
gd (inb v3 5) <| lt (sI G212 201 v3.toNatClampNeg ((gI G212 201 v3.toNatClampNeg) + v5)) fun G225 =>
(kc135 (v5 + (1 : Int32)) G225))))
def k_X10_plans_82 (rec : Int32 → Int32 → Int32 → Int32 → GM → Option (GM)) (v1 : Int32) (v2 : Int32) (v3 : Int32) (v4 : Int32)   (G : GM) : Option (GM) :=
  lt (sI G 186 26 ((gI G 186 26) + (1 : Int32))) fun G89 =>
some G89
def lp_X10_plans_55 (rec : Int32 → Int32 → Int32 → Int32 → GM → Option (GM)) (v1 : Int32) (v2 : Int32) (v3 : Int32) (v4 : Int32)   (v5 : Int32) (G : GM) (kc55 : Int32 → GM → Option (GM)) : Option (GM) :=
  if (15 : Int32) ≤ v5 then
((k_X10_plans_82 rec v1 v2 v3 v4 G))
else
(gd (inb v5 15) <|
gd (inb v5 15) <| lt (sI G 200 v5.toNatClampNeg (gI G 199 v5.toNatClampNeg)) fun G75 =>
(kc55 (v5 + (1 : Int32)) G75))
def lp_X10_plans_13 (rec : Int32 → Int32 → Int32 → Int32 → GM → Option (GM)) (v1 : Int32) (v2 : Int32) (v3 : Int32) (v4 : Int32)   (v5 : Int32) (G : GM) (kc13 : Int32 → GM → Option (GM)) : Option (GM) :=
  ob (f_X10_of v1 (3 : Int32) G) fun r18 G18 =>
if r18 ≤ v5 then
(if (gI G18 186 26) = (gI G18 186 27) then
((wl1 FU (lp_X10_plans_55 rec v1 v2 v3 v4) (0 : Int32) G18))
else
((k_X10_plans_82 rec v1 v2 v3 v4 G18)))
else
(gd (inb v5 5) <|
if (gI G18 201 v5.toNatClampNeg) = 0 then
((kc13 (v5 + (1 : Int32)) G18))
else
(some G18))
def fb_X10_plans (rec : Int32 → Int32 → Int32 → Int32 → GM → Option (GM)) (v1 : Int32) (v2 : Int32) (v3 : Int32) (v4 : Int32) (G : GM) : Option (GM) :=
  ob (f_X10_of v1 (0 : Int32) G) fun r4 G4 =>
if v2 = r4 then
((wl1 FU (lp_X10_plans_13 rec v1 v2 v3 v4) (0 : Int32) G4))
else
(ob (f_X10_of v1 (3 : Int32) G4) fun r97 G97 =>
if v3 = r97 then
(ob (f_X10_of v1 (1 : Int32) G97) fun r108 G108 =>
ob (f_X10_of v1 (2 : Int32) G108) fun r114 G114 =>
if v4 = (r108 * r114) then
(ov (rec v1 (v2 + (1 : Int32)) (0 : Int32) (0 : Int32) G114) fun G128 =>
some G128)
else
(some G114))
else
((wl1 FU (lp_X10_plans_135 rec v1 v2 v3 v4) (1 : Int32) G97)))
def f_X10_plans : Nat → Int32 → Int32 → Int32 → Int32 → GM → Option (GM)
  | 0, _, _, _, _, _ => none
  | n + 1, v1, v2, v3, v4, G => fb_X10_plans (f_X10_plans n) v1 v2 v3 v4 G
def lp_X10_planOf_12 (v1 : Int32) (v2 : Int32)   (v3 : Int32) (G : GM) (kc12 : Int32 → GM → Option (GM)) : Option (GM) :=
  if (5 : Int32) ≤ v3 then
(ov (f_X10_plans 25 v1 (0 : Int32) (0 : Int32) (0 : Int32) G) fun G44 =>
some G44)
else
(gd (inb (((5 : Int32) * v1) + v3) 30) <|
gd (inb v3 5) <| lt (sI G 201 v3.toNatClampNeg (gI G 194 (((5 : Int32) * v1) + v3).toNatClampNeg)) fun G32 =>
(kc12 (v3 + (1 : Int32)) G32))
def f_X10_planOf (v1 : Int32) (v2 : Int32) (G : GM) : Option (GM) :=
  lt (sI G 186 26 (0 : Int32)) fun G2 =>
lt (sI G2 186 27 v2) fun G7 =>
(wl1 FU (lp_X10_planOf_12 v1 v2) (0 : Int32) G7)
def lp_X10_isAsSaid_4    (v1 : Int32) (v2 : Int32) (G : GM) (kc4 : Int32 → Int32 → GM → Option (Int32 × GM)) : Option (Int32 × GM) :=
  ob (f_X10_of (4 : Int32) (3 : Int32) G) fun r8 G8 =>
if r8 ≤ v2 then
(ob (f_X10_of (4 : Int32) (3 : Int32) G8) fun r35 G35 =>
if r35 < (2 : Int32) then
(some ((0 : Int32), G35))
else
(ob (f_X10_of (4 : Int32) (3 : Int32) G35) fun r45 G45 =>
ob (f_X10_of (4 : Int32) (2 : Int32) G45) fun r51 G51 =>
if r45 < r51 then
(some ((0 : Int32), G51))
else
(ob (f_X10_numbersOf (4 : Int32) G51) fun r60 G60 =>
if v1 = r60 then
(ov (f_X10_planOf (4 : Int32) (-1 : Int32) G60) fun G71 =>
if (gI G71 186 26) ≤ 0 then
(some ((0 : Int32), G71))
else
(some ((1 : Int32), G71)))
else
(some ((0 : Int32), G60)))))
else
(gd (inb ((20 : Int32) + v2) 30) <|
lt (v1 + (gI G8 194 ((20 : Int32) + v2).toNatClampNeg)) fun x25 =>
(kc4 x25 (v2 + (1 : Int32)) G8))
def f_X10_isAsSaid  (G : GM) : Option (Int32 × GM) :=
  (wl2 FU (lp_X10_isAsSaid_4 ) (0 : Int32) (0 : Int32) G)
def k_X10_first_164    (G : GM) : Option (GM) :=
  ob (f_X10_isGood G) fun r165 G165 =>
if r165 = 0 then
(some G165)
else
(if (gI G165 186 8) = (3 : Int32) then
(ob (f_X10_isAsSaid G165) fun r180 G180 =>
if r180 = 0 then
(ov (f_X10_fails (2 : Int32) G180) fun G188 =>
some G188)
else
(some G180))
else
(some G165))
def k_X10_first_160  (s0 : Int32) (kc64 : Int32 → GM → Option (GM)) (G : GM) : Option (GM) :=
  (kc64 s0 G)
def k_X10_first_105   (kc64 : Int32 → GM → Option (GM)) (G : GM) : Option (GM) :=
  ob (f_X10_number (1 : Int32) (15 : Int32) G) fun r109 G109 =>
if (gI G109 186 12) = 0 then
(ob (f_X10_of (4 : Int32) (3 : Int32) G109) fun r130 G130 =>
gd (inb ((20 : Int32) + r130) 30) <| lt (sI G130 194 ((20 : Int32) + r130).toNatClampNeg r109) fun G135 =>
gd (inb (35 : Int32) 48) <|
gd (inb (35 : Int32) 48) <| lt (sI G135 193 (35 : Int32).toNatClampNeg ((gI G135 193 (35 : Int32).toNatClampNeg) + (1 : Int32))) fun G146 =>
if (gI G146 186 8) = (2 : Int32) then
((k_X10_first_160 (1 : Int32) kc64 G146))
else
((k_X10_first_160 (0 : Int32) kc64 G146)))
else
(some G109)
def lp_X10_first_64    (v1 : Int32) (G : GM) (kc64 : Int32 → GM → Option (GM)) : Option (GM) :=
  ob (f_X10_isGood G) fun r65 G65 =>
if r65 = 0 then
((k_X10_first_164 G65))
else
(if v1 = 0 then
((k_X10_first_164 G65))
else
(ob (f_X10_of (4 : Int32) (3 : Int32) G65) fun r78 G78 =>
if r78 = (5 : Int32) then
(ob (f_X10_in ((gI G78 186 10).toInt64) (1 : Int64) (15 : Int64) G78) fun r94 G94 =>
if r94 = 0 then
((k_X10_first_105 kc64 G94))
else
(ov (f_X10_fails (3 : Int32) G94) fun G102 =>
(k_X10_first_105 kc64 G102)))
else
((k_X10_first_105 kc64 G78))))
def f_X10_first  (G : GM) : Option (GM) :=
  ov (f_X10_asks (158529 : Int64) G) fun G4 =>
ob (f_X10_number_ (1627255 : Int64) (1 : Int32) (3 : Int32) G4) fun r19 G19 =>
gd (inb (32 : Int32) 48) <| lt (sI G19 193 (32 : Int32).toNatClampNeg r19) fun G22 =>
ob (f_X10_number_ (365869 : Int64) (1 : Int32) (3 : Int32) G22) fun r35 G35 =>
gd (inb (33 : Int32) 48) <| lt (sI G35 193 (33 : Int32).toNatClampNeg r35) fun G38 =>
ob (f_X10_number_ (99233 : Int64) (1 : Int32) (5 : Int32) G38) fun r51 G51 =>
gd (inb (34 : Int32) 48) <| lt (sI G51 193 (34 : Int32).toNatClampNeg r51) fun G54 =>
ov (f_X10_asks (1384295581 : Int64) G54) fun G59 =>
(wl1 FU (lp_X10_first_64 ) (1 : Int32) G59)
def f_X10_drawn (v1 : Int32) (G : GM) : Option (Int32 × GM) :=
  lt (sJ G 186 33 ((((1103515245 : Int64) * (gJ G 186 33)) + (12345 : Int64)) - (((1103515245 : Int64) * (gJ G 186 33)) + (12345 : Int64)) / (2147483648 : Int64) * (2147483648 : Int64))) fun G17 =>
lt ((gJ G17 186 33) / (65536 : Int64)) fun x28 =>
lt (sJ G17 186 33 ((((1103515245 : Int64) * (gJ G17 186 33)) + (12345 : Int64)) - (((1103515245 : Int64) * (gJ G17 186 33)) + (12345 : Int64)) / (2147483648 : Int64) * (2147483648 : Int64))) fun G46 =>
gd (decide (¬ (v1.toInt64) = 0)) <|
some ((((((32768 : Int64) * x28) + ((gJ G46 186 33) / (65536 : Int64))) - (((32768 : Int64) * x28) + ((gJ G46 186 33) / (65536 : Int64))) / (v1.toInt64) * (v1.toInt64)).toInt32), G46)
def lp_X10_firstOf_5 (v1 : Int32) (v2 : Int32)   (v3 : Int32) (v4 : Int32) (G : GM) (kc5 : Int32 → Int32 → GM → Option (Int32 × GM)) : Option (Int32 × GM) :=
  if v2 ≤ v4 then
(some (v3, G))
else
(gd (inb (((5 : Int32) * v1) + v4) 30) <|
lt (v3 + (gI G 194 (((5 : Int32) * v1) + v4).toNatClampNeg)) fun x24 =>
(kc5 x24 (v4 + (1 : Int32)) G))
def f_X10_firstOf (v1 : Int32) (v2 : Int32) (G : GM) : Option (Int32 × GM) :=
  (wl2 FU (lp_X10_firstOf_5 v1 v2) (1 : Int32) (0 : Int32) G)
def lp_X10_sizeOf_4 (v0 : Int32)   (v1 : Int32) (v2 : Int32) (G : GM) (kc4 : Int32 → Int32 → GM → Option (Int32 × GM)) : Option (Int32 × GM) :=
  if v2 = 0 then
(some (v1, G))
else
(lt (v2 &&& (v2 - (1 : Int32))) fun x16 =>
(kc4 (v1 + (1 : Int32)) x16 G))
def f_X10_sizeOf (v0 : Int32) (G : GM) : Option (Int32 × GM) :=
  (wl2 FU (lp_X10_sizeOf_4 v0) (0 : Int32) v0 G)
def lp_X10_layouts_169 (rec : Int32 → Int32 → GM → Option (GM)) (v1 : Int32) (v2 : Int32) (v3 : Int32) (kc87 : Int32 → GM → Option (GM)) (v4 : Int32) (G : GM) (kc169 : Int32 → GM → Option (GM)) : Option (GM) :=
  ob (f_X10_of v1 (3 : Int32) G) fun r174 G174 =>
if r174 ≤ v4 then
((kc87 (v3 + (1 : Int32)) G174))
else
(gd (inb v4 5) <|
gd (inb v4 5) <| lt (sI G174 202 v4.toNatClampNeg ((gI G174 202 v4.toNatClampNeg) + ((v3 >>> (v4 &&& 31)) &&& (1 : Int32)))) fun G195 =>
(kc169 (v4 + (1 : Int32)) G195))
def lp_X10_layouts_125 (rec : Int32 → Int32 → GM → Option (GM)) (v1 : Int32) (v2 : Int32) (v3 : Int32) (kc87 : Int32 → GM → Option (GM)) (v4 : Int32) (G : GM) (kc125 : Int32 → GM → Option (GM)) : Option (GM) :=
  ob (f_X10_of v1 (3 : Int32) G) fun r130 G130 =>
if r130 ≤ v4 then
(ov (rec v1 (v2 + (1 : Int32)) G130) fun G163 =>
(wl1 FU (lp_X10_layouts_169 rec v1 v2 v3 kc87) (0 : Int32) G163))
else
(gd (inb v4 5) <|
gd (inb v4 5) <| lt (sI G130 202 v4.toNatClampNeg ((gI G130 202 v4.toNatClampNeg) - ((v3 >>> (v4 &&& 31)) &&& (1 : Int32)))) fun G151 =>
(kc125 (v4 + (1 : Int32)) G151))
def lp_X10_layouts_87 (rec : Int32 → Int32 → GM → Option (GM)) (v1 : Int32) (v2 : Int32)   (v3 : Int32) (G : GM) (kc87 : Int32 → GM → Option (GM)) : Option (GM) :=
  ob (f_X10_of v1 (3 : Int32) G) fun r92 G92 =>
if ((1 : Int32) <<< (r92 &&& 31)) ≤ v3 then
(some G92)
else
(ob (f_X10_sizeOf v3 G92) fun r100 G100 =>
ob (f_X10_of v1 (2 : Int32) G100) fun r106 G106 =>
if r100 = r106 then
(gd (inb v2 3) <| lt (sI G106 203 v2.toNatClampNeg v3) fun G121 =>
(wl1 FU (lp_X10_layouts_125 rec v1 v2 v3 kc87) (0 : Int32) G121))
else
((kc87 (v3 + (1 : Int32)) G106)))
def k_X10_layouts_74 (rec : Int32 → Int32 → GM → Option (GM)) (v1 : Int32) (v2 : Int32)   (G : GM) : Option (GM) :=
  lt (sI G 186 31 ((gI G 186 31) + (1 : Int32))) fun G81 =>
some G81
def lp_X10_layouts_51 (rec : Int32 → Int32 → GM → Option (GM)) (v1 : Int32) (v2 : Int32)   (v3 : Int32) (G : GM) (kc51 : Int32 → GM → Option (GM)) : Option (GM) :=
  if (3 : Int32) ≤ v3 then
((k_X10_layouts_74 rec v1 v2 G))
else
(gd (inb v3 3) <|
gd (inb v3 3) <| lt (sI G 204 v3.toNatClampNeg (gI G 203 v3.toNatClampNeg)) fun G67 =>
(kc51 (v3 + (1 : Int32)) G67))
def lp_X10_layouts_12 (rec : Int32 → Int32 → GM → Option (GM)) (v1 : Int32) (v2 : Int32)   (v3 : Int32) (G : GM) (kc12 : Int32 → GM → Option (GM)) : Option (GM) :=
  ob (f_X10_of v1 (3 : Int32) G) fun r16 G16 =>
if r16 ≤ v3 then
(if (gI G16 186 31) = (gI G16 186 32) then
((wl1 FU (lp_X10_layouts_51 rec v1 v2) (0 : Int32) G16))
else
((k_X10_layouts_74 rec v1 v2 G16)))
else
(gd (inb v3 5) <|
if (gI G16 202 v3.toNatClampNeg) = 0 then
((kc12 (v3 + (1 : Int32)) G16))
else
(some G16))
def fb_X10_layouts (rec : Int32 → Int32 → GM → Option (GM)) (v1 : Int32) (v2 : Int32) (G : GM) : Option (GM) :=
  ob (f_X10_of v1 (1 : Int32) G) fun r4 G4 =>
if v2 = r4 then
((wl1 FU (lp_X10_layouts_12 rec v1 v2) (0 : Int32) G4))
else
((wl1 FU (lp_X10_layouts_87 rec v1 v2) (0 : Int32) G4))
def f_X10_layouts : Nat → Int32 → Int32 → GM → Option (GM)
  | 0, _, _, _ => none
  | n + 1, v1, v2, G => fb_X10_layouts (f_X10_layouts n) v1 v2 G
def f_X10_layoutOf (v1 : Int32) (v2 : Int32) (G : GM) : Option (GM) :=
  lt (sI G 186 31 (0 : Int32)) fun G2 =>
lt (sI G2 186 32 v2) fun G7 =>
ov (f_X10_layouts 6 v1 (0 : Int32) G7) fun G13 =>
some G13
def f_X10_at (v1 : Int32) (v2 : Int32) (v3 : Int32) (v4 : Int32) (G : GM) : Option (Int32 × GM) :=
  some ((((((45 : Int32) * v1) + ((15 : Int32) * v2)) + ((5 : Int32) * v3)) + v4), G)
def k_X10_lays_80 (v1 : Int32) (v2 : Int32) (v3 : Int32) (v4 : Int32) (v5 : Int32) (v6 : Int32) (v7 : Int32) (v8 : Int32) (v10 : Int32) (kc6 : Int32 → Int32 → GM → Option (GM)) (kc41 : Int32 → Int32 → GM → Option (GM)) (G : GM) : Option (GM) :=
  gd (inb v10 45) <|
lt (gI G 205 v10.toNatClampNeg) fun x87 =>
(kc41 x87 (v10 + (1 : Int32)) G)
def lp_X10_lays_41 (v1 : Int32) (v2 : Int32) (v3 : Int32) (v4 : Int32) (v5 : Int32) (v6 : Int32) (v7 : Int32) (v8 : Int32) (kc6 : Int32 → Int32 → GM → Option (GM)) (v9 : Int32) (v10 : Int32) (G : GM) (kc41 : Int32 → Int32 → GM → Option (GM)) : Option (GM) :=
  if (v4 + v5) ≤ v10 then
(ob (f_X10_at v1 v2 v8 v3 G) fun r105 G105 =>
gd (inb r105 90) <| lt (sI G105 206 r105.toNatClampNeg v9) fun G110 =>
(kc6 v9 (v8 + (1 : Int32)) G110))
else
(gd (inb v10 45) <|
if (gI G 205 v10.toNatClampNeg) ≤ v7 then
((kc41 v9 (v10 + (1 : Int32)) G))
else
(if v9 = 0 then
((k_X10_lays_80 v1 v2 v3 v4 v5 v6 v7 v8 v10 kc6 kc41 G))
else
(gd (inb v10 45) <|
if v9 ≤ (gI G 205 v10.toNatClampNeg) then
((kc41 v9 (v10 + (1 : Int32)) G))
else
((k_X10_lays_80 v1 v2 v3 v4 v5 v6 v7 v8 v10 kc6 kc41 G)))))
def lp_X10_lays_6 (v1 : Int32) (v2 : Int32) (v3 : Int32) (v4 : Int32) (v5 : Int32) (v6 : Int32)   (v7 : Int32) (v8 : Int32) (G : GM) (kc6 : Int32 → Int32 → GM → Option (GM)) : Option (GM) :=
  if v6 ≤ v8 then
(some G)
else
(gd (inb (((3 : Int32) * v2) + v8) 9) <|
if (((gI G 207 (((3 : Int32) * v2) + v8).toNatClampNeg) >>> (v3 &&& 31)) &&& (1 : Int32)) = 0 then
((kc6 v7 (v8 + (1 : Int32)) G))
else
((wl2 FU (lp_X10_lays_41 v1 v2 v3 v4 v5 v6 v7 v8 kc6) (0 : Int32) v4 G)))
def f_X10_lays (v1 : Int32) (v2 : Int32) (v3 : Int32) (v4 : Int32) (v5 : Int32) (v6 : Int32) (G : GM) : Option (GM) :=
  (wl2 FU (lp_X10_lays_6 v1 v2 v3 v4 v5 v6) (0 : Int32) (0 : Int32) G)
def lp_X10_mixes_26 (v1 : Int32) (v2 : Int32)   (v3 : Int32) (G : GM) (kc26 : Int32 → GM → Option (GM)) : Option (GM) :=
  if v3 ≤ 0 then
(some G)
else
(ob (f_X10_drawn (v3 + (1 : Int32)) G) fun r34 G34 =>
gd (inb v3 45) <|
lt (gI G34 205 v3.toNatClampNeg) fun x45 =>
gd (inb r34 45) <|
gd (inb v3 45) <| lt (sI G34 205 v3.toNatClampNeg (gI G34 205 r34.toNatClampNeg)) fun G59 =>
gd (inb r34 45) <| lt (sI G59 205 r34.toNatClampNeg x45) fun G68 =>
(kc26 (v3 + (-1 : Int32)) G68))
def lp_X10_mixes_2 (v1 : Int32) (v2 : Int32)   (v3 : Int32) (G : GM) (kc2 : Int32 → GM → Option (GM)) : Option (GM) :=
  if v2 ≤ v3 then
(lt (v2 - (1 : Int32)) fun x25 =>
(wl1 FU (lp_X10_mixes_26 v1 v2) x25 G))
else
(gd (inb v3 45) <| lt (sI G 205 v3.toNatClampNeg (v1 + v3)) fun G15 =>
(kc2 (v3 + (1 : Int32)) G15))
def f_X10_mixes (v1 : Int32) (v2 : Int32) (G : GM) : Option (GM) :=
  (wl1 FU (lp_X10_mixes_2 v1 v2) (0 : Int32) G)
def lp_X10_makes_226 (v1 : Int32) (v2 : Int32) (v3 : Int32) (v4 : Int32) (kc187 : Int32 → GM → Option (GM)) (v5 : Int32) (v6 : Int32) (G : GM) (kc226 : Int32 → Int32 → GM → Option (GM)) : Option (GM) :=
  ob (f_X10_of v1 (0 : Int32) G) fun r231 G231 =>
if r231 ≤ v6 then
((kc187 (v4 + (1 : Int32)) G231))
else
(gd (inb (((5 : Int32) * v6) + v4) 15) <|
lt (gI G231 200 (((5 : Int32) * v6) + v4).toNatClampNeg) fun x249 =>
ob (f_X10_of v1 (1 : Int32) G231) fun r264 G264 =>
ov (f_X10_lays v3 v6 v4 v5 x249 r264 G264) fun G267 =>
lt (v5 + x249) fun x275 =>
(kc226 x275 (v6 + (1 : Int32)) G267))
def lp_X10_makes_187 (v1 : Int32) (v2 : Int32) (v3 : Int32)   (v4 : Int32) (G : GM) (kc187 : Int32 → GM → Option (GM)) : Option (GM) :=
  ob (f_X10_of v1 (3 : Int32) G) fun r192 G192 =>
if r192 ≤ v4 then
(some G192)
else
(ob (f_X10_firstOf v1 v4 G192) fun r203 G203 =>
gd (inb (((5 : Int32) * v1) + v4) 30) <|
ov (f_X10_mixes r203 (gI G203 194 (((5 : Int32) * v1) + v4).toNatClampNeg) G203) fun G217 =>
(wl2 FU (lp_X10_makes_226 v1 v2 v3 v4 kc187) (0 : Int32) (0 : Int32) G217))
def lp_X10_makes_158 (v1 : Int32) (v2 : Int32) (v3 : Int32)   (v4 : Int32) (G : GM) (kc158 : Int32 → GM → Option (GM)) : Option (GM) :=
  if (45 : Int32) ≤ v4 then
((wl1 FU (lp_X10_makes_187 v1 v2 v3) (0 : Int32) G))
else
(gd (inb (((45 : Int32) * v3) + v4) 90) <| lt (sI G 206 (((45 : Int32) * v3) + v4).toNatClampNeg (0 : Int32)) fun G177 =>
(kc158 (v4 + (1 : Int32)) G177))
def lp_X10_makes_118 (v1 : Int32) (v2 : Int32) (v3 : Int32) (v4 : Int32) (kc36 : Int32 → GM → Option (GM)) (v5 : Int32) (G : GM) (kc118 : Int32 → GM → Option (GM)) : Option (GM) :=
  if (3 : Int32) ≤ v5 then
((kc36 (v4 + (1 : Int32)) G))
else
(gd (inb v5 3) <|
gd (inb (((3 : Int32) * v4) + v5) 9) <| lt (sI G 207 (((3 : Int32) * v4) + v5).toNatClampNeg (gI G 204 v5.toNatClampNeg)) fun G142 =>
(kc118 (v5 + (1 : Int32)) G142))
def k_X10_makes_89 (v1 : Int32) (v2 : Int32) (v3 : Int32) (v4 : Int32) (v5 : Int32) (s0 : Int32) (s1 : Int32) (kc36 : Int32 → GM → Option (GM)) (kc50 : Int32 → GM → Option (GM)) (G : GM) : Option (GM) :=
  gd (inb s1 5) <| lt (sI G 202 s1.toNatClampNeg s0) fun G89 =>
(kc50 (v5 + (1 : Int32)) G89)
def lp_X10_makes_50 (v1 : Int32) (v2 : Int32) (v3 : Int32) (v4 : Int32) (kc36 : Int32 → GM → Option (GM)) (v5 : Int32) (G : GM) (kc50 : Int32 → GM → Option (GM)) : Option (GM) :=
  if (5 : Int32) ≤ v5 then
(ov (f_X10_layoutOf v1 (-1 : Int32) G) fun G99 =>
ob (f_X10_drawn (gI G99 186 31) G99) fun r109 G109 =>
ov (f_X10_layoutOf v1 r109 G109) fun G112 =>
(wl1 FU (lp_X10_makes_118 v1 v2 v3 v4 kc36) (0 : Int32) G112))
else
(ob (f_X10_of v1 (3 : Int32) G) fun r67 G67 =>
if r67 ≤ v5 then
((k_X10_makes_89 v1 v2 v3 v4 v5 (0 : Int32) v5 kc36 kc50 G67))
else
(gd (inb (((5 : Int32) * v4) + v5) 15) <|
(k_X10_makes_89 v1 v2 v3 v4 v5 (gI G67 200 (((5 : Int32) * v4) + v5).toNatClampNeg) v5 kc36 kc50 G67)))
def lp_X10_makes_36 (v1 : Int32) (v2 : Int32) (v3 : Int32)   (v4 : Int32) (G : GM) (kc36 : Int32 → GM → Option (GM)) : Option (GM) :=
  ob (f_X10_of v1 (0 : Int32) G) fun r41 G41 =>
if r41 ≤ v4 then
((wl1 FU (lp_X10_makes_158 v1 v2 v3) (0 : Int32) G41))
else
((wl1 FU (lp_X10_makes_50 v1 v2 v3 v4 kc36) (0 : Int32) G41))
def f_X10_makes (v1 : Int32) (v2 : Int32) (v3 : Int32) (G : GM) : Option (GM) :=
  lt (sJ G 186 33 (v2.toInt64)) fun G3 =>
ov (f_X10_planOf v1 (-1 : Int32) G3) fun G9 =>
ob (f_X10_drawn (gI G9 186 26) G9) fun r18 G18 =>
lt (sI G18 186 36 r18) fun G21 =>
ov (f_X10_planOf v1 (gI G21 186 36) G21) fun G30 =>
(wl1 FU (lp_X10_makes_36 v1 v2 v3) (0 : Int32) G30)
def lp_X10_areSame_17 (v1 : Int32) (v2 : Int32) (v3 : Int32)   (v4 : Int32) (G : GM) (kc17 : Int32 → GM → Option (Int32 × GM)) : Option (Int32 × GM) :=
  if (45 : Int32) ≤ v4 then
(some ((1 : Int32), G))
else
(gd (inb v4 90) <|
gd (inb ((45 : Int32) + v4) 90) <|
if (gI G 206 v4.toNatClampNeg) = (gI G 206 ((45 : Int32) + v4).toNatClampNeg) then
((kc17 (v4 + (1 : Int32)) G))
else
(some ((0 : Int32), G)))
def f_X10_areSame (v1 : Int32) (v2 : Int32) (v3 : Int32) (G : GM) : Option (Int32 × GM) :=
  ov (f_X10_makes v1 v2 (0 : Int32) G) fun G4 =>
ov (f_X10_makes v1 v3 (1 : Int32) G4) fun G11 =>
(wl1 FU (lp_X10_areSame_17 v1 v2 v3) (0 : Int32) G11)
def lp_X10_isSoldIn_2 (v1 : Int32) (v2 : Int32)   (v3 : Int32) (G : GM) (kc2 : Int32 → GM → Option (Int32 × GM)) : Option (Int32 × GM) :=
  ob (f_X10_of v1 (4 : Int32) G) fun r6 G6 =>
if r6 ≤ v3 then
(some ((0 : Int32), G6))
else
(gd (inb (((8 : Int32) * v1) + v3) 48) <|
ob (f_X10_areSame v1 (gI G6 196 (((8 : Int32) * v1) + v3).toNatClampNeg) v2 G6) fun r26 G26 =>
if r26 = 0 then
((kc2 (v3 + (1 : Int32)) G26))
else
(some ((1 : Int32), G26)))
def f_X10_isSoldIn (v1 : Int32) (v2 : Int32) (G : GM) : Option (Int32 × GM) :=
  (wl1 FU (lp_X10_isSoldIn_2 v1 v2) (0 : Int32) G)
def k_X10_line_189  (v2 : Int32)  (G : GM) : Option (GM) :=
  if (gI G 186 12) = 0 then
(ov (f_X10_next G) fun G198 =>
ob (f_X10_number (0 : Int32) (9999 : Int32) G198) fun r214 G214 =>
gd (inb ((12 : Int32) + v2) 18) <| lt (sI G214 195 ((12 : Int32) + v2).toNatClampNeg r214) fun G217 =>
some G217)
else
(some G)
def k_X10_line_178  (s0 : Int32)  (G : GM) : Option (GM) :=
  if s0 = (-1 : Int32) then
(ov (f_X10_fails (1 : Int32) G) fun G186 =>
(k_X10_line_189 s0 G186))
else
((k_X10_line_189 s0 G))
def k_X10_line_79    (G : GM) : Option (GM) :=
  ob (f_X10_number (0 : Int32) (9999 : Int32) G) fun r84 G84 =>
if (gI G84 186 12) = 0 then
(ob (f_X10_of (4 : Int32) (4 : Int32) G84) fun r105 G105 =>
gd (inb ((32 : Int32) + r105) 48) <| lt (sI G105 196 ((32 : Int32) + r105).toNatClampNeg r84) fun G110 =>
gd (inb (36 : Int32) 48) <|
gd (inb (36 : Int32) 48) <| lt (sI G110 193 (36 : Int32).toNatClampNeg ((gI G110 193 (36 : Int32).toNatClampNeg) + (1 : Int32))) fun G121 =>
some G121)
else
(some G84)
def k_X10_line_28  (v1 : Int32)  (G : GM) : Option (GM) :=
  if (gI G 186 12) = 0 then
(if v1 = 0 then
(ob (f_X10_takes (8864618 : Int64) G) fun r129 G129 =>
if r129 = 0 then
(ob (f_X10_takes (3890376722 : Int64) G129) fun r225 G225 =>
if r225 = 0 then
(ov (f_X10_asks (43823259 : Int64) G225) fun G277 =>
ob (f_X10_number (0 : Int32) (99999 : Int32) G277) fun r290 G290 =>
gd (inb (39 : Int32) 48) <| lt (sI G290 193 (39 : Int32).toNatClampNeg r290) fun G293 =>
some G293)
else
(ob (f_X10_number (0 : Int32) (9999 : Int32) G225) fun r236 G236 =>
ob (f_X10_numbersOf (4 : Int32) G236) fun r247 G247 =>
ob (f_X10_number_ (79 : Int64) (1 : Int32) r247 G247) fun r250 G250 =>
gd (inb (37 : Int32) 48) <| lt (sI G250 193 (37 : Int32).toNatClampNeg r236) fun G261 =>
gd (inb (38 : Int32) 48) <| lt (sI G261 193 (38 : Int32).toNatClampNeg r250) fun G269 =>
some G269))
else
(ob (f_X10_is (13550 : Int64) G129) fun r139 G139 =>
if r139 = 0 then
(ob (f_X10_is (15216 : Int64) G139) fun r153 G153 =>
if r153 = 0 then
(ob (f_X10_is (4562600 : Int64) G153) fun r167 G167 =>
if r167 = 0 then
((k_X10_line_178 (-1 : Int32) G167))
else
((k_X10_line_178 (2 : Int32) G167)))
else
((k_X10_line_178 (1 : Int32) G153)))
else
((k_X10_line_178 (0 : Int32) G139))))
else
(ov (f_X10_next G) fun G41 =>
if (gI G41 186 8) = (2 : Int32) then
(if (9999 : Int32) < (gI G41 186 10) then
((k_X10_line_79 G41))
else
(ob (f_X10_isSoldIn (4 : Int32) (gI G41 186 10) G41) fun r68 G68 =>
if r68 = 0 then
((k_X10_line_79 G68))
else
(ov (f_X10_fails (2 : Int32) G68) fun G76 =>
(k_X10_line_79 G76))))
else
((k_X10_line_79 G41))))
else
(some G)
def f_X10_line  (G : GM) : Option (GM) :=
  ob (f_X10_is (385240 : Int64) G) fun r4 G4 =>
if r4 = 0 then
((k_X10_line_28 r4 G4))
else
(ob (f_X10_of (4 : Int32) (4 : Int32) G4) fun r15 G15 =>
if r15 = (8 : Int32) then
(ov (f_X10_fails (3 : Int32) G15) fun G25 =>
(k_X10_line_28 r4 G25))
else
((k_X10_line_28 r4 G15)))
def lp_X10_clears_43    (v1 : Int32) (G : GM) (kc43 : Int32 → GM → Option (GM)) : Option (GM) :=
  if (3 : Int32) ≤ v1 then
(some G)
else
(gd (inb ((12 : Int32) + v1) 18) <| lt (sI G 195 ((12 : Int32) + v1).toNatClampNeg (0 : Int32)) fun G57 =>
(kc43 (v1 + (1 : Int32)) G57))
def k_X10_clears_34  (v1 : Int32) (s0 : Int32) (s1 : Int32) (kc9 : Int32 → GM → Option (GM)) (G : GM) : Option (GM) :=
  gd (inb s1 48) <| lt (sI G 193 s1.toNatClampNeg s0) fun G34 =>
(kc9 (v1 + (1 : Int32)) G34)
def lp_X10_clears_9    (v1 : Int32) (G : GM) (kc9 : Int32 → GM → Option (GM)) : Option (GM) :=
  if (8 : Int32) ≤ v1 then
((wl1 FU (lp_X10_clears_43 ) (0 : Int32) G))
else
(if v1 = (7 : Int32) then
((k_X10_clears_34 v1 (1 : Int32) ((32 : Int32) + v1) kc9 G))
else
((k_X10_clears_34 v1 (0 : Int32) ((32 : Int32) + v1) kc9 G)))
def f_X10_clears  (G : GM) : Option (GM) :=
  gd (inb (4 : Int32) 6) <| lt (sI G 192 (4 : Int32).toNatClampNeg (0 : Int32)) fun G6 =>
(wl1 FU (lp_X10_clears_9 ) (0 : Int32) G6)
def lp_X10_callsBy_18 (v1 : Int32) (v2 : Int64)   (v4 : Int32) (G : GM) (kc18 : Int32 → GM → Option (GM)) : Option (GM) :=
  ob (f_X10_numbersOf v1 G) fun r22 G22 =>
if r22 ≤ v4 then
(some G22)
else
(gd (inb v4 45) <|
gd (inb (((45 : Int32) * v1) + v4) 270) <| lt (sI G22 197 (((45 : Int32) * v1) + v4).toNatClampNeg (gI G22 205 v4.toNatClampNeg)) fun G46 =>
(kc18 (v4 + (1 : Int32)) G46))
def f_X10_callsBy (v1 : Int32) (v2 : Int64) (G : GM) : Option (GM) :=
  lt (sJ G 186 33 v2) fun G2 =>
ob (f_X10_numbersOf v1 G2) fun r9 G9 =>
ov (f_X10_mixes (1 : Int32) r9 G9) fun G12 =>
(wl1 FU (lp_X10_callsBy_18 v1 v2) (0 : Int32) G12)
def lp_X10_copyRow_3 (v0 : Nat) (v1 : Int32) (v2 : Int32) (v3 : Int32)   (v4 : Int32) (G : GM) (kc3 : Int32 → GM → Option (GM)) : Option (GM) :=
  if v1 ≤ v4 then
(some G)
else
(gd (inb ((v1 * v2) + v4) (LN v0)) <|
gd (inb ((v1 * v3) + v4) (LN v0)) <| lt (sI G v0 ((v1 * v3) + v4).toNatClampNeg (gI G v0 ((v1 * v2) + v4).toNatClampNeg)) fun G24 =>
(kc3 (v4 + (1 : Int32)) G24))
def f_X10_copyRow (v0 : Nat) (v1 : Int32) (v2 : Int32) (v3 : Int32) (G : GM) : Option (GM) :=
  (wl1 FU (lp_X10_copyRow_3 v0 v1 v2 v3) (0 : Int32) G)
def f_X10_copyHall (v1 : Int32) (v2 : Int32) (G : GM) : Option (GM) :=
  ov (f_X10_copyRow 192 (1 : Int32) v1 v2 G) fun G7 =>
ov (f_X10_copyRow 193 (8 : Int32) v1 v2 G7) fun G18 =>
ov (f_X10_copyRow 194 (5 : Int32) v1 v2 G18) fun G28 =>
ov (f_X10_copyRow 195 (3 : Int32) v1 v2 G28) fun G38 =>
ov (f_X10_copyRow 196 (8 : Int32) v1 v2 G38) fun G49 =>
ov (f_X10_copyRow 197 (45 : Int32) v1 v2 G49) fun G60 =>
some G60
def k_X10_hall_107    (G : GM) : Option (Int32 × GM) :=
  ov (f_X10_copyHall (4 : Int32) (0 : Int32) G) fun G110 =>
gd (inb (0 : Int32) 6) <|
some ((gI G110 192 (0 : Int32).toNatClampNeg), G110)
def k_X10_hall_71    (G : GM) : Option (Int32 × GM) :=
  ov (f_X10_isOver G) fun G72 =>
if (gI G72 186 12) = 0 then
(gd (inb (4 : Int32) 6) <|
if (gI G72 192 (4 : Int32).toNatClampNeg) ≤ 0 then
((k_X10_hall_107 G72))
else
(ob (f_X10_of (4 : Int32) (7 : Int32) G72) fun r100 G100 =>
ov (f_X10_callsBy (4 : Int32) (r100.toInt64) G100) fun G104 =>
(k_X10_hall_107 G104)))
else
(some ((-4 : Int32), G72))
def k_X10_hall_58   (kc13 : GM → Option (Int32 × GM)) (G : GM) : Option (Int32 × GM) :=
  gd (inb (4 : Int32) 6) <|
gd (inb (4 : Int32) 6) <| lt (sI G 192 (4 : Int32).toNatClampNeg ((gI G 192 (4 : Int32).toNatClampNeg) + (1 : Int32))) fun G67 =>
(kc13  G67)
def k_X10_hall_47   (kc13 : GM → Option (Int32 × GM)) (G : GM) : Option (Int32 × GM) :=
  ob (f_X10_isGood G) fun r48 G48 =>
if r48 = 0 then
((k_X10_hall_58 kc13 G48))
else
(ov (f_X10_ends G48) fun G55 =>
(k_X10_hall_58 kc13 G55))
def lp_X10_hall_13     (G : GM) (kc13 : GM → Option (Int32 × GM)) : Option (Int32 × GM) :=
  ob (f_X10_isGood G) fun r14 G14 =>
if r14 = 0 then
((k_X10_hall_71 G14))
else
(if (gI G14 186 8) = 0 then
((k_X10_hall_71 G14))
else
(gd (inb (4 : Int32) 6) <|
if (gI G14 192 (4 : Int32).toNatClampNeg) = 0 then
(ov (f_X10_first G14) fun G37 =>
(k_X10_hall_47 kc13 G37))
else
(ov (f_X10_line G14) fun G44 =>
(k_X10_hall_47 kc13 G44))))
def f_X10_hall  (G : GM) : Option (Int32 × GM) :=
  lt (sI G 186 0 (0 : Int32)) fun G2 =>
ov (f_X10_clears G2) fun G6 =>
ov (f_X10_begins G6) fun G10 =>
(wl0 FU (lp_X10_hall_13 )  G10)
def f_X10_isHall  (G : GM) : Option (Int32 × GM) :=
  gd (inb (0 : Int32) 6) <|
if (gI G 192 (0 : Int32).toNatClampNeg) ≤ 0 then
(some ((0 : Int32), G))
else
(some ((1 : Int32), G))
def f_X10_all  (G : GM) : Option (Int32 × GM) :=
  ob (f_X10_numbersOf (0 : Int32) G) fun r2 G2 =>
some (r2, G2)
def f_X10_isSerial (v1 : Int32) (G : GM) : Option (Int32 × GM) :=
  ob (f_X10_isHall G) fun r1 G1 =>
if r1 = 0 then
(some ((0 : Int32), G1))
else
(ob (f_X10_in (v1.toInt64) (0 : Int64) (9999 : Int64) G1) fun r13 G13 =>
if r13 = 0 then
(some ((0 : Int32), G13))
else
(some ((1 : Int32), G13)))
def f_X10_isCard (v1 : Int32) (G : GM) : Option (Int32 × GM) :=
  gd (inb (0 : Int32) 48) <|
ob (f_X10_in (v1.toInt64) (0 : Int64) (((gI G 193 (0 : Int32).toNatClampNeg) - (1 : Int32)).toInt64) G) fun r12 G12 =>
gd (decide (r12 = 0 ∨ r12 = 1)) (some (r12, G12))
def f_X10_isColumn (v1 : Int32) (G : GM) : Option (Int32 × GM) :=
  gd (inb (3 : Int32) 48) <|
ob (f_X10_in (v1.toInt64) (0 : Int64) (((gI G 193 (3 : Int32).toNatClampNeg) - (1 : Int32)).toInt64) G) fun r12 G12 =>
gd (decide (r12 = 0 ∨ r12 = 1)) (some (r12, G12))
def f_X10_column (v1 : Int32) (v2 : Int32) (G : GM) : Option (Int32 × GM) :=
  lt (sI G 186 0 (0 : Int32)) fun G2 =>
ob (f_X10_isColumn v1 G2) fun r7 G7 =>
if r7 = 0 then
(some ((-2 : Int32), G7))
else
(ob (f_X10_in (v2.toInt64) (0 : Int64) (1 : Int64) G7) fun r17 G17 =>
if r17 = 0 then
(some ((-2 : Int32), G17))
else
(if v2 = 0 then
(ob (f_X10_firstOf (0 : Int32) v1 G17) fun r35 G35 =>
some (r35, G35))
else
(gd (inb v1 30) <|
some ((gI G17 194 v1.toNatClampNeg), G17))))
def f_X10_numbers  (G : GM) : Option (Int32 × GM) :=
  lt (sI G 186 0 (0 : Int32)) fun G2 =>
ob (f_X10_isHall G2) fun r6 G6 =>
if r6 = 0 then
(some ((-2 : Int32), G6))
else
(ob (f_X10_all G6) fun r13 G13 =>
some (r13, G13))
def f_X10_plans_  (G : GM) : Option (Int32 × GM) :=
  lt (sI G 186 0 (0 : Int32)) fun G2 =>
ob (f_X10_isHall G2) fun r6 G6 =>
if r6 = 0 then
(some ((-2 : Int32), G6))
else
(ov (f_X10_planOf (0 : Int32) (-1 : Int32) G6) fun G18 =>
some ((gI G18 186 26), G18))
def f_X10_plan (v1 : Int32) (v2 : Int32) (v3 : Int32) (G : GM) : Option (Int32 × GM) :=
  lt (sI G 186 0 (0 : Int32)) fun G2 =>
ob (f_X10_isCard v2 G2) fun r7 G7 =>
if r7 = 0 then
(some ((-2 : Int32), G7))
else
(ob (f_X10_isColumn v3 G7) fun r15 G15 =>
if r15 = 0 then
(some ((-2 : Int32), G15))
else
(ov (f_X10_planOf (0 : Int32) v1 G15) fun G27 =>
ob (f_X10_in (v1.toInt64) (0 : Int64) (((gI G27 186 26) - (1 : Int32)).toInt64) G27) fun r40 G40 =>
if r40 = 0 then
(some ((-1 : Int32), G40))
else
(gd (inb (((5 : Int32) * v2) + v3) 15) <|
some ((gI G40 200 (((5 : Int32) * v2) + v3).toNatClampNeg), G40))))
def f_X10_whyNot (v1 : Int32) (G : GM) : Option (Int32 × GM) :=
  ob (f_X10_isSlot v1 G) fun r1 G1 =>
if r1 = 0 then
(some ((-2 : Int32), G1))
else
(ob (f_X10_isHall G1) fun r8 G8 =>
if r8 = 0 then
(some ((-2 : Int32), G8))
else
(gd (inb v1 4) <|
if (gI G8 187 v1.toNatClampNeg) = (-1 : Int32) then
(some ((-6 : Int32), G8))
else
(some ((0 : Int32), G8))))
def lp_X10_layouts__37 (v1 : Int32)   (v3 : Int32) (G : GM) (kc37 : Int32 → GM → Option (Int32 × GM)) : Option (Int32 × GM) :=
  gd (inb v1 4) <|
if (gI G 188 v1.toNatClampNeg) ≤ v3 then
(ov (f_X10_layoutOf (0 : Int32) (-1 : Int32) G) fun G97 =>
some ((gI G97 186 31), G97))
else
(gd (inb (((60 : Int32) * v1) + v3) 240) <|
ob (f_X10_in (gJ G 189 (((60 : Int32) * v1) + v3).toNatClampNeg) (0 : Int64) (3 : Int64) G) fun r62 G62 =>
if r62 = 0 then
(some ((0 : Int32), G62))
else
(gd (inb (((60 : Int32) * v1) + v3) 240) <|
gd (inb v3 5) <| lt (sI G62 202 v3.toNatClampNeg ((gJ G62 189 (((60 : Int32) * v1) + v3).toNatClampNeg).toInt32)) fun G87 =>
(kc37 (v3 + (1 : Int32)) G87)))
def f_X10_layouts_ (v1 : Int32) (G : GM) : Option (Int32 × GM) :=
  lt (sI G 186 0 (0 : Int32)) fun G2 =>
ob (f_X10_whyNot v1 G2) fun r7 G7 =>
if r7 = 0 then
(gd (inb v1 4) <|
gd (inb (3 : Int32) 48) <|
if (gI G7 188 v1.toNatClampNeg) = (gI G7 193 (3 : Int32).toNatClampNeg) then
((wl1 FU (lp_X10_layouts__37 v1) (0 : Int32) G7))
else
(some ((-7 : Int32), G7)))
else
(some (r7, G7))
def f_X10_made (v1 : Int32) (G : GM) : Option (Int32 × GM) :=
  lt (sI G 186 0 (0 : Int32)) fun G2 =>
ob (f_X10_isSerial v1 G2) fun r7 G7 =>
if r7 = 0 then
(some ((-2 : Int32), G7))
else
(ov (f_X10_makes (0 : Int32) v1 (0 : Int32) G7) fun G20 =>
some ((gI G20 186 36), G20))
def f_X10_cell (v1 : Int32) (v2 : Int32) (v3 : Int32) (v4 : Int32) (G : GM) : Option (Int32 × GM) :=
  lt (sI G 186 0 (0 : Int32)) fun G2 =>
ob (f_X10_isSerial v1 G2) fun r7 G7 =>
if r7 = 0 then
(some ((-2 : Int32), G7))
else
(ob (f_X10_isCard v2 G7) fun r15 G15 =>
if r15 = 0 then
(some ((-2 : Int32), G15))
else
(gd (inb (1 : Int32) 48) <|
ob (f_X10_in (v3.toInt64) (0 : Int64) (((gI G15 193 (1 : Int32).toNatClampNeg) - (1 : Int32)).toInt64) G15) fun r33 G33 =>
if r33 = 0 then
(some ((-2 : Int32), G33))
else
(ob (f_X10_isColumn v4 G33) fun r42 G42 =>
if r42 = 0 then
(some ((-2 : Int32), G42))
else
(ov (f_X10_makes (0 : Int32) v1 (0 : Int32) G42) fun G55 =>
ob (f_X10_at (0 : Int32) v2 v3 v4 G55) fun r68 G68 =>
gd (inb r68 90) <|
some ((gI G68 206 r68.toNatClampNeg), G68)))))
def f_X10_isNumber (v1 : Int64) (G : GM) : Option (Int32 × GM) :=
  ob (f_X10_isHall G) fun r1 G1 =>
if r1 = 0 then
(some ((0 : Int32), G1))
else
(ob (f_X10_all G1) fun r10 G10 =>
ob (f_X10_in v1 (1 : Int64) (r10.toInt64) G10) fun r14 G14 =>
if r14 = 0 then
(some ((0 : Int32), G14))
else
(some ((1 : Int32), G14)))
def lp_X10_where_51 (v1 : Int32) (v2 : Int32) (v3 : Int32) (v4 : Int32) (kc34 : Int32 → GM → Option (Int32 × GM)) (kc42 : Int32 → GM → Option (Int32 × GM)) (v5 : Int32) (G : GM) (kc51 : Int32 → GM → Option (Int32 × GM)) : Option (Int32 × GM) :=
  if (5 : Int32) ≤ v5 then
((kc42 (v4 + (1 : Int32)) G))
else
(ob (f_X10_at (0 : Int32) v3 v4 v5 G) fun r68 G68 =>
gd (inb r68 90) <|
if (gI G68 206 r68.toNatClampNeg) = v2 then
(some (((((100 : Int32) * v3) + ((10 : Int32) * v4)) + v5), G68))
else
((kc51 (v5 + (1 : Int32)) G68)))
def lp_X10_where_42 (v1 : Int32) (v2 : Int32) (v3 : Int32) (kc34 : Int32 → GM → Option (Int32 × GM)) (v4 : Int32) (G : GM) (kc42 : Int32 → GM → Option (Int32 × GM)) : Option (Int32 × GM) :=
  if (3 : Int32) ≤ v4 then
((kc34 (v3 + (1 : Int32)) G))
else
((wl1 FU (lp_X10_where_51 v1 v2 v3 v4 kc34 kc42) (0 : Int32) G))
def lp_X10_where_34 (v1 : Int32) (v2 : Int32)   (v3 : Int32) (G : GM) (kc34 : Int32 → GM → Option (Int32 × GM)) : Option (Int32 × GM) :=
  if (3 : Int32) ≤ v3 then
(some ((-1 : Int32), G))
else
((wl1 FU (lp_X10_where_42 v1 v2 v3 kc34) (0 : Int32) G))
def f_X10_where (v1 : Int32) (v2 : Int32) (G : GM) : Option (Int32 × GM) :=
  lt (sI G 186 0 (0 : Int32)) fun G2 =>
ob (f_X10_isSerial v1 G2) fun r7 G7 =>
if r7 = 0 then
(some ((-2 : Int32), G7))
else
(ob (f_X10_isNumber (v2.toInt64) G7) fun r16 G16 =>
if r16 = 0 then
(some ((-2 : Int32), G16))
else
(ov (f_X10_makes (0 : Int32) v1 (0 : Int32) G16) fun G29 =>
(wl1 FU (lp_X10_where_34 v1 v2) (0 : Int32) G29)))
def f_X10_same (v1 : Int32) (v2 : Int32) (G : GM) : Option (Int32 × GM) :=
  lt (sI G 186 0 (0 : Int32)) fun G2 =>
ob (f_X10_isSerial v1 G2) fun r7 G7 =>
if r7 = 0 then
(some ((-2 : Int32), G7))
else
(ob (f_X10_isSerial v2 G7) fun r15 G15 =>
if r15 = 0 then
(some ((-2 : Int32), G15))
else
(ob (f_X10_areSame (0 : Int32) v1 v2 G15) fun r25 G25 =>
if r25 = 0 then
(some ((0 : Int32), G25))
else
(some ((1 : Int32), G25))))
def k_X10_alike_131 (v1 : Int32) (v2 : Int32) (v3 : Int32) (v4 : Int32) (v6 : Int32) (v7 : Int32) (s0 : Int32) (s1 : Int32) (kc61 : Int32 → Int32 → GM → Option (Int32 × GM)) (kc71 : Int32 → Int32 → GM → Option (Int32 × GM)) (G : GM) : Option (Int32 × GM) :=
  lt (s1 + s0) fun x132 =>
(kc71 x132 (v7 + (1 : Int32)) G)
def k_X10_alike_130 (v1 : Int32) (v2 : Int32) (v3 : Int32) (v4 : Int32) (v6 : Int32) (v7 : Int32) (s0 : Int32) (kc61 : Int32 → Int32 → GM → Option (Int32 × GM)) (kc71 : Int32 → Int32 → GM → Option (Int32 × GM)) (G : GM) : Option (Int32 × GM) :=
  (k_X10_alike_131 v1 v2 v3 v4 v6 v7 (0 : Int32) s0 kc61 kc71 G)
def lp_X10_alike_71 (v1 : Int32) (v2 : Int32) (v3 : Int32) (v4 : Int32) (v6 : Int32) (kc61 : Int32 → Int32 → GM → Option (Int32 × GM)) (v5 : Int32) (v7 : Int32) (G : GM) (kc71 : Int32 → Int32 → GM → Option (Int32 × GM)) : Option (Int32 × GM) :=
  if (15 : Int32) ≤ v7 then
((kc61 v5 (v6 + (1 : Int32)) G))
else
(gd (inb (((15 : Int32) * v2) + v6) 90) <|
if (gI G 206 (((15 : Int32) * v2) + v6).toNatClampNeg) ≤ 0 then
((k_X10_alike_130 v1 v2 v3 v4 v6 v7 v5 kc61 kc71 G))
else
(gd (inb (((15 : Int32) * v2) + v6) 90) <|
gd (inb (((45 : Int32) + ((15 : Int32) * v4)) + v7) 90) <|
if (gI G 206 (((15 : Int32) * v2) + v6).toNatClampNeg) = (gI G 206 (((45 : Int32) + ((15 : Int32) * v4)) + v7).toNatClampNeg) then
((k_X10_alike_131 v1 v2 v3 v4 v6 v7 (1 : Int32) v5 kc61 kc71 G))
else
((k_X10_alike_130 v1 v2 v3 v4 v6 v7 v5 kc61 kc71 G))))
def lp_X10_alike_61 (v1 : Int32) (v2 : Int32) (v3 : Int32) (v4 : Int32)   (v5 : Int32) (v6 : Int32) (G : GM) (kc61 : Int32 → Int32 → GM → Option (Int32 × GM)) : Option (Int32 × GM) :=
  if (15 : Int32) ≤ v6 then
(some (v5, G))
else
((wl2 FU (lp_X10_alike_71 v1 v2 v3 v4 v6 kc61) v5 (0 : Int32) G))
def f_X10_alike (v1 : Int32) (v2 : Int32) (v3 : Int32) (v4 : Int32) (G : GM) : Option (Int32 × GM) :=
  lt (sI G 186 0 (0 : Int32)) fun G2 =>
ob (f_X10_isSerial v1 G2) fun r7 G7 =>
if r7 = 0 then
(some ((-2 : Int32), G7))
else
(ob (f_X10_isCard v2 G7) fun r15 G15 =>
if r15 = 0 then
(some ((-2 : Int32), G15))
else
(ob (f_X10_isSerial v3 G15) fun r23 G23 =>
if r23 = 0 then
(some ((-2 : Int32), G23))
else
(ob (f_X10_isCard v4 G23) fun r32 G32 =>
if r32 = 0 then
(some ((-2 : Int32), G32))
else
(ov (f_X10_makes (0 : Int32) v1 (0 : Int32) G32) fun G45 =>
ov (f_X10_makes (0 : Int32) v3 (1 : Int32) G45) fun G52 =>
(wl2 FU (lp_X10_alike_61 v1 v2 v3 v4) (0 : Int32) (0 : Int32) G52)))))
def f_X10_sell (v1 : Int32) (G : GM) : Option (Int32 × GM) :=
  lt (sI G 186 0 (0 : Int32)) fun G2 =>
ob (f_X10_isSerial v1 G2) fun r7 G7 =>
if r7 = 0 then
(some ((-2 : Int32), G7))
else
(gd (inb (4 : Int32) 48) <|
if (gI G7 193 (4 : Int32).toNatClampNeg) = (8 : Int32) then
(some ((-3 : Int32), G7))
else
(ob (f_X10_isSoldIn (0 : Int32) v1 G7) fun r33 G33 =>
if r33 = 0 then
(gd (inb (4 : Int32) 48) <|
gd (inb (gI G33 193 (4 : Int32).toNatClampNeg) 48) <| lt (sI G33 196 (gI G33 193 (4 : Int32).toNatClampNeg).toNatClampNeg v1) fun G53 =>
gd (inb (4 : Int32) 48) <|
gd (inb (4 : Int32) 48) <| lt (sI G53 193 (4 : Int32).toNatClampNeg ((gI G53 193 (4 : Int32).toNatClampNeg) + (1 : Int32))) fun G63 =>
gd (inb (4 : Int32) 48) <|
some ((gI G63 193 (4 : Int32).toNatClampNeg), G63))
else
(some ((-5 : Int32), G33))))
def f_X10_unsell  (G : GM) : Option (Int32 × GM) :=
  lt (sI G 186 0 (0 : Int32)) fun G2 =>
ob (f_X10_isHall G2) fun r6 G6 =>
if r6 = 0 then
(some ((-2 : Int32), G6))
else
(gd (inb (4 : Int32) 48) <|
if (gI G6 193 (4 : Int32).toNatClampNeg) = 0 then
(some ((0 : Int32), G6))
else
(gd (inb (4 : Int32) 48) <|
gd (inb (4 : Int32) 48) <| lt (sI G6 193 (4 : Int32).toNatClampNeg ((gI G6 193 (4 : Int32).toNatClampNeg) - (1 : Int32))) fun G35 =>
some ((1 : Int32), G35)))
def f_X10_sold (v1 : Int32) (G : GM) : Option (Int32 × GM) :=
  lt (sI G 186 0 (0 : Int32)) fun G2 =>
gd (inb (4 : Int32) 48) <|
ob (f_X10_in (v1.toInt64) (0 : Int64) (((gI G2 193 (4 : Int32).toNatClampNeg) - (1 : Int32)).toInt64) G2) fun r17 G17 =>
if r17 = 0 then
(some ((-1 : Int32), G17))
else
(gd (inb v1 48) <|
some ((gI G17 196 v1.toNatClampNeg), G17))
def f_X10_caller (v1 : Int32) (G : GM) : Option (Int32 × GM) :=
  lt (sI G 186 0 (0 : Int32)) fun G2 =>
ob (f_X10_isHall G2) fun r6 G6 =>
if r6 = 0 then
(some ((-2 : Int32), G6))
else
(ob (f_X10_in (v1.toInt64) (0 : Int64) (2000000000 : Int64) G6) fun r18 G18 =>
if r18 = 0 then
(some ((-2 : Int32), G18))
else
(ov (f_X10_callsBy (0 : Int32) (v1.toInt64) G18) fun G31 =>
some ((0 : Int32), G31)))
def lp_X10_calls_119 (v1 : Int32)   (v3 : Int32) (G : GM) (kc119 : Int32 → GM → Option (Int32 × GM)) : Option (Int32 × GM) :=
  gd (inb v1 4) <|
if (gI G 188 v1.toNatClampNeg) ≤ v3 then
(some ((0 : Int32), G))
else
(gd (inb (((60 : Int32) * v1) + v3) 240) <|
gd (inb v3 270) <| lt (sI G 197 v3.toNatClampNeg ((gJ G 189 (((60 : Int32) * v1) + v3).toNatClampNeg).toInt32)) fun G146 =>
(kc119 (v3 + (1 : Int32)) G146))
def lp_X10_calls_69 (v1 : Int32) (v3 : Int32) (kc35 : Int32 → GM → Option (Int32 × GM)) (v4 : Int32) (G : GM) (kc69 : Int32 → GM → Option (Int32 × GM)) : Option (Int32 × GM) :=
  if v3 ≤ v4 then
((kc35 (v3 + (1 : Int32)) G))
else
(gd (inb (((60 : Int32) * v1) + v4) 240) <|
gd (inb (((60 : Int32) * v1) + v3) 240) <|
if (lg_cmp (gJ G 189 (((60 : Int32) * v1) + v4).toNatClampNeg) (gJ G 189 (((60 : Int32) * v1) + v3).toNatClampNeg)) = 0 then
(some ((-2 : Int32), G))
else
((kc69 (v4 + (1 : Int32)) G)))
def lp_X10_calls_35 (v1 : Int32)   (v3 : Int32) (G : GM) (kc35 : Int32 → GM → Option (Int32 × GM)) : Option (Int32 × GM) :=
  gd (inb v1 4) <|
if (gI G 188 v1.toNatClampNeg) ≤ v3 then
((wl1 FU (lp_X10_calls_119 v1) (0 : Int32) G))
else
(gd (inb (((60 : Int32) * v1) + v3) 240) <|
ob (f_X10_isNumber (gJ G 189 (((60 : Int32) * v1) + v3).toNatClampNeg) G) fun r57 G57 =>
if r57 = 0 then
(some ((-2 : Int32), G57))
else
((wl1 FU (lp_X10_calls_69 v1 v3 kc35) (0 : Int32) G57)))
def f_X10_calls (v1 : Int32) (G : GM) : Option (Int32 × GM) :=
  lt (sI G 186 0 (0 : Int32)) fun G2 =>
ob (f_X10_whyNot v1 G2) fun r7 G7 =>
if r7 = 0 then
(gd (inb v1 4) <|
ob (f_X10_all G7) fun r24 G24 =>
if (gI G7 188 v1.toNatClampNeg) = r24 then
((wl1 FU (lp_X10_calls_35 v1) (0 : Int32) G24))
else
(some ((-2 : Int32), G24)))
else
(some (r7, G7))
def f_X10_call (v1 : Int32) (G : GM) : Option (Int32 × GM) :=
  lt (sI G 186 0 (0 : Int32)) fun G2 =>
ob (f_X10_all G2) fun r9 G9 =>
ob (f_X10_in (v1.toInt64) (0 : Int64) ((r9 - (1 : Int32)).toInt64) G9) fun r15 G15 =>
if r15 = 0 then
(some ((-1 : Int32), G15))
else
(gd (inb v1 270) <|
some ((gI G15 197 v1.toNatClampNeg), G15))
def lp_X10_calledIn_2 (v1 : Int32) (v2 : Int32)   (v3 : Int32) (G : GM) (kc2 : Int32 → GM → Option (Int32 × GM)) : Option (Int32 × GM) :=
  ob (f_X10_all G) fun r4 G4 =>
if r4 ≤ v3 then
(some ((-1 : Int32), G4))
else
(gd (inb (((45 : Int32) * v1) + v3) 270) <|
if (gI G4 197 (((45 : Int32) * v1) + v3).toNatClampNeg) = v2 then
(some ((v3 + (1 : Int32)), G4))
else
((kc2 (v3 + (1 : Int32)) G4)))
def f_X10_calledIn (v1 : Int32) (v2 : Int32) (G : GM) : Option (Int32 × GM) :=
  (wl1 FU (lp_X10_calledIn_2 v1 v2) (0 : Int32) G)
def f_X10_called (v1 : Int32) (G : GM) : Option (Int32 × GM) :=
  lt (sI G 186 0 (0 : Int32)) fun G2 =>
ob (f_X10_isNumber (v1.toInt64) G2) fun r8 G8 =>
if r8 = 0 then
(some ((-2 : Int32), G8))
else
(ob (f_X10_calledIn (0 : Int32) v1 G8) fun r17 G17 =>
some (r17, G17))
def k_X10_lackOf_60 (v1 : Int32) (v2 : Int32) (v3 : Int32) (v4 : Int32) (v6 : Int32) (s0 : Int32) (s1 : Int32) (kc6 : Int32 → Int32 → GM → Option (Int32 × GM)) (G : GM) : Option (Int32 × GM) :=
  lt (s1 + s0) fun x61 =>
(kc6 x61 (v6 + (1 : Int32)) G)
def k_X10_lackOf_59 (v1 : Int32) (v2 : Int32) (v3 : Int32) (v4 : Int32) (v6 : Int32) (s0 : Int32) (kc6 : Int32 → Int32 → GM → Option (Int32 × GM)) (G : GM) : Option (Int32 × GM) :=
  (k_X10_lackOf_60 v1 v2 v3 v4 v6 (0 : Int32) s0 kc6 G)
def lp_X10_lackOf_6 (v1 : Int32) (v2 : Int32) (v3 : Int32) (v4 : Int32)   (v5 : Int32) (v6 : Int32) (G : GM) (kc6 : Int32 → Int32 → GM → Option (Int32 × GM)) : Option (Int32 × GM) :=
  if (5 : Int32) ≤ v6 then
(some (v5, G))
else
(ob (f_X10_at (0 : Int32) v2 v3 v6 G) fun r24 G24 =>
gd (inb r24 90) <|
if (gI G24 206 r24.toNatClampNeg) ≤ 0 then
((k_X10_lackOf_59 v1 v2 v3 v4 v6 v5 kc6 G24))
else
(ob (f_X10_at (0 : Int32) v2 v3 v6 G24) fun r43 G43 =>
gd (inb r43 90) <|
ob (f_X10_calledIn v1 (gI G43 206 r43.toNatClampNeg) G43) fun r47 G47 =>
if r47 ≤ v4 then
((k_X10_lackOf_59 v1 v2 v3 v4 v6 v5 kc6 G47))
else
((k_X10_lackOf_60 v1 v2 v3 v4 v6 (1 : Int32) v5 kc6 G47))))
def f_X10_lackOf (v1 : Int32) (v2 : Int32) (v3 : Int32) (v4 : Int32) (G : GM) : Option (Int32 × GM) :=
  (wl2 FU (lp_X10_lackOf_6 v1 v2 v3 v4) (0 : Int32) (0 : Int32) G)
def f_X10_isAsked (v1 : Int32) (v2 : Int32) (v3 : Int32) (G : GM) : Option (Int32 × GM) :=
  ob (f_X10_isSerial v1 G) fun r2 G2 =>
if r2 = 0 then
(some ((0 : Int32), G2))
else
(ob (f_X10_isCard v2 G2) fun r10 G10 =>
if r10 = 0 then
(some ((0 : Int32), G10))
else
(ob (f_X10_all G10) fun r20 G20 =>
ob (f_X10_in (v3.toInt64) (0 : Int64) (r20.toInt64) G20) fun r24 G24 =>
if r24 = 0 then
(some ((0 : Int32), G24))
else
(some ((1 : Int32), G24))))
def lp_X10_daubs_43 (v1 : Int32) (v2 : Int32) (v3 : Int32)   (v4 : Int32) (v5 : Int32) (G : GM) (kc43 : Int32 → Int32 → GM → Option (Int32 × GM)) : Option (Int32 × GM) :=
  gd (inb (1 : Int32) 48) <|
if (gI G 193 (1 : Int32).toNatClampNeg) ≤ v5 then
(some (v4, G))
else
(ob (f_X10_lackOf (0 : Int32) v2 v5 v3 G) fun r62 G62 =>
lt (v4 - r62) fun x66 =>
(kc43 x66 (v5 + (1 : Int32)) G62))
def f_X10_daubs (v1 : Int32) (v2 : Int32) (v3 : Int32) (G : GM) : Option (Int32 × GM) :=
  lt (sI G 186 0 (0 : Int32)) fun G2 =>
ob (f_X10_isAsked v1 v2 v3 G2) fun r9 G9 =>
if r9 = 0 then
(some ((-2 : Int32), G9))
else
(ov (f_X10_makes (0 : Int32) v1 (0 : Int32) G9) fun G22 =>
gd (inb (1 : Int32) 48) <|
gd (inb (2 : Int32) 48) <|
lt ((gI G22 193 (1 : Int32).toNatClampNeg) * (gI G22 193 (2 : Int32).toNatClampNeg)) fun x38 =>
(wl2 FU (lp_X10_daubs_43 v1 v2 v3) x38 (0 : Int32) G22))
def k_X10_full_61 (v1 : Int32) (v2 : Int32) (v3 : Int32) (v5 : Int32) (s0 : Int32) (s1 : Int32) (kc31 : Int32 → Int32 → GM → Option (Int32 × GM)) (G : GM) : Option (Int32 × GM) :=
  lt (s1 + s0) fun x62 =>
(kc31 x62 (v5 + (1 : Int32)) G)
def lp_X10_full_31 (v1 : Int32) (v2 : Int32) (v3 : Int32)   (v4 : Int32) (v5 : Int32) (G : GM) (kc31 : Int32 → Int32 → GM → Option (Int32 × GM)) : Option (Int32 × GM) :=
  gd (inb (1 : Int32) 48) <|
if (gI G 193 (1 : Int32).toNatClampNeg) ≤ v5 then
(some (v4, G))
else
(ob (f_X10_lackOf (0 : Int32) v2 v5 v3 G) fun r50 G50 =>
if r50 = 0 then
((k_X10_full_61 v1 v2 v3 v5 (1 : Int32) v4 kc31 G50))
else
((k_X10_full_61 v1 v2 v3 v5 (0 : Int32) v4 kc31 G50)))
def f_X10_full (v1 : Int32) (v2 : Int32) (v3 : Int32) (G : GM) : Option (Int32 × GM) :=
  lt (sI G 186 0 (0 : Int32)) fun G2 =>
ob (f_X10_isAsked v1 v2 v3 G2) fun r9 G9 =>
if r9 = 0 then
(some ((-2 : Int32), G9))
else
(ov (f_X10_makes (0 : Int32) v1 (0 : Int32) G9) fun G22 =>
(wl2 FU (lp_X10_full_31 v1 v2 v3) (0 : Int32) (0 : Int32) G22))
def k_X10_lacksOf_98 (v1 : Int32) (v2 : Int32) (v3 : Int32) (v4 : Int32) (v5 : Int32) (v6 : Int32) (v7 : Int32) (v8 : Int32) (v9 : Int32) (kc27 : Int32 → Int32 → GM → Option (Int32 × GM)) (G : GM) : Option (Int32 × GM) :=
  gd (inb v9 3) <| lt (sI G 208 v9.toNatClampNeg v8) fun G106 =>
(kc27 v6 (v7 + (1 : Int32)) G106)
def lp_X10_lacksOf_57 (v1 : Int32) (v2 : Int32) (v3 : Int32) (v4 : Int32) (v5 : Int32) (v6 : Int32) (v7 : Int32) (v8 : Int32) (kc27 : Int32 → Int32 → GM → Option (Int32 × GM)) (v9 : Int32) (G : GM) (kc57 : Int32 → GM → Option (Int32 × GM)) : Option (Int32 × GM) :=
  if v9 ≤ 0 then
((k_X10_lacksOf_98 v1 v2 v3 v4 v5 v6 v7 v8 v9 kc27 G))
else
(gd (inb (v9 - (1 : Int32)) 3) <|
if (gI G 208 (v9 - (1 : Int32)).toNatClampNeg) ≤ v8 then
((k_X10_lacksOf_98 v1 v2 v3 v4 v5 v6 v7 v8 v9 kc27 G))
else
(gd (inb (v9 - (1 : Int32)) 3) <|
gd (inb v9 3) <| lt (sI G 208 v9.toNatClampNeg (gI G 208 (v9 - (1 : Int32)).toNatClampNeg)) fun G91 =>
(kc57 (v9 + (-1 : Int32)) G91)))
def lp_X10_lacksOf_27 (v1 : Int32) (v2 : Int32) (v3 : Int32) (v4 : Int32) (v5 : Int32)  (v6 : Int32) (v7 : Int32) (G : GM) (kc27 : Int32 → Int32 → GM → Option (Int32 × GM)) : Option (Int32 × GM) :=
  if v5 ≤ v7 then
(if v3 = 0 then
(gd (inb (0 : Int32) 3) <|
some ((gI G 208 (0 : Int32).toNatClampNeg), G))
else
(if v3 = (1 : Int32) then
(gd (inb (0 : Int32) 3) <|
gd (inb (1 : Int32) 3) <|
some (((gI G 208 (0 : Int32).toNatClampNeg) + (gI G 208 (1 : Int32).toNatClampNeg)), G))
else
(some (v6, G))))
else
(ob (f_X10_lackOf v1 v2 v7 v4 G) fun r41 G41 =>
lt (v6 + r41) fun x51 =>
(wl1 FU (lp_X10_lacksOf_57 v1 v2 v3 v4 v5 x51 v7 r41 kc27) v7 G41))
def k_X10_lacksOf_21 (v1 : Int32) (v2 : Int32) (v3 : Int32) (v4 : Int32) (v5 : Int32)  (G : GM) : Option (Int32 × GM) :=
  (wl2 FU (lp_X10_lacksOf_27 v1 v2 v3 v4 v5) (0 : Int32) (0 : Int32) G)
def f_X10_lacksOf (v1 : Int32) (v2 : Int32) (v3 : Int32) (v4 : Int32) (G : GM) : Option (Int32 × GM) :=
  gd (inb (1 : Int32) 48) <|
lt (gI G 193 (1 : Int32).toNatClampNeg) fun x6 =>
if v3 = (1 : Int32) then
(if (2 : Int32) ≤ x6 then
((k_X10_lacksOf_21 v1 v2 v3 v4 x6 G))
else
(some ((-1 : Int32), G)))
else
((k_X10_lacksOf_21 v1 v2 v3 v4 x6 G))
def f_X10_isKind (v0 : Int32) (G : GM) : Option (Int32 × GM) :=
  ob (f_X10_in (v0.toInt64) (0 : Int64) (2 : Int64) G) fun r6 G6 =>
gd (decide (r6 = 0 ∨ r6 = 1)) (some (r6, G6))
def f_X10_lacks (v1 : Int32) (v2 : Int32) (v3 : Int32) (v4 : Int32) (G : GM) : Option (Int32 × GM) :=
  lt (sI G 186 0 (0 : Int32)) fun G2 =>
ob (f_X10_isAsked v1 v2 v4 G2) fun r10 G10 =>
if r10 = 0 then
(some ((-2 : Int32), G10))
else
(ob (f_X10_isKind v3 G10) fun r17 G17 =>
if r17 = 0 then
(some ((-2 : Int32), G17))
else
(ov (f_X10_makes (0 : Int32) v1 (0 : Int32) G17) fun G30 =>
ob (f_X10_lacksOf (0 : Int32) v2 v3 v4 G30) fun r39 G39 =>
some (r39, G39)))
def lp_X10_doneOf_3 (v1 : Int32) (v2 : Int32) (v3 : Int32)   (v4 : Int32) (G : GM) (kc3 : Int32 → GM → Option (Int32 × GM)) : Option (Int32 × GM) :=
  ob (f_X10_all G) fun r6 G6 =>
if r6 < v4 then
(some ((-1 : Int32), G6))
else
(ob (f_X10_lacksOf v1 v2 v3 v4 G6) fun r18 G18 =>
if r18 = 0 then
(some (v4, G18))
else
((kc3 (v4 + (1 : Int32)) G18)))
def f_X10_doneOf (v1 : Int32) (v2 : Int32) (v3 : Int32) (G : GM) : Option (Int32 × GM) :=
  (wl1 FU (lp_X10_doneOf_3 v1 v2 v3) (0 : Int32) G)
def f_X10_done (v1 : Int32) (v2 : Int32) (v3 : Int32) (G : GM) : Option (Int32 × GM) :=
  lt (sI G 186 0 (0 : Int32)) fun G2 =>
ob (f_X10_isSerial v1 G2) fun r7 G7 =>
if r7 = 0 then
(some ((-2 : Int32), G7))
else
(ob (f_X10_isCard v2 G7) fun r15 G15 =>
if r15 = 0 then
(some ((-2 : Int32), G15))
else
(ob (f_X10_isKind v3 G15) fun r22 G22 =>
if r22 = 0 then
(some ((-2 : Int32), G22))
else
(ov (f_X10_makes (0 : Int32) v1 (0 : Int32) G22) fun G35 =>
ob (f_X10_doneOf (0 : Int32) v2 v3 G35) fun r42 G42 =>
some (r42, G42))))
def f_X10_claim (v1 : Int32) (v2 : Int32) (v3 : Int32) (v4 : Int32) (G : GM) : Option (Int32 × GM) :=
  lt (sI G 186 0 (0 : Int32)) fun G2 =>
ob (f_X10_isSerial v1 G2) fun r7 G7 =>
if r7 = 0 then
(some ((-2 : Int32), G7))
else
(ob (f_X10_isCard v2 G7) fun r15 G15 =>
if r15 = 0 then
(some ((-2 : Int32), G15))
else
(ob (f_X10_isKind v3 G15) fun r22 G22 =>
if r22 = 0 then
(some ((-2 : Int32), G22))
else
(ob (f_X10_all G22) fun r33 G33 =>
ob (f_X10_in (v4.toInt64) (1 : Int64) (r33.toInt64) G33) fun r37 G37 =>
if r37 = 0 then
(some ((-2 : Int32), G37))
else
(ov (f_X10_makes (0 : Int32) v1 (0 : Int32) G37) fun G50 =>
ob (f_X10_doneOf (0 : Int32) v2 v3 G50) fun r57 G57 =>
if r57 = v4 then
(some ((0 : Int32), G57))
else
(if r57 = (-1 : Int32) then
(some ((1 : Int32), G57))
else
(if v4 ≤ r57 then
(some ((1 : Int32), G57))
else
(some ((2 : Int32), G57))))))))
def k_X10_races_117 (v1 : Int32) (v2 : Int32) (v3 : Int32) (v4 : Int32) (v5 : Int32) (s0 : Int32) (kc12 : Int32 → GM → Option (GM)) (kc37 : Int32 → GM → Option (GM)) (G : GM) : Option (GM) :=
  lt (sI G 186 41 s0) fun G117 =>
lt (sI G117 186 40 v5) fun G123 =>
(kc37 (v4 + (1 : Int32)) G123)
def k_X10_races_97 (v1 : Int32) (v2 : Int32) (v3 : Int32) (v4 : Int32) (v5 : Int32) (kc12 : Int32 → GM → Option (GM)) (kc37 : Int32 → GM → Option (GM)) (G : GM) : Option (GM) :=
  if v5 = (gI G 186 40) then
((k_X10_races_117 v1 v2 v3 v4 v5 ((gI G 186 41) + (1 : Int32)) kc12 kc37 G))
else
((k_X10_races_117 v1 v2 v3 v4 v5 (1 : Int32) kc12 kc37 G))
def lp_X10_races_37 (v1 : Int32) (v2 : Int32) (v3 : Int32) (kc12 : Int32 → GM → Option (GM)) (v4 : Int32) (G : GM) (kc37 : Int32 → GM → Option (GM)) : Option (GM) :=
  gd (inb (0 : Int32) 48) <|
if (gI G 193 (0 : Int32).toNatClampNeg) ≤ v4 then
((kc12 (v3 + (1 : Int32)) G))
else
(ob (f_X10_doneOf v1 v4 v2 G) fun r53 G53 =>
gd (inb (((3 : Int32) * v3) + v4) 24) <| lt (sI G53 209 (((3 : Int32) * v3) + v4).toNatClampNeg r53) fun G70 =>
if r53 = (-1 : Int32) then
((kc37 (v4 + (1 : Int32)) G70))
else
(if (gI G70 186 40) = (-1 : Int32) then
((k_X10_races_97 v1 v2 v3 v4 r53 kc12 kc37 G70))
else
(if r53 ≤ (gI G70 186 40) then
((k_X10_races_97 v1 v2 v3 v4 r53 kc12 kc37 G70))
else
((kc37 (v4 + (1 : Int32)) G70)))))
def lp_X10_races_12 (v1 : Int32) (v2 : Int32)   (v3 : Int32) (G : GM) (kc12 : Int32 → GM → Option (GM)) : Option (GM) :=
  gd (inb (4 : Int32) 48) <|
if (gI G 193 (4 : Int32).toNatClampNeg) ≤ v3 then
(some G)
else
(gd (inb v3 48) <|
ov (f_X10_makes (0 : Int32) (gI G 196 v3.toNatClampNeg) (0 : Int32) G) fun G31 =>
(wl1 FU (lp_X10_races_37 v1 v2 v3 kc12) (0 : Int32) G31))
def f_X10_races (v1 : Int32) (v2 : Int32) (G : GM) : Option (GM) :=
  lt (sI G 186 40 (-1 : Int32)) fun G2 =>
lt (sI G2 186 41 (0 : Int32)) fun G7 =>
(wl1 FU (lp_X10_races_12 v1 v2) (0 : Int32) G7)
def f_X10_isWinner (v1 : Int32) (v2 : Int32) (G : GM) : Option (Int32 × GM) :=
  if (gI G 186 40) = (-1 : Int32) then
(some ((0 : Int32), G))
else
(gd (inb (((3 : Int32) * v1) + v2) 24) <|
if (gI G 209 (((3 : Int32) * v1) + v2).toNatClampNeg) = (gI G 186 40) then
(some ((1 : Int32), G))
else
(some ((0 : Int32), G)))
def f_X10_first_ (v1 : Int32) (G : GM) : Option (Int32 × GM) :=
  lt (sI G 186 0 (0 : Int32)) fun G2 =>
ob (f_X10_isHall G2) fun r6 G6 =>
if r6 = 0 then
(some ((-2 : Int32), G6))
else
(ob (f_X10_isKind v1 G6) fun r13 G13 =>
if r13 = 0 then
(some ((-2 : Int32), G13))
else
(ov (f_X10_races (0 : Int32) v1 G13) fun G25 =>
some ((gI G25 186 40), G25)))
def lp_X10_winner_62 (v1 : Int32) (v2 : Int32) (v4 : Int32) (kc48 : Int32 → Int32 → GM → Option (Int32 × GM)) (v3 : Int32) (v5 : Int32) (G : GM) (kc62 : Int32 → Int32 → GM → Option (Int32 × GM)) : Option (Int32 × GM) :=
  gd (inb (0 : Int32) 48) <|
if (gI G 193 (0 : Int32).toNatClampNeg) ≤ v5 then
((kc48 v3 (v4 + (1 : Int32)) G))
else
(ob (f_X10_isWinner v4 v5 G) fun r78 G78 =>
if r78 = 0 then
((kc62 v3 (v5 + (1 : Int32)) G78))
else
(if v3 = 0 then
(some ((((10 : Int32) * v4) + v5), G78))
else
((kc62 (v3 + (-1 : Int32)) (v5 + (1 : Int32)) G78))))
def lp_X10_winner_48 (v1 : Int32) (v2 : Int32)   (v3 : Int32) (v4 : Int32) (G : GM) (kc48 : Int32 → Int32 → GM → Option (Int32 × GM)) : Option (Int32 × GM) :=
  gd (inb (4 : Int32) 48) <|
if (gI G 193 (4 : Int32).toNatClampNeg) ≤ v4 then
(some ((-1 : Int32), G))
else
((wl2 FU (lp_X10_winner_62 v1 v2 v4 kc48) v3 (0 : Int32) G))
def f_X10_winner (v1 : Int32) (v2 : Int32) (G : GM) : Option (Int32 × GM) :=
  lt (sI G 186 0 (0 : Int32)) fun G2 =>
ob (f_X10_isHall G2) fun r6 G6 =>
if r6 = 0 then
(some ((-2 : Int32), G6))
else
(ob (f_X10_isKind v1 G6) fun r13 G13 =>
if r13 = 0 then
(some ((-2 : Int32), G13))
else
(if (-1 : Int32) ≤ v2 then
(ov (f_X10_races (0 : Int32) v1 G13) fun G30 =>
if v2 = (-1 : Int32) then
(some ((gI G30 186 41), G30))
else
((wl2 FU (lp_X10_winner_48 v1 v2) v2 (0 : Int32) G30)))
else
(some ((-2 : Int32), G13))))
def f_X10_eachOf (v1 : Int32) (G : GM) : Option (Int32 × GM) :=
  if (gI G 186 41) = 0 then
(some ((0 : Int32), G))
else
(gd (decide (¬ (gI G 186 41) = 0)) <|
some ((v1 / (gI G 186 41)), G))
def f_X10_prize (v1 : Int32) (v2 : Int32) (G : GM) : Option (Int32 × GM) :=
  lt (sI G 186 0 (0 : Int32)) fun G2 =>
ob (f_X10_isHall G2) fun r6 G6 =>
if r6 = 0 then
(some ((-2 : Int32), G6))
else
(ob (f_X10_isKind v1 G6) fun r13 G13 =>
if r13 = 0 then
(some ((-2 : Int32), G13))
else
(ob (f_X10_in (v2.toInt64) (0 : Int64) (1 : Int64) G13) fun r23 G23 =>
if r23 = 0 then
(some ((-2 : Int32), G23))
else
(ov (f_X10_races (0 : Int32) v1 G23) fun G35 =>
gd (inb v1 18) <|
ob (f_X10_eachOf (gI G35 195 v1.toNatClampNeg) G35) fun r45 G45 =>
if v2 = 0 then
(some (r45, G45))
else
(gd (inb v1 18) <|
some (((gI G45 195 v1.toNatClampNeg) - (r45 * (gI G45 186 41))), G45)))))
def f_X10_jackpotEach  (G : GM) : Option (Int32 × GM) :=
  gd (inb (6 : Int32) 48) <|
if (gI G 193 (6 : Int32).toNatClampNeg) ≤ 0 then
(some ((0 : Int32), G))
else
(if (gI G 186 40) = (-1 : Int32) then
(some ((0 : Int32), G))
else
(gd (inb (6 : Int32) 48) <|
if (gI G 193 (6 : Int32).toNatClampNeg) < (gI G 186 40) then
(some ((0 : Int32), G))
else
(gd (inb (5 : Int32) 48) <|
ob (f_X10_eachOf (gI G 193 (5 : Int32).toNatClampNeg) G) fun r39 G39 =>
some (r39, G39))))
def f_X10_jackpot (v1 : Int32) (G : GM) : Option (Int32 × GM) :=
  lt (sI G 186 0 (0 : Int32)) fun G2 =>
ob (f_X10_isHall G2) fun r6 G6 =>
if r6 = 0 then
(some ((-2 : Int32), G6))
else
(ob (f_X10_in (v1.toInt64) (0 : Int64) (1 : Int64) G6) fun r16 G16 =>
if r16 = 0 then
(some ((-2 : Int32), G16))
else
(ov (f_X10_races (0 : Int32) (2 : Int32) G16) fun G28 =>
if v1 = 0 then
(ob (f_X10_jackpotEach G28) fun r40 G40 =>
some (((gI G28 186 41) * r40), G40))
else
(gd (inb (6 : Int32) 48) <|
if (gI G28 193 (6 : Int32).toNatClampNeg) = 0 then
(some ((-1 : Int32), G28))
else
(if (gI G28 186 40) = (-1 : Int32) then
(some ((-1 : Int32), G28))
else
(gd (inb (6 : Int32) 48) <|
if (gI G28 186 40) ≤ (gI G28 193 (6 : Int32).toNatClampNeg) then
(some ((0 : Int32), G28))
else
(gd (inb (6 : Int32) 48) <|
some (((gI G28 186 40) - (gI G28 193 (6 : Int32).toNatClampNeg)), G28)))))))
def k_X10_wins_89 (v1 : Int32) (v3 : Int32) (v4 : Int32) (s0 : Int32) (s1 : Int32) (s2 : Int32) (kc30 : Int32 → Int32 → GM → Option (Int32 × GM)) (kc44 : Int32 → Int32 → GM → Option (Int32 × GM)) (G : GM) : Option (Int32 × GM) :=
  lt (s2 + (s1 + s0)) fun x91 =>
(kc44 x91 (v4 + (1 : Int32)) G)
def lp_X10_wins_44 (v1 : Int32) (v3 : Int32) (kc30 : Int32 → Int32 → GM → Option (Int32 × GM)) (v2 : Int32) (v4 : Int32) (G : GM) (kc44 : Int32 → Int32 → GM → Option (Int32 × GM)) : Option (Int32 × GM) :=
  gd (inb (0 : Int32) 48) <|
if (gI G 193 (0 : Int32).toNatClampNeg) ≤ v4 then
((kc30 v2 (v3 + (1 : Int32)) G))
else
(ob (f_X10_isWinner v1 v4 G) fun r59 G59 =>
if r59 = 0 then
((kc44 v2 (v4 + (1 : Int32)) G59))
else
(gd (inb v3 18) <|
ob (f_X10_eachOf (gI G59 195 v3.toNatClampNeg) G59) fun r73 G73 =>
if v3 = (2 : Int32) then
(ob (f_X10_jackpotEach G73) fun r82 G82 =>
(k_X10_wins_89 v1 v3 v4 r82 r73 v2 kc30 kc44 G82))
else
((k_X10_wins_89 v1 v3 v4 (0 : Int32) r73 v2 kc30 kc44 G73))))
def lp_X10_wins_30 (v1 : Int32)   (v2 : Int32) (v3 : Int32) (G : GM) (kc30 : Int32 → Int32 → GM → Option (Int32 × GM)) : Option (Int32 × GM) :=
  if (3 : Int32) ≤ v3 then
(some (v2, G))
else
(ov (f_X10_races (0 : Int32) v3 G) fun G38 =>
(wl2 FU (lp_X10_wins_44 v1 v3 kc30) v2 (0 : Int32) G38))
def f_X10_wins (v1 : Int32) (G : GM) : Option (Int32 × GM) :=
  lt (sI G 186 0 (0 : Int32)) fun G2 =>
gd (inb (4 : Int32) 48) <|
ob (f_X10_in (v1.toInt64) (0 : Int64) (((gI G2 193 (4 : Int32).toNatClampNeg) - (1 : Int32)).toInt64) G2) fun r17 G17 =>
if r17 = 0 then
(some ((-2 : Int32), G17))
else
((wl2 FU (lp_X10_wins_30 v1) (0 : Int32) (0 : Int32) G17))
def lp_X10_laysBook_126 (v1 : Int32) (v2 : Int32) (v3 : Int32) (kc4 : Int32 → Int32 → GM → Option (Int32 × GM)) (v5 : Int32) (G : GM) (kc126 : Int32 → GM → Option (Int32 × GM)) : Option (Int32 × GM) :=
  if (45 : Int32) ≤ v5 then
(gd (inb v2 40) <| lt (sI G 211 v2.toNatClampNeg v3) fun G164 =>
(kc4 (v2 + (1 : Int32)) (v3 + (1 : Int32)) G164))
else
(gd (inb v5 90) <|
gd (inb (((45 : Int32) * v2) + v5) 1800) <| lt (sI G 210 (((45 : Int32) * v2) + v5).toNatClampNeg (gI G 206 v5.toNatClampNeg)) fun G151 =>
(kc126 (v5 + (1 : Int32)) G151))
def k_X10_laysBook_115 (v1 : Int32) (v2 : Int32) (v3 : Int32) (v4 : Int32) (kc4 : Int32 → Int32 → GM → Option (Int32 × GM)) (G : GM) : Option (Int32 × GM) :=
  if v4 = 0 then
((kc4 v2 (v3 + (1 : Int32)) G))
else
((wl1 FU (lp_X10_laysBook_126 v1 v2 v3 kc4) (0 : Int32) G))
def k_X10_laysBook_107 (v1 : Int32) (v2 : Int32) (v3 : Int32) (v5 : Int32) (s0 : Int32) (kc4 : Int32 → Int32 → GM → Option (Int32 × GM)) (kc32 : Int32 → Int32 → GM → Option (Int32 × GM)) (G : GM) : Option (Int32 × GM) :=
  (kc32 s0 (v5 + (1 : Int32)) G)
def k_X10_laysBook_89 (v1 : Int32) (v2 : Int32) (v3 : Int32) (v5 : Int32) (v7 : Int32) (s0 : Int32) (kc4 : Int32 → Int32 → GM → Option (Int32 × GM)) (kc32 : Int32 → Int32 → GM → Option (Int32 × GM)) (kc49 : Int32 → Int32 → GM → Option (Int32 × GM)) (G : GM) : Option (Int32 × GM) :=
  (kc49 s0 (v7 + (1 : Int32)) G)
def k_X10_laysBook_88 (v1 : Int32) (v2 : Int32) (v3 : Int32) (v5 : Int32) (v7 : Int32) (kc4 : Int32 → Int32 → GM → Option (Int32 × GM)) (kc32 : Int32 → Int32 → GM → Option (Int32 × GM)) (kc49 : Int32 → Int32 → GM → Option (Int32 × GM)) (G : GM) : Option (Int32 × GM) :=
  (k_X10_laysBook_89 v1 v2 v3 v5 v7 (0 : Int32) kc4 kc32 kc49 G)
def lp_X10_laysBook_49 (v1 : Int32) (v2 : Int32) (v3 : Int32) (v5 : Int32) (kc4 : Int32 → Int32 → GM → Option (Int32 × GM)) (kc32 : Int32 → Int32 → GM → Option (Int32 × GM)) (v6 : Int32) (v7 : Int32) (G : GM) (kc49 : Int32 → Int32 → GM → Option (Int32 × GM)) : Option (Int32 × GM) :=
  if (45 : Int32) ≤ v7 then
(if v6 = 0 then
((k_X10_laysBook_107 v1 v2 v3 v5 (1 : Int32) kc4 kc32 G))
else
((k_X10_laysBook_107 v1 v2 v3 v5 (0 : Int32) kc4 kc32 G)))
else
(if v6 = 0 then
((k_X10_laysBook_88 v1 v2 v3 v5 v7 kc4 kc32 kc49 G))
else
(gd (inb (((45 : Int32) * v5) + v7) 1800) <|
gd (inb v7 90) <|
if (gI G 210 (((45 : Int32) * v5) + v7).toNatClampNeg) = (gI G 206 v7.toNatClampNeg) then
((k_X10_laysBook_89 v1 v2 v3 v5 v7 (1 : Int32) kc4 kc32 kc49 G))
else
((k_X10_laysBook_88 v1 v2 v3 v5 v7 kc4 kc32 kc49 G))))
def lp_X10_laysBook_32 (v1 : Int32) (v2 : Int32) (v3 : Int32) (kc4 : Int32 → Int32 → GM → Option (Int32 × GM)) (v4 : Int32) (v5 : Int32) (G : GM) (kc32 : Int32 → Int32 → GM → Option (Int32 × GM)) : Option (Int32 × GM) :=
  if v2 ≤ v5 then
((k_X10_laysBook_115 v1 v2 v3 v4 kc4 G))
else
(if v4 = 0 then
((k_X10_laysBook_115 v1 v2 v3 v4 kc4 G))
else
((wl2 FU (lp_X10_laysBook_49 v1 v2 v3 v5 kc4 kc32) (1 : Int32) (0 : Int32) G)))
def lp_X10_laysBook_4 (v1 : Int32)   (v2 : Int32) (v3 : Int32) (G : GM) (kc4 : Int32 → Int32 → GM → Option (Int32 × GM)) : Option (Int32 × GM) :=
  if (9999 : Int32) < v3 then
(some (v2, G))
else
(if (v1 + (40 : Int32)) ≤ v3 then
(some (v2, G))
else
(ov (f_X10_makes (0 : Int32) v3 (0 : Int32) G) fun G23 =>
(wl2 FU (lp_X10_laysBook_32 v1 v2 v3 kc4) (1 : Int32) (0 : Int32) G23)))
def f_X10_laysBook (v1 : Int32) (G : GM) : Option (Int32 × GM) :=
  (wl2 FU (lp_X10_laysBook_4 v1) (0 : Int32) v1 G)
def f_X10_book (v1 : Int32) (v2 : Int32) (G : GM) : Option (Int32 × GM) :=
  lt (sI G 186 0 (0 : Int32)) fun G2 =>
ob (f_X10_isSerial v1 G2) fun r7 G7 =>
if r7 = 0 then
(some ((-2 : Int32), G7))
else
(ob (f_X10_in (v2.toInt64) (0 : Int64) (39 : Int64) G7) fun r22 G22 =>
if r22 = 0 then
(some ((-1 : Int32), G22))
else
(ob (f_X10_laysBook v1 G22) fun r31 G31 =>
if r31 ≤ v2 then
(some ((-1 : Int32), G31))
else
(gd (inb v2 40) <|
some ((gI G31 211 v2.toNatClampNeg), G31))))
def lp_X10_whyNotShape_14 (v1 : Int32)   (v3 : Int32) (G : GM) (kc14 : Int32 → GM → Option (Int32 × GM)) : Option (Int32 × GM) :=
  gd (inb v1 4) <|
if (gI G 188 v1.toNatClampNeg) ≤ v3 then
(some ((0 : Int32), G))
else
(gd (inb (((60 : Int32) * v1) + v3) 240) <|
lt (gJ G 189 (((60 : Int32) * v1) + v3).toNatClampNeg) fun x35 =>
ob (f_X10_in x35 (0 : Int64) (99 : Int64) G) fun r43 G43 =>
if r43 = 0 then
(some ((-2 : Int32), G43))
else
(gd (inb (1 : Int32) 48) <|
if 0 ≤ (lg_cmp (x35 / (10 : Int64)) ((gI G43 193 (1 : Int32).toNatClampNeg).toInt64)) then
(some ((-2 : Int32), G43))
else
(gd (inb (3 : Int32) 48) <|
if (lg_cmp (x35 - x35 / (10 : Int64) * (10 : Int64)) ((gI G43 193 (3 : Int32).toNatClampNeg).toInt64)) < 0 then
((kc14 (v3 + (1 : Int32)) G43))
else
(some ((-2 : Int32), G43)))))
def f_X10_whyNotShape (v1 : Int32) (G : GM) : Option (Int32 × GM) :=
  ob (f_X10_whyNot v1 G) fun r2 G2 =>
if r2 = 0 then
((wl1 FU (lp_X10_whyNotShape_14 v1) (0 : Int32) G2))
else
(some (r2, G2))
def f_X10_later (v1 : Int32) (v2 : Int32) (G : GM) : Option (Int32 × GM) :=
  if v2 ≤ 0 then
(some (v1, G))
else
(ob (f_X10_calledIn (0 : Int32) v2 G) fun r7 G7 =>
if r7 ≤ v1 then
(some (v1, G7))
else
(ob (f_X10_calledIn (0 : Int32) v2 G7) fun r17 G17 =>
some (r17, G17)))
def lp_X10_shapedOf_5 (v1 : Int32) (v2 : Int32)   (v3 : Int32) (v4 : Int32) (G : GM) (kc5 : Int32 → Int32 → GM → Option (Int32 × GM)) : Option (Int32 × GM) :=
  gd (inb v2 4) <|
if (gI G 188 v2.toNatClampNeg) ≤ v4 then
(some (v3, G))
else
(gd (inb (((60 : Int32) * v2) + v4) 240) <|
lt ((gJ G 189 (((60 : Int32) * v2) + v4).toNatClampNeg).toInt32) fun x29 =>
ob (f_X10_at (0 : Int32) v1 (x29 / (10 : Int32)) (x29 - x29 / (10 : Int32) * (10 : Int32)) G) fun r50 G50 =>
gd (inb r50 90) <|
ob (f_X10_later v3 (gI G50 206 r50.toNatClampNeg) G50) fun r54 G54 =>
(kc5 r54 (v4 + (1 : Int32)) G54))
def f_X10_shapedOf (v1 : Int32) (v2 : Int32) (G : GM) : Option (Int32 × GM) :=
  (wl2 FU (lp_X10_shapedOf_5 v1 v2) (0 : Int32) (0 : Int32) G)
def f_X10_shaped (v1 : Int32) (v2 : Int32) (v3 : Int32) (G : GM) : Option (Int32 × GM) :=
  lt (sI G 186 0 (0 : Int32)) fun G2 =>
ob (f_X10_isSerial v1 G2) fun r7 G7 =>
if r7 = 0 then
(some ((-2 : Int32), G7))
else
(ob (f_X10_isCard v2 G7) fun r15 G15 =>
if r15 = 0 then
(some ((-2 : Int32), G15))
else
(ob (f_X10_whyNotShape v3 G15) fun r26 G26 =>
if r26 = 0 then
(ov (f_X10_makes (0 : Int32) v1 (0 : Int32) G26) fun G43 =>
ob (f_X10_shapedOf v2 v3 G43) fun r49 G49 =>
some (r49, G49))
else
(some (r26, G26))))
def k_X10_shape_104 (v1 : Int32) (v2 : Int32) (v6 : Int32) (v7 : Int32) (v8 : Int32) (kc41 : Int32 → Int32 → Int32 → GM → Option (Int32 × GM)) (kc68 : Int32 → Int32 → Int32 → GM → Option (Int32 × GM)) (G : GM) : Option (Int32 × GM) :=
  lt (((10 : Int32) * v6) + v7) fun x116 =>
(kc68 v8 x116 (v7 + (1 : Int32)) G)
def lp_X10_shape_68 (v1 : Int32) (v2 : Int32) (v6 : Int32) (kc41 : Int32 → Int32 → Int32 → GM → Option (Int32 × GM)) (v4 : Int32) (v5 : Int32) (v7 : Int32) (G : GM) (kc68 : Int32 → Int32 → Int32 → GM → Option (Int32 × GM)) : Option (Int32 × GM) :=
  gd (inb (0 : Int32) 48) <|
if (gI G 193 (0 : Int32).toNatClampNeg) ≤ v7 then
((kc41 v4 v5 (v6 + (1 : Int32)) G))
else
(ob (f_X10_shapedOf v7 v1 G) fun r83 G83 =>
if v4 = (-1 : Int32) then
((k_X10_shape_104 v1 v2 v6 v7 r83 kc41 kc68 G83))
else
(if r83 < v4 then
((k_X10_shape_104 v1 v2 v6 v7 r83 kc41 kc68 G83))
else
((kc68 v4 v5 (v7 + (1 : Int32)) G83))))
def lp_X10_shape_41 (v1 : Int32) (v2 : Int32)   (v4 : Int32) (v5 : Int32) (v6 : Int32) (G : GM) (kc41 : Int32 → Int32 → Int32 → GM → Option (Int32 × GM)) : Option (Int32 × GM) :=
  gd (inb (4 : Int32) 48) <|
if (gI G 193 (4 : Int32).toNatClampNeg) ≤ v6 then
(if v2 = 0 then
(some (v4, G))
else
(some (v5, G)))
else
(gd (inb v6 48) <|
ov (f_X10_makes (0 : Int32) (gI G 196 v6.toNatClampNeg) (0 : Int32) G) fun G62 =>
(wl3 FU (lp_X10_shape_68 v1 v2 v6 kc41) v4 v5 (0 : Int32) G62))
def k_X10_shape_25 (v1 : Int32) (v2 : Int32) (s0 : Int32)  (G : GM) : Option (Int32 × GM) :=
  if s0 = 0 then
((wl3 FU (lp_X10_shape_41 v1 v2) (-1 : Int32) (-1 : Int32) (0 : Int32) G))
else
(some (s0, G))
def f_X10_shape (v1 : Int32) (v2 : Int32) (G : GM) : Option (Int32 × GM) :=
  lt (sI G 186 0 (0 : Int32)) fun G2 =>
ob (f_X10_in (v2.toInt64) (0 : Int64) (1 : Int64) G2) fun r9 G9 =>
if r9 = 0 then
((k_X10_shape_25 v1 v2 (-2 : Int32) G9))
else
(ob (f_X10_whyNotShape v1 G9) fun r17 G17 =>
(k_X10_shape_25 v1 v2 r17 G17))
def lp_X10_endOf_11 (v1 : Int32) (v2 : Int32) (v3 : Int32)   (v4 : Int32) (G : GM) (kc11 : Int32 → GM → Option (Int32 × GM)) : Option (Int32 × GM) :=
  ob (f_X10_at (0 : Int32) v1 v2 v4 G) fun r21 G21 =>
gd (inb r21 90) <|
if (gI G21 206 r21.toNatClampNeg) = 0 then
(lt (v4 + v3) fun x32 =>
(kc11 x32 G21))
else
(ob (f_X10_at (0 : Int32) v1 v2 v4 G21) fun r47 G47 =>
gd (inb r47 90) <|
some ((gI G47 206 r47.toNatClampNeg), G47))
def k_X10_endOf_9 (v1 : Int32) (v2 : Int32) (v3 : Int32) (s0 : Int32)  (G : GM) : Option (Int32 × GM) :=
  (wl1 FU (lp_X10_endOf_11 v1 v2 v3) s0 G)
def f_X10_endOf (v1 : Int32) (v2 : Int32) (v3 : Int32) (G : GM) : Option (Int32 × GM) :=
  if v3 ≤ 0 then
((k_X10_endOf_9 v1 v2 v3 (4 : Int32) G))
else
((k_X10_endOf_9 v1 v2 v3 (0 : Int32) G))
def f_X10_corners (v1 : Int32) (v2 : Int32) (G : GM) : Option (Int32 × GM) :=
  lt (sI G 186 0 (0 : Int32)) fun G2 =>
ob (f_X10_isSerial v1 G2) fun r7 G7 =>
if r7 = 0 then
(some ((-2 : Int32), G7))
else
(ob (f_X10_isCard v2 G7) fun r15 G15 =>
if r15 = 0 then
(some ((-2 : Int32), G15))
else
(ov (f_X10_makes (0 : Int32) v1 (0 : Int32) G15) fun G28 =>
gd (inb (1 : Int32) 48) <|
lt ((gI G28 193 (1 : Int32).toNatClampNeg) - (1 : Int32)) fun x39 =>
ob (f_X10_endOf v2 (0 : Int32) (1 : Int32) G28) fun r49 G49 =>
ob (f_X10_later (0 : Int32) r49 G49) fun r52 G52 =>
ob (f_X10_endOf v2 (0 : Int32) (-1 : Int32) G52) fun r59 G59 =>
ob (f_X10_later r52 r59 G59) fun r62 G62 =>
ob (f_X10_endOf v2 x39 (1 : Int32) G62) fun r69 G69 =>
ob (f_X10_later r62 r69 G69) fun r72 G72 =>
ob (f_X10_endOf v2 x39 (-1 : Int32) G72) fun r79 G79 =>
ob (f_X10_later r72 r79 G79) fun r82 G82 =>
some (r82, G82)))
def lp_X10_filled_45 (v1 : Int32) (v2 : Int32) (v3 : Int32)   (v4 : Int32) (v5 : Int32) (G : GM) (kc45 : Int32 → Int32 → GM → Option (Int32 × GM)) : Option (Int32 × GM) :=
  if (3 : Int32) ≤ v5 then
(some (v4, G))
else
(ob (f_X10_at (0 : Int32) v2 v5 v3 G) fun r64 G64 =>
gd (inb r64 90) <|
ob (f_X10_later v4 (gI G64 206 r64.toNatClampNeg) G64) fun r68 G68 =>
(kc45 r68 (v5 + (1 : Int32)) G68))
def f_X10_filled (v1 : Int32) (v2 : Int32) (v3 : Int32) (G : GM) : Option (Int32 × GM) :=
  lt (sI G 186 0 (0 : Int32)) fun G2 =>
ob (f_X10_isSerial v1 G2) fun r7 G7 =>
if r7 = 0 then
(some ((-2 : Int32), G7))
else
(ob (f_X10_isCard v2 G7) fun r15 G15 =>
if r15 = 0 then
(some ((-2 : Int32), G15))
else
(ob (f_X10_isColumn v3 G15) fun r23 G23 =>
if r23 = 0 then
(some ((-2 : Int32), G23))
else
(ov (f_X10_makes (0 : Int32) v1 (0 : Int32) G23) fun G36 =>
(wl2 FU (lp_X10_filled_45 v1 v2 v3) (0 : Int32) (0 : Int32) G36))))
def lp_X10_last_36 (v1 : Int32) (v2 : Int32)   (v3 : Int32) (v4 : Int32) (G : GM) (kc36 : Int32 → Int32 → GM → Option (Int32 × GM)) : Option (Int32 × GM) :=
  if (15 : Int32) ≤ v4 then
(gd (inb (v3 - (1 : Int32)) 270) <|
some ((gI G 197 (v3 - (1 : Int32)).toNatClampNeg), G))
else
(gd (inb (((15 : Int32) * v2) + v4) 90) <|
ob (f_X10_later v3 (gI G 206 (((15 : Int32) * v2) + v4).toNatClampNeg) G) fun r57 G57 =>
(kc36 r57 (v4 + (1 : Int32)) G57))
def f_X10_last (v1 : Int32) (v2 : Int32) (G : GM) : Option (Int32 × GM) :=
  lt (sI G 186 0 (0 : Int32)) fun G2 =>
ob (f_X10_isSerial v1 G2) fun r7 G7 =>
if r7 = 0 then
(some ((-2 : Int32), G7))
else
(ob (f_X10_isCard v2 G7) fun r15 G15 =>
if r15 = 0 then
(some ((-2 : Int32), G15))
else
(ov (f_X10_makes (0 : Int32) v1 (0 : Int32) G15) fun G28 =>
(wl2 FU (lp_X10_last_36 v1 v2) (0 : Int32) (0 : Int32) G28)))
def f_X10_isBy (v1 : Int32) (v2 : Int32) (G : GM) : Option (Int32 × GM) :=
  ob (f_X10_isHall G) fun r1 G1 =>
if r1 = 0 then
(some ((0 : Int32), G1))
else
(ob (f_X10_isKind v1 G1) fun r8 G8 =>
if r8 = 0 then
(some ((0 : Int32), G8))
else
(ob (f_X10_all G8) fun r18 G18 =>
ob (f_X10_in (v2.toInt64) (0 : Int64) (r18.toInt64) G18) fun r22 G22 =>
if r22 = 0 then
(some ((0 : Int32), G22))
else
(some ((1 : Int32), G22))))
def k_X10_sweat_79 (v1 : Int32) (v2 : Int32) (v4 : Int32) (v5 : Int32) (s0 : Int32) (s1 : Int32) (kc22 : Int32 → Int32 → GM → Option (Int32 × GM)) (kc49 : Int32 → Int32 → GM → Option (Int32 × GM)) (G : GM) : Option (Int32 × GM) :=
  lt (s1 + s0) fun x80 =>
(kc49 x80 (v5 + (1 : Int32)) G)
def lp_X10_sweat_49 (v1 : Int32) (v2 : Int32) (v4 : Int32) (kc22 : Int32 → Int32 → GM → Option (Int32 × GM)) (v3 : Int32) (v5 : Int32) (G : GM) (kc49 : Int32 → Int32 → GM → Option (Int32 × GM)) : Option (Int32 × GM) :=
  gd (inb (0 : Int32) 48) <|
if (gI G 193 (0 : Int32).toNatClampNeg) ≤ v5 then
((kc22 v3 (v4 + (1 : Int32)) G))
else
(ob (f_X10_lacksOf (0 : Int32) v5 v1 v2 G) fun r67 G67 =>
if r67 = (1 : Int32) then
((k_X10_sweat_79 v1 v2 v4 v5 (1 : Int32) v3 kc22 kc49 G67))
else
((k_X10_sweat_79 v1 v2 v4 v5 (0 : Int32) v3 kc22 kc49 G67)))
def lp_X10_sweat_22 (v1 : Int32) (v2 : Int32)   (v3 : Int32) (v4 : Int32) (G : GM) (kc22 : Int32 → Int32 → GM → Option (Int32 × GM)) : Option (Int32 × GM) :=
  gd (inb (4 : Int32) 48) <|
if (gI G 193 (4 : Int32).toNatClampNeg) ≤ v4 then
(some (v3, G))
else
(gd (inb v4 48) <|
ov (f_X10_makes (0 : Int32) (gI G 196 v4.toNatClampNeg) (0 : Int32) G) fun G43 =>
(wl2 FU (lp_X10_sweat_49 v1 v2 v4 kc22) v3 (0 : Int32) G43))
def f_X10_sweat (v1 : Int32) (v2 : Int32) (G : GM) : Option (Int32 × GM) :=
  lt (sI G 186 0 (0 : Int32)) fun G2 =>
ob (f_X10_isBy v1 v2 G2) fun r8 G8 =>
if r8 = 0 then
(some ((-2 : Int32), G8))
else
((wl2 FU (lp_X10_sweat_22 v1 v2) (0 : Int32) (0 : Int32) G8))
def k_X10_nearest_94 (v1 : Int32) (v2 : Int32) (v4 : Int32) (v5 : Int32) (s0 : Int32) (kc22 : Int32 → Int32 → GM → Option (Int32 × GM)) (kc49 : Int32 → Int32 → GM → Option (Int32 × GM)) (G : GM) : Option (Int32 × GM) :=
  (kc49 s0 (v5 + (1 : Int32)) G)
def k_X10_nearest_93 (v1 : Int32) (v2 : Int32) (v4 : Int32) (v3 : Int32) (v5 : Int32) (kc22 : Int32 → Int32 → GM → Option (Int32 × GM)) (kc49 : Int32 → Int32 → GM → Option (Int32 × GM)) (G : GM) : Option (Int32 × GM) :=
  (k_X10_nearest_94 v1 v2 v4 v5 v3 kc22 kc49 G)
def k_X10_nearest_88 (v1 : Int32) (v2 : Int32) (v4 : Int32) (v5 : Int32) (v6 : Int32) (kc22 : Int32 → Int32 → GM → Option (Int32 × GM)) (kc49 : Int32 → Int32 → GM → Option (Int32 × GM)) (G : GM) : Option (Int32 × GM) :=
  (k_X10_nearest_94 v1 v2 v4 v5 v6 kc22 kc49 G)
def lp_X10_nearest_49 (v1 : Int32) (v2 : Int32) (v4 : Int32) (kc22 : Int32 → Int32 → GM → Option (Int32 × GM)) (v3 : Int32) (v5 : Int32) (G : GM) (kc49 : Int32 → Int32 → GM → Option (Int32 × GM)) : Option (Int32 × GM) :=
  gd (inb (0 : Int32) 48) <|
if (gI G 193 (0 : Int32).toNatClampNeg) ≤ v5 then
((kc22 v3 (v4 + (1 : Int32)) G))
else
(ob (f_X10_lacksOf (0 : Int32) v5 v1 v2 G) fun r66 G66 =>
if r66 = (-1 : Int32) then
((k_X10_nearest_93 v1 v2 v4 v3 v5 kc22 kc49 G66))
else
(if v3 = (-1 : Int32) then
((k_X10_nearest_88 v1 v2 v4 v5 r66 kc22 kc49 G66))
else
(if v3 ≤ r66 then
((k_X10_nearest_93 v1 v2 v4 v3 v5 kc22 kc49 G66))
else
((k_X10_nearest_88 v1 v2 v4 v5 r66 kc22 kc49 G66)))))
def lp_X10_nearest_22 (v1 : Int32) (v2 : Int32)   (v3 : Int32) (v4 : Int32) (G : GM) (kc22 : Int32 → Int32 → GM → Option (Int32 × GM)) : Option (Int32 × GM) :=
  gd (inb (4 : Int32) 48) <|
if (gI G 193 (4 : Int32).toNatClampNeg) ≤ v4 then
(some (v3, G))
else
(gd (inb v4 48) <|
ov (f_X10_makes (0 : Int32) (gI G 196 v4.toNatClampNeg) (0 : Int32) G) fun G43 =>
(wl2 FU (lp_X10_nearest_49 v1 v2 v4 kc22) v3 (0 : Int32) G43))
def f_X10_nearest (v1 : Int32) (v2 : Int32) (G : GM) : Option (Int32 × GM) :=
  lt (sI G 186 0 (0 : Int32)) fun G2 =>
ob (f_X10_isBy v1 v2 G2) fun r8 G8 =>
if r8 = 0 then
(some ((-2 : Int32), G8))
else
((wl2 FU (lp_X10_nearest_22 v1 v2) (-1 : Int32) (0 : Int32) G8))
def lp_X10_laysSlow_58 (v1 : Int32) (v2 : Int32) (v3 : Int32) (v5 : Int32) (kc8 : Int32 → Int32 → Int32 → GM → Option (GM)) (v4 : Int32) (G : GM) (kc58 : Int32 → GM → Option (GM)) : Option (GM) :=
  if v3 ≤ v4 then
((kc8 v3 v4 (v5 + (1 : Int32)) G))
else
(gd (inb v4 368) <| lt (sI G 212 v4.toNatClampNeg v5) fun G72 =>
(kc58 (v4 + (1 : Int32)) G72))
def k_X10_laysSlow_57 (v1 : Int32) (v2 : Int32) (v4 : Int32) (v5 : Int32) (s0 : Int32) (kc8 : Int32 → Int32 → Int32 → GM → Option (GM)) (G : GM) : Option (GM) :=
  (wl1 FU (lp_X10_laysSlow_58 v1 v2 s0 v5 kc8) v4 G)
def k_X10_laysSlow_37 (v1 : Int32) (v2 : Int32) (v3 : Int32) (v4 : Int32) (v5 : Int32) (s0 : Int32) (kc8 : Int32 → Int32 → Int32 → GM → Option (GM)) (G : GM) : Option (GM) :=
  lt (s0 * v1) fun x39 =>
if x39 ≤ (v3 + v2) then
((k_X10_laysSlow_57 v1 v2 v4 v5 x39 kc8 G))
else
((k_X10_laysSlow_57 v1 v2 v4 v5 (v3 + v2) kc8 G))
def lp_X10_laysSlow_8 (v1 : Int32) (v2 : Int32)   (v3 : Int32) (v4 : Int32) (v5 : Int32) (G : GM) (kc8 : Int32 → Int32 → Int32 → GM → Option (GM)) : Option (GM) :=
  ob (f_X10_all G) fun r11 G11 =>
if (r11 * v1) ≤ v4 then
(some G11)
else
(ob (f_X10_all G11) fun r22 G22 =>
if r22 ≤ v5 then
(ob (f_X10_all G22) fun r34 G34 =>
(k_X10_laysSlow_37 v1 v2 v3 v4 v5 r34 kc8 G34))
else
((k_X10_laysSlow_37 v1 v2 v3 v4 v5 v5 kc8 G22)))
def f_X10_laysSlow (v1 : Int32) (v2 : Int32) (G : GM) : Option (GM) :=
  (wl3 FU (lp_X10_laysSlow_8 v1 v2) (0 : Int32) (0 : Int32) (1 : Int32) G)
def k_X10_slow_173 (v1 : Int32) (v2 : Int32) (v3 : Int32) (v4 : Int32) (v6 : Int32) (v7 : Int32) (s0 : Int32) (kc95 : Int32 → Int32 → GM → Option (Int32 × GM)) (kc119 : Int32 → Int32 → GM → Option (Int32 × GM)) (G : GM) : Option (Int32 × GM) :=
  (kc119 s0 (v7 + (1 : Int32)) G)
def k_X10_slow_166 (v1 : Int32) (v2 : Int32) (v3 : Int32) (v4 : Int32) (v6 : Int32) (v7 : Int32) (v8 : Int32) (kc95 : Int32 → Int32 → GM → Option (Int32 × GM)) (kc119 : Int32 → Int32 → GM → Option (Int32 × GM)) (G : GM) : Option (Int32 × GM) :=
  (k_X10_slow_173 v1 v2 v3 v4 v6 v7 v8 kc95 kc119 G)
def lp_X10_slow_119 (v1 : Int32) (v2 : Int32) (v3 : Int32) (v4 : Int32) (v6 : Int32) (kc95 : Int32 → Int32 → GM → Option (Int32 × GM)) (v5 : Int32) (v7 : Int32) (G : GM) (kc119 : Int32 → Int32 → GM → Option (Int32 × GM)) : Option (Int32 × GM) :=
  gd (inb (0 : Int32) 48) <|
if (gI G 193 (0 : Int32).toNatClampNeg) ≤ v7 then
((kc95 v5 (v6 + (1 : Int32)) G))
else
(ob (f_X10_doneOf (0 : Int32) v7 v4 G) fun r140 G140 =>
gd (inb (((r140 - (1 : Int32)) * v2) + v6) 368) <|
lt (gI G140 212 (((r140 - (1 : Int32)) * v2) + v6).toNatClampNeg) fun x151 =>
if v5 = (-1 : Int32) then
((k_X10_slow_166 v1 v2 v3 v4 v6 v7 x151 kc95 kc119 G140))
else
(if v5 ≤ x151 then
((k_X10_slow_173 v1 v2 v3 v4 v6 v7 v5 kc95 kc119 G140))
else
((k_X10_slow_166 v1 v2 v3 v4 v6 v7 x151 kc95 kc119 G140))))
def lp_X10_slow_95 (v1 : Int32) (v2 : Int32) (v3 : Int32) (v4 : Int32)   (v5 : Int32) (v6 : Int32) (G : GM) (kc95 : Int32 → Int32 → GM → Option (Int32 × GM)) : Option (Int32 × GM) :=
  if v2 ≤ v6 then
(some (v5, G))
else
(gd (inb (v1 + v6) 48) <|
ov (f_X10_makes (0 : Int32) (gI G 196 (v1 + v6).toNatClampNeg) (0 : Int32) G) fun G113 =>
(wl2 FU (lp_X10_slow_119 v1 v2 v3 v4 v6 kc95) v5 (0 : Int32) G113))
def k_X10_slow_83 (v1 : Int32) (v2 : Int32) (v3 : Int32) (v4 : Int32)   (G : GM) : Option (Int32 × GM) :=
  ov (f_X10_laysSlow v2 v3 G) fun G86 =>
(wl2 FU (lp_X10_slow_95 v1 v2 v3 v4) (-1 : Int32) (0 : Int32) G86)
def f_X10_slow (v1 : Int32) (v2 : Int32) (v3 : Int32) (v4 : Int32) (G : GM) : Option (Int32 × GM) :=
  lt (sI G 186 0 (0 : Int32)) fun G2 =>
ob (f_X10_isHall G2) fun r6 G6 =>
if r6 = 0 then
(some ((-2 : Int32), G6))
else
(ob (f_X10_in (v2.toInt64) (1 : Int64) (8 : Int64) G6) fun r18 G18 =>
if r18 = 0 then
(some ((-2 : Int32), G18))
else
(gd (inb (4 : Int32) 48) <|
ob (f_X10_in (v1.toInt64) (0 : Int64) (((gI G18 193 (4 : Int32).toNatClampNeg) - v2).toInt64) G18) fun r36 G36 =>
if r36 = 0 then
(some ((-2 : Int32), G36))
else
(ob (f_X10_in (v3.toInt64) (1 : Int64) (8 : Int64) G36) fun r48 G48 =>
if r48 = 0 then
(some ((-2 : Int32), G48))
else
(ob (f_X10_isKind v4 G48) fun r56 G56 =>
if r56 = 0 then
(some ((-2 : Int32), G56))
else
(if v4 = (1 : Int32) then
(gd (inb (1 : Int32) 48) <|
if (2 : Int32) ≤ (gI G56 193 (1 : Int32).toNatClampNeg) then
((k_X10_slow_83 v1 v2 v3 v4 G56))
else
(some ((-1 : Int32), G56)))
else
((k_X10_slow_83 v1 v2 v3 v4 G56)))))))
def k_X10_whenOf_49 (v1 : Int32) (v3 : Int32) (s0 : Int32) (kc4 : Int32 → Int32 → GM → Option (Int32 × GM)) (G : GM) : Option (Int32 × GM) :=
  (kc4 s0 (v3 + (1 : Int32)) G)
def k_X10_whenOf_48 (v1 : Int32) (v2 : Int32) (v3 : Int32) (kc4 : Int32 → Int32 → GM → Option (Int32 × GM)) (G : GM) : Option (Int32 × GM) :=
  (k_X10_whenOf_49 v1 v3 v2 kc4 G)
def k_X10_whenOf_43 (v1 : Int32) (v3 : Int32) (v4 : Int32) (kc4 : Int32 → Int32 → GM → Option (Int32 × GM)) (G : GM) : Option (Int32 × GM) :=
  (k_X10_whenOf_49 v1 v3 v4 kc4 G)
def lp_X10_whenOf_4 (v1 : Int32)   (v2 : Int32) (v3 : Int32) (G : GM) (kc4 : Int32 → Int32 → GM → Option (Int32 × GM)) : Option (Int32 × GM) :=
  gd (inb (0 : Int32) 48) <|
if (gI G 193 (0 : Int32).toNatClampNeg) ≤ v3 then
(some (v2, G))
else
(gd (inb (((3 : Int32) * v1) + v3) 24) <|
lt (gI G 209 (((3 : Int32) * v1) + v3).toNatClampNeg) fun x24 =>
if x24 = (-1 : Int32) then
((k_X10_whenOf_48 v1 v2 v3 kc4 G))
else
(if v2 = (-1 : Int32) then
((k_X10_whenOf_43 v1 v3 x24 kc4 G))
else
(if v2 ≤ x24 then
((k_X10_whenOf_48 v1 v2 v3 kc4 G))
else
((k_X10_whenOf_43 v1 v3 x24 kc4 G)))))
def f_X10_whenOf (v1 : Int32) (G : GM) : Option (Int32 × GM) :=
  (wl2 FU (lp_X10_whenOf_4 v1) (-1 : Int32) (0 : Int32) G)
def k_X10_race_98 (v1 : Int32) (v2 : Int32) (v3 : Int32) (v5 : Int32) (s0 : Int32) (s1 : Int32) (kc30 : Int32 → GM → Option (Int32 × GM)) (kc46 : Int32 → Int32 → GM → Option (Int32 × GM)) (G : GM) : Option (Int32 × GM) :=
  lt (s1 + s0) fun x99 =>
(kc46 x99 (v5 + (1 : Int32)) G)
def k_X10_race_97 (v1 : Int32) (v2 : Int32) (v3 : Int32) (v5 : Int32) (s0 : Int32) (kc30 : Int32 → GM → Option (Int32 × GM)) (kc46 : Int32 → Int32 → GM → Option (Int32 × GM)) (G : GM) : Option (Int32 × GM) :=
  (k_X10_race_98 v1 v2 v3 v5 (0 : Int32) s0 kc30 kc46 G)
def k_X10_race_93 (v1 : Int32) (v2 : Int32) (v3 : Int32) (v5 : Int32) (s0 : Int32) (kc30 : Int32 → GM → Option (Int32 × GM)) (kc46 : Int32 → Int32 → GM → Option (Int32 × GM)) (G : GM) : Option (Int32 × GM) :=
  (k_X10_race_98 v1 v2 v3 v5 (1 : Int32) s0 kc30 kc46 G)
def lp_X10_race_46 (v1 : Int32) (v2 : Int32) (v3 : Int32) (kc30 : Int32 → GM → Option (Int32 × GM)) (v4 : Int32) (v5 : Int32) (G : GM) (kc46 : Int32 → Int32 → GM → Option (Int32 × GM)) : Option (Int32 × GM) :=
  gd (inb (4 : Int32) 48) <|
if (gI G 193 (4 : Int32).toNatClampNeg) ≤ v5 then
(if v4 = v2 then
(ob (f_X10_whenOf v3 G) fun r115 G115 =>
if r115 = (-1 : Int32) then
((kc30 (v3 + (1 : Int32)) G115))
else
(some (v3, G115)))
else
((kc30 (v3 + (1 : Int32)) G)))
else
(ob (f_X10_whenOf v5 G) fun r62 G62 =>
ob (f_X10_whenOf v3 G62) fun r67 G67 =>
if r62 < r67 then
((k_X10_race_93 v1 v2 v3 v5 v4 kc30 kc46 G67))
else
(ob (f_X10_whenOf v5 G67) fun r76 G76 =>
ob (f_X10_whenOf v3 G76) fun r81 G81 =>
if r76 = r81 then
(if v3 ≤ v5 then
((k_X10_race_97 v1 v2 v3 v5 v4 kc30 kc46 G81))
else
((k_X10_race_93 v1 v2 v3 v5 v4 kc30 kc46 G81)))
else
((k_X10_race_97 v1 v2 v3 v5 v4 kc30 kc46 G81))))
def lp_X10_race_30 (v1 : Int32) (v2 : Int32)   (v3 : Int32) (G : GM) (kc30 : Int32 → GM → Option (Int32 × GM)) : Option (Int32 × GM) :=
  gd (inb (4 : Int32) 48) <|
if (gI G 193 (4 : Int32).toNatClampNeg) ≤ v3 then
(some ((-1 : Int32), G))
else
((wl2 FU (lp_X10_race_46 v1 v2 v3 kc30) (0 : Int32) (0 : Int32) G))
def f_X10_race (v1 : Int32) (v2 : Int32) (G : GM) : Option (Int32 × GM) :=
  lt (sI G 186 0 (0 : Int32)) fun G2 =>
ob (f_X10_isHall G2) fun r6 G6 =>
if r6 = 0 then
(some ((-2 : Int32), G6))
else
(ob (f_X10_isKind v1 G6) fun r13 G13 =>
if r13 = 0 then
(some ((-2 : Int32), G13))
else
(ov (f_X10_races (0 : Int32) v1 G13) fun G25 =>
(wl1 FU (lp_X10_race_30 v1 v2) (0 : Int32) G25)))
def k_X10_winsInAll_43  (v2 : Int32) (s0 : Int32) (s1 : Int32) (s2 : Int32) (s3 : Int32) (kc4 : Int32 → Int32 → GM → Option (Int32 × GM)) (G : GM) : Option (Int32 × GM) :=
  lt (s3 + (s2 * (s1 + s0))) fun x46 =>
(kc4 x46 (v2 + (1 : Int32)) G)
def lp_X10_winsInAll_4    (v1 : Int32) (v2 : Int32) (G : GM) (kc4 : Int32 → Int32 → GM → Option (Int32 × GM)) : Option (Int32 × GM) :=
  if (3 : Int32) ≤ v2 then
(some (v1, G))
else
(ov (f_X10_races (0 : Int32) v2 G) fun G12 =>
gd (inb v2 18) <|
ob (f_X10_eachOf (gI G12 195 v2.toNatClampNeg) G12) fun r27 G27 =>
if v2 = (2 : Int32) then
(ob (f_X10_jackpotEach G27) fun r36 G36 =>
(k_X10_winsInAll_43 v2 r36 r27 (gI G12 186 41) v1 kc4 G36))
else
((k_X10_winsInAll_43 v2 (0 : Int32) r27 (gI G12 186 41) v1 kc4 G27)))
def f_X10_winsInAll  (G : GM) : Option (Int32 × GM) :=
  (wl2 FU (lp_X10_winsInAll_4 ) (0 : Int32) (0 : Int32) G)
def k_X10_share_193 (v1 : Int32) (v2 : Int32) (v4 : Int64) (v6 : Int32) (v8 : Int32) (s0 : Int32) (s1 : Int32) (kc134 : Int32 → Int32 → GM → Option (Int32 × GM)) (G : GM) : Option (Int32 × GM) :=
  lt (s1 + s0) fun x194 =>
(kc134 x194 (v8 + (1 : Int32)) G)
def k_X10_share_180 (v1 : Int32) (v2 : Int32) (v4 : Int64) (v6 : Int32) (v7 : Int32) (v8 : Int32) (v9 : Int32) (kc134 : Int32 → Int32 → GM → Option (Int32 × GM)) (G : GM) : Option (Int32 × GM) :=
  if v8 ≤ 0 then
((k_X10_share_193 v1 v2 v4 v6 v8 (0 : Int32) v7 kc134 G))
else
((k_X10_share_193 v1 v2 v4 v6 v8 v9 v7 kc134 G))
def lp_X10_share_134 (v1 : Int32) (v2 : Int32) (v4 : Int64) (v6 : Int32)  (v7 : Int32) (v8 : Int32) (G : GM) (kc134 : Int32 → Int32 → GM → Option (Int32 × GM)) : Option (Int32 × GM) :=
  gd (inb v1 4) <|
if (gI G 188 v1.toNatClampNeg) ≤ v8 then
(some ((v6 - v7), G))
else
(gd (inb (((60 : Int32) * v1) + v8) 240) <|
gd (decide (¬ v4 = 0)) <|
lt ((((v6.toInt64) * (gJ G 189 (((60 : Int32) * v1) + v8).toNatClampNeg)) / v4).toInt32) fun x165 =>
if v8 = v2 then
(if v2 ≤ 0 then
((k_X10_share_180 v1 v2 v4 v6 v7 v8 x165 kc134 G))
else
(some (x165, G)))
else
((k_X10_share_180 v1 v2 v4 v6 v7 v8 x165 kc134 G)))
def lp_X10_share_43 (v1 : Int32) (v2 : Int32)   (v4 : Int64) (v6 : Int32) (G : GM) (kc43 : Int64 → Int32 → GM → Option (Int32 × GM)) : Option (Int32 × GM) :=
  gd (inb v1 4) <|
if (gI G 188 v1.toNatClampNeg) ≤ v6 then
(gd (inb v1 4) <|
ob (f_X10_in (v2.toInt64) (0 : Int64) (((gI G 188 v1.toNatClampNeg) - (1 : Int32)).toInt64) G) fun r114 G114 =>
if r114 = 0 then
(some ((-1 : Int32), G114))
else
(ob (f_X10_winsInAll G114) fun r123 G123 =>
(wl2 FU (lp_X10_share_134 v1 v2 v4 r123) (0 : Int32) (0 : Int32) G123)))
else
(gd (inb (((60 : Int32) * v1) + v6) 240) <|
ob (f_X10_in (gJ G 189 (((60 : Int32) * v1) + v6).toNatClampNeg) (1 : Int64) (9999 : Int64) G) fun r70 G70 =>
if r70 = 0 then
(some ((-2 : Int32), G70))
else
(gd (inb (((60 : Int32) * v1) + v6) 240) <|
lt (v4 + (gJ G70 189 (((60 : Int32) * v1) + v6).toNatClampNeg)) fun x94 =>
(kc43 x94 (v6 + (1 : Int32)) G70)))
def f_X10_share (v1 : Int32) (v2 : Int32) (G : GM) : Option (Int32 × GM) :=
  lt (sI G 186 0 (0 : Int32)) fun G2 =>
ob (f_X10_whyNot v1 G2) fun r7 G7 =>
if r7 = 0 then
(gd (inb v1 4) <|
ob (f_X10_in ((gI G7 188 v1.toNatClampNeg).toInt64) (1 : Int64) (8 : Int64) G7) fun r28 G28 =>
if r28 = 0 then
(some ((-2 : Int32), G28))
else
((wl2 FU (lp_X10_share_43 v1 v2) (0 : Int64) (0 : Int32) G28)))
else
(some (r7, G7))
def lp_X10_choose_16 (v0 : Int32) (v1 : Int32)   (v2 : Int64) (v4 : Int32) (G : GM) (kc16 : Int64 → Int32 → GM → Option (Int64 × GM)) : Option (Int64 × GM) :=
  if v1 ≤ v4 then
(some (v2, G))
else
(gd (decide (¬ ((v4 + (1 : Int32)).toInt64) = 0)) <|
lt ((v2 * ((v0 - v4).toInt64)) / ((v4 + (1 : Int32)).toInt64)) fun x35 =>
(kc16 x35 (v4 + (1 : Int32)) G))
def f_X10_choose (v0 : Int32) (v1 : Int32) (G : GM) : Option (Int64 × GM) :=
  if v1 < 0 then
(some ((0 : Int64), G))
else
(if v1 ≤ v0 then
((wl2 FU (lp_X10_choose_16 v0 v1) (1 : Int64) (0 : Int32) G))
else
(some ((0 : Int64), G)))
def k_X10_setsOf_28 (v1 : Int32) (v2 : Int32) (v3 : Int32) (v4 : Int32) (v5 : Int64) (v7 : Int32) (s0 : Int64) (kc6 : Int64 → Int32 → GM → Option (Int64 × GM)) (G : GM) : Option (Int64 × GM) :=
  ob (f_X10_choose (v7 - (1 : Int32)) (v3 - (1 : Int32)) G) fun r41 G41 =>
ob (f_X10_choose v1 v7 G41) fun r48 G48 =>
ob (f_X10_all G48) fun r53 G53 =>
ob (f_X10_choose (r53 - (v7 * v2)) (v4 - (v7 * v2)) G53) fun r68 G68 =>
lt (v5 + (((s0 * r41) * r48) * r68)) fun x73 =>
(kc6 x73 (v7 + (1 : Int32)) G68)
def lp_X10_setsOf_6 (v1 : Int32) (v2 : Int32) (v3 : Int32) (v4 : Int32)   (v5 : Int64) (v7 : Int32) (G : GM) (kc6 : Int64 → Int32 → GM → Option (Int64 × GM)) : Option (Int64 × GM) :=
  if v1 < v7 then
(some (v5, G))
else
(if ((v7 - v3) - (v7 - v3) / (2 : Int32) * (2 : Int32)) = 0 then
((k_X10_setsOf_28 v1 v2 v3 v4 v5 v7 (1 : Int64) kc6 G))
else
((k_X10_setsOf_28 v1 v2 v3 v4 v5 v7 (-1 : Int64) kc6 G)))
def f_X10_setsOf (v1 : Int32) (v2 : Int32) (v3 : Int32) (v4 : Int32) (G : GM) : Option (Int64 × GM) :=
  (wl2 FU (lp_X10_setsOf_6 v1 v2 v3 v4) (0 : Int64) v3 G)
def f_X10_setsOfKind (v1 : Int32) (v2 : Int32) (G : GM) : Option (Int64 × GM) :=
  gd (inb (1 : Int32) 48) <|
lt (gI G 193 (1 : Int32).toNatClampNeg) fun x6 =>
if v1 = (2 : Int32) then
(gd (inb (2 : Int32) 48) <|
ob (f_X10_setsOf (1 : Int32) (x6 * (gI G 193 (2 : Int32).toNatClampNeg)) (1 : Int32) v2 G) fun r24 G24 =>
some (r24, G24))
else
(gd (inb (2 : Int32) 48) <|
ob (f_X10_setsOf x6 (gI G 193 (2 : Int32).toNatClampNeg) (v1 + (1 : Int32)) v2 G) fun r42 G42 =>
some (r42, G42))
def lp_X10_common_6 (v0 : Int64) (v2 : Int64)   (v4 : Int64) (v6 : Int64) (G : GM) (kc6 : Int64 → Int64 → GM → Option (Int64 × GM)) : Option (Int64 × GM) :=
  if (lg_cmp v6 (0 : Int64)) = 0 then
(some (v4, G))
else
(gd (decide (¬ v6 = 0)) <|
lt (v4 - v4 / v6 * v6) fun x18 =>
(kc6 v6 x18 G))
def f_X10_common (v0 : Int64) (v2 : Int64) (G : GM) : Option (Int64 × GM) :=
  (wl2 FU (lp_X10_common_6 v0 v2) v0 v2 G)
def k_X10_told_10 (v0 : Int64) (v2 : Int64) (v4 : Int32) (s0 : Int64)  (G : GM) : Option (Int64 × GM) :=
  ob (f_X10_common v0 v2 G) fun r12 G12 =>
gd (decide (¬ r12 = 0)) <|
some ((s0 / r12), G12)
def f_X10_told (v0 : Int64) (v2 : Int64) (v4 : Int32) (G : GM) : Option (Int64 × GM) :=
  if v4 = 0 then
((k_X10_told_10 v0 v2 v4 v0 G))
else
((k_X10_told_10 v0 v2 v4 v2 G))
def f_X10_setsOfStrip (v1 : Int32) (v2 : Int32) (G : GM) : Option (Int64 × GM) :=
  gd (inb (1 : Int32) 48) <|
lt (gI G 193 (1 : Int32).toNatClampNeg) fun x6 =>
if v1 = 0 then
(gd (inb (0 : Int32) 48) <|
gd (inb (2 : Int32) 48) <|
ob (f_X10_setsOf ((gI G 193 (0 : Int32).toNatClampNeg) * x6) (gI G 193 (2 : Int32).toNatClampNeg) (1 : Int32) v2 G) fun r28 G28 =>
some (r28, G28))
else
(gd (inb (0 : Int32) 48) <|
gd (inb (2 : Int32) 48) <|
ob (f_X10_setsOf (gI G 193 (0 : Int32).toNatClampNeg) (x6 * (gI G 193 (2 : Int32).toNatClampNeg)) (1 : Int32) v2 G) fun r51 G51 =>
some (r51, G51))
def f_X10_isChance (v1 : Int32) (v2 : Int32) (v3 : Int32) (G : GM) : Option (Int32 × GM) :=
  ob (f_X10_isHall G) fun r1 G1 =>
if r1 = 0 then
(some ((0 : Int32), G1))
else
(ob (f_X10_isKind v1 G1) fun r8 G8 =>
if r8 = 0 then
(some ((0 : Int32), G8))
else
(ob (f_X10_all G8) fun r18 G18 =>
ob (f_X10_in (v2.toInt64) (0 : Int64) (r18.toInt64) G18) fun r22 G22 =>
if r22 = 0 then
(some ((0 : Int32), G22))
else
(ob (f_X10_in (v3.toInt64) (0 : Int64) (1 : Int64) G22) fun r32 G32 =>
if r32 = 0 then
(some ((0 : Int32), G32))
else
(some ((1 : Int32), G32)))))
def f_X10_chance (v1 : Int32) (v2 : Int32) (v3 : Int32) (G : GM) : Option (Int64 × GM) :=
  lt (sI G 186 0 (0 : Int32)) fun G2 =>
ob (f_X10_isChance v1 v2 v3 G2) fun r9 G9 =>
if r9 = 0 then
(some ((-2 : Int64), G9))
else
(ob (f_X10_setsOfKind v1 v2 G9) fun r18 G18 =>
ob (f_X10_all G18) fun r22 G22 =>
ob (f_X10_choose r22 v2 G22) fun r26 G26 =>
ob (f_X10_told r18 r26 v3 G26) fun r30 G30 =>
some (r30, G30))
def k_X10_some_20 (v1 : Int32) (v2 : Int32) (v3 : Int32)   (G : GM) : Option (Int64 × GM) :=
  some ((-2 : Int64), G)
def f_X10_some (v1 : Int32) (v2 : Int32) (v3 : Int32) (G : GM) : Option (Int64 × GM) :=
  lt (sI G 186 0 (0 : Int32)) fun G2 =>
ob (f_X10_isChance v1 v2 v3 G2) fun r9 G9 =>
if r9 = 0 then
((k_X10_some_20 v1 v2 v3 G9))
else
(if v1 = (1 : Int32) then
((k_X10_some_20 v1 v2 v3 G9))
else
(ob (f_X10_setsOfStrip v1 v2 G9) fun r27 G27 =>
ob (f_X10_all G27) fun r31 G31 =>
ob (f_X10_choose r31 v2 G31) fun r35 G35 =>
ob (f_X10_told r27 r35 v3 G35) fun r39 G39 =>
some (r39, G39)))
def k_X10_just_25 (v1 : Int32) (v2 : Int32) (v3 : Int32)   (G : GM) : Option (Int64 × GM) :=
  some ((-2 : Int64), G)
def f_X10_just (v1 : Int32) (v2 : Int32) (v3 : Int32) (G : GM) : Option (Int64 × GM) :=
  lt (sI G 186 0 (0 : Int32)) fun G2 =>
ob (f_X10_isChance v1 v2 v3 G2) fun r9 G9 =>
if r9 = 0 then
((k_X10_just_25 v1 v2 v3 G9))
else
(if v1 = (1 : Int32) then
((k_X10_just_25 v1 v2 v3 G9))
else
(if (1 : Int32) ≤ v2 then
(ob (f_X10_setsOfStrip v1 v2 G9) fun r32 G32 =>
ob (f_X10_setsOfStrip v1 (v2 - (1 : Int32)) G32) fun r43 G43 =>
ob (f_X10_all G43) fun r47 G47 =>
lt ((r32 * (v2.toInt64)) - (r43 * (((r47 - v2) + (1 : Int32)).toInt64))) fun x57 =>
ob (f_X10_all G47) fun r62 G62 =>
ob (f_X10_choose r62 v2 G62) fun r66 G66 =>
ob (f_X10_told x57 (r66 * (v2.toInt64)) v3 G66) fun r73 G73 =>
some (r73, G73))
else
((k_X10_just_25 v1 v2 v3 G9))))
def lp_X10_likely_54 (v1 : Int32) (v2 : Int32) (v3 : Int32)   (v4 : Int32) (G : GM) (kc54 : Int32 → GM → Option (Int32 × GM)) : Option (Int32 × GM) :=
  ob (f_X10_all G) fun r57 G57 =>
if r57 < v4 then
(some ((-1 : Int32), G57))
else
(ob (f_X10_setsOfStrip v1 v4 G57) fun r67 G67 =>
ob (f_X10_all G67) fun r76 G76 =>
ob (f_X10_choose r76 v4 G76) fun r81 G81 =>
if (lg_cmp (r67 * (v3.toInt64)) ((v2.toInt64) * r81)) < 0 then
((kc54 (v4 + (1 : Int32)) G81))
else
(some (v4, G81)))
def f_X10_likely (v1 : Int32) (v2 : Int32) (v3 : Int32) (G : GM) : Option (Int32 × GM) :=
  lt (sI G 186 0 (0 : Int32)) fun G2 =>
ob (f_X10_isHall G2) fun r6 G6 =>
if r6 = 0 then
(some ((-2 : Int32), G6))
else
(ob (f_X10_isKind v1 G6) fun r13 G13 =>
if r13 = 0 then
(some ((-2 : Int32), G13))
else
(if v1 = (1 : Int32) then
(some ((-2 : Int32), G13))
else
(ob (f_X10_in (v2.toInt64) (0 : Int64) (1000 : Int64) G13) fun r30 G30 =>
if r30 = 0 then
(some ((-2 : Int32), G30))
else
(ob (f_X10_in (v3.toInt64) (1 : Int64) (1000 : Int64) G30) fun r42 G42 =>
if r42 = 0 then
(some ((-2 : Int32), G42))
else
((wl1 FU (lp_X10_likely_54 v1 v2 v3) (0 : Int32) G42))))))
def f_X10_mean (v1 : Int32) (v2 : Int32) (G : GM) : Option (Int32 × GM) :=
  lt (sI G 186 0 (0 : Int32)) fun G2 =>
ob (f_X10_isHall G2) fun r6 G6 =>
if r6 = 0 then
(some ((-2 : Int32), G6))
else
(ob (f_X10_all G6) fun r16 G16 =>
ob (f_X10_in (v1.toInt64) (1 : Int64) (r16.toInt64) G16) fun r20 G20 =>
if r20 = 0 then
(some ((-2 : Int32), G20))
else
(ob (f_X10_in (v2.toInt64) (0 : Int64) (1 : Int64) G20) fun r30 G30 =>
if r30 = 0 then
(some ((-2 : Int32), G30))
else
(ob (f_X10_all G30) fun r42 G42 =>
ob (f_X10_told ((v1.toInt64) * ((r42 + (1 : Int32)).toInt64)) ((v1.toInt64) + (1 : Int64)) v2 G42) fun r54 G54 =>
some ((r54.toInt32), G54))))
def k_X10_evenings_167 (v1 : Int32) (v2 : Int32) (v3 : Int32) (v4 : Int32) (v5 : Int32) (v6 : Int32) (v8 : Int32) (s0 : Int32) (s1 : Int32) (kc77 : Int32 → Int32 → Int32 → Int32 → GM → Option (Int32 × GM)) (G : GM) : Option (Int32 × GM) :=
  lt (s1 + s0) fun x168 =>
(kc77 v5 v6 x168 (v8 + (1 : Int32)) G)
def k_X10_evenings_150 (v1 : Int32) (v2 : Int32) (v3 : Int32) (v4 : Int32) (v5 : Int32) (v7 : Int32) (v8 : Int32) (s0 : Int32) (kc77 : Int32 → Int32 → Int32 → Int32 → GM → Option (Int32 × GM)) (G : GM) : Option (Int32 × GM) :=
  if (gI G 186 41) ≤ (1 : Int32) then
((k_X10_evenings_167 v1 v2 v3 v4 v5 s0 v8 (0 : Int32) v7 kc77 G))
else
((k_X10_evenings_167 v1 v2 v3 v4 v5 s0 v8 (1 : Int32) v7 kc77 G))
def k_X10_evenings_143 (v1 : Int32) (v2 : Int32) (v3 : Int32) (v4 : Int32) (v5 : Int32) (v7 : Int32) (v8 : Int32) (v9 : Int32) (kc77 : Int32 → Int32 → Int32 → Int32 → GM → Option (Int32 × GM)) (G : GM) : Option (Int32 × GM) :=
  (k_X10_evenings_150 v1 v2 v3 v4 v5 v7 v8 v9 kc77 G)
def k_X10_evenings_121 (v1 : Int32) (v2 : Int32) (v3 : Int32) (v4 : Int32) (v5 : Int32) (v6 : Int32) (v7 : Int32) (v8 : Int32) (s0 : Int32) (kc77 : Int32 → Int32 → Int32 → Int32 → GM → Option (Int32 × GM)) (G : GM) : Option (Int32 × GM) :=
  lt (v5 + s0) fun x128 =>
if v6 = (-1 : Int32) then
((k_X10_evenings_143 v1 v2 v3 v4 x128 v7 v8 s0 kc77 G))
else
(if v6 ≤ s0 then
((k_X10_evenings_150 v1 v2 v3 v4 x128 v7 v8 v6 kc77 G))
else
((k_X10_evenings_143 v1 v2 v3 v4 x128 v7 v8 s0 kc77 G)))
def lp_X10_evenings_77 (v1 : Int32) (v2 : Int32) (v3 : Int32) (v4 : Int32)   (v5 : Int32) (v6 : Int32) (v7 : Int32) (v8 : Int32) (G : GM) (kc77 : Int32 → Int32 → Int32 → Int32 → GM → Option (Int32 × GM)) : Option (Int32 × GM) :=
  if v2 ≤ v8 then
(if v4 = 0 then
(some (v5, G))
else
(if v4 = (1 : Int32) then
(some (v6, G))
else
(some (v7, G))))
else
(ov (f_X10_callsBy (5 : Int32) ((v1.toInt64) + (v8.toInt64)) G) fun G91 =>
ov (f_X10_races (5 : Int32) v3 G91) fun G97 =>
if (gI G97 186 40) = (-1 : Int32) then
(ob (f_X10_all G97) fun r109 G109 =>
(k_X10_evenings_121 v1 v2 v3 v4 v5 v6 v7 v8 (r109 + (1 : Int32)) kc77 G109))
else
((k_X10_evenings_121 v1 v2 v3 v4 v5 v6 v7 v8 (gI G97 186 40) kc77 G97)))
def f_X10_evenings (v1 : Int32) (v2 : Int32) (v3 : Int32) (v4 : Int32) (G : GM) : Option (Int32 × GM) :=
  lt (sI G 186 0 (0 : Int32)) fun G2 =>
ob (f_X10_isHall G2) fun r6 G6 =>
if r6 = 0 then
(some ((-2 : Int32), G6))
else
(ob (f_X10_in (v1.toInt64) (0 : Int64) (2000000000 : Int64) G6) fun r18 G18 =>
if r18 = 0 then
(some ((-2 : Int32), G18))
else
(ob (f_X10_in (v2.toInt64) (1 : Int64) (20 : Int64) G18) fun r30 G30 =>
if r30 = 0 then
(some ((-2 : Int32), G30))
else
(ob (f_X10_isKind v3 G30) fun r37 G37 =>
if r37 = 0 then
(some ((-2 : Int32), G37))
else
(ob (f_X10_in (v4.toInt64) (0 : Int64) (2 : Int64) G37) fun r50 G50 =>
if r50 = 0 then
(some ((-2 : Int32), G50))
else
(ov (f_X10_copyHall (0 : Int32) (5 : Int32) G50) fun G62 =>
(wl4 FU (lp_X10_evenings_77 v1 v2 v3 v4) (0 : Int32) (-1 : Int32) (0 : Int32) (0 : Int32) G62))))))
def lp_X10_judge_19 (v1 : Int32)   (v3 : Int32) (G : GM) (kc19 : Int32 → GM → Option (Int32 × GM)) : Option (Int32 × GM) :=
  gd (inb v1 4) <|
if (gI G 188 v1.toNatClampNeg) ≤ v3 then
(some (v3, G))
else
(ob (f_X10_all G) fun r31 G31 =>
if r31 ≤ v3 then
(some (v3, G31))
else
(gd (inb (((60 : Int32) * v1) + v3) 240) <|
gd (inb v3 270) <|
if (lg_cmp (gJ G31 189 (((60 : Int32) * v1) + v3).toNatClampNeg) ((gI G31 197 v3.toNatClampNeg).toInt64)) = 0 then
((kc19 (v3 + (1 : Int32)) G31))
else
(some (v3, G31))))
def f_X10_judge (v1 : Int32) (G : GM) : Option (Int32 × GM) :=
  lt (sI G 186 0 (0 : Int32)) fun G2 =>
ob (f_X10_whyNot v1 G2) fun r7 G7 =>
if r7 = 0 then
((wl1 FU (lp_X10_judge_19 v1) (0 : Int32) G7))
else
(some (r7, G7))
def k_X10_count_149 (v1 : Int32) (v3 : Int32) (s0 : Int32) (s1 : Int32) (kc128 : Int32 → Int32 → GM → Option (Int32 × GM)) (G : GM) : Option (Int32 × GM) :=
  lt (s1 + s0) fun x150 =>
(kc128 x150 (v3 + (1 : Int32)) G)
def lp_X10_count_128 (v1 : Int32)   (v2 : Int32) (v3 : Int32) (G : GM) (kc128 : Int32 → Int32 → GM → Option (Int32 × GM)) : Option (Int32 × GM) :=
  if (4 : Int32) ≤ v3 then
(some (v2, G))
else
(gd (inb v3 4) <|
if (gI G 187 v3.toNatClampNeg) = (-1 : Int32) then
((k_X10_count_149 v1 v3 (0 : Int32) v2 kc128 G))
else
((k_X10_count_149 v1 v3 (1 : Int32) v2 kc128 G)))
def f_X10_count (v1 : Int32) (G : GM) : Option (Int32 × GM) :=
  lt (sI G 186 0 (0 : Int32)) fun G2 =>
if v1 = 0 then
(gd (inb (0 : Int32) 48) <|
some ((gI G2 193 (0 : Int32).toNatClampNeg), G2))
else
if v1 = 1 then
(gd (inb (1 : Int32) 48) <|
some ((gI G2 193 (1 : Int32).toNatClampNeg), G2))
else
if v1 = 2 then
(gd (inb (2 : Int32) 48) <|
some ((gI G2 193 (2 : Int32).toNatClampNeg), G2))
else
if v1 = 3 then
(gd (inb (3 : Int32) 48) <|
some ((gI G2 193 (3 : Int32).toNatClampNeg), G2))
else
if v1 = 4 then
(gd (inb (4 : Int32) 48) <|
some ((gI G2 193 (4 : Int32).toNatClampNeg), G2))
else
if v1 = 5 then
(gd (inb (0 : Int32) 6) <|
some ((gI G2 192 (0 : Int32).toNatClampNeg), G2))
else
if v1 = 6 then
(some ((gI G2 186 6), G2))
else
if v1 = 7 then
(gd (inb (5 : Int32) 48) <|
some ((gI G2 193 (5 : Int32).toNatClampNeg), G2))
else
if v1 = 8 then
(gd (inb (6 : Int32) 48) <|
some ((gI G2 193 (6 : Int32).toNatClampNeg), G2))
else
if v1 = 9 then
((wl2 FU (lp_X10_count_128 v1) (0 : Int32) (0 : Int32) G2))
else
(some ((-1 : Int32), G2))
def f_X10_keep (v1 : Int32) (G : GM) : Option (Int32 × GM) :=
  lt (sI G 186 0 (0 : Int32)) fun G2 =>
ob (f_X10_in (v1.toInt64) (0 : Int64) (2 : Int64) G2) fun r11 G11 =>
if r11 = 0 then
(some ((-2 : Int32), G11))
else
(ov (f_X10_copyHall (0 : Int32) ((1 : Int32) + v1) G11) fun G25 =>
gd (inb v1 3) <| lt (sI G25 198 v1.toNatClampNeg (vp_nar .boolean (1 : Int32))) fun G34 =>
some ((0 : Int32), G34))
def f_X10_back (v1 : Int32) (G : GM) : Option (Int32 × GM) :=
  lt (sI G 186 0 (0 : Int32)) fun G2 =>
ob (f_X10_in (v1.toInt64) (0 : Int64) (2 : Int64) G2) fun r11 G11 =>
if r11 = 0 then
(some ((-2 : Int32), G11))
else
(gd (inb v1 3) <|
if (gI G11 198 v1.toNatClampNeg) = 0 then
(some ((-6 : Int32), G11))
else
(ov (f_X10_copyHall ((1 : Int32) + v1) (0 : Int32) G11) fun G37 =>
some ((0 : Int32), G37)))
