def f_X9_feed (v1 : Int32) (v2 : Int32) (v3 : Int32) (v4 : Int32) (v5 : Int32) (G : GM) : Option (Int32 × GM) :=
  if (gI G 53 1) ≤ (780 : Int32) then
(ov (f_X7_addFour v1 G) fun G20 =>
ov (f_X7_addFour v2 G20) fun G28 =>
ov (f_X7_addFour v3 G28) fun G36 =>
ov (f_X7_addFour v4 G36) fun G45 =>
ov (f_X7_addFour v5 G45) fun G54 =>
some ((gI G54 53 1), G54))
else
(some ((-1 : Int32), G))
def f_X9_end (v1 : Int32) (G : GM) : Option (Int32 × GM) :=
  if v1 < 0 then
(some ((-1 : Int32), G))
else
(if v1 ≤ (gI G 53 1) then
(lt (sI G 53 1 v1) fun G22 =>
some (v1, G22))
else
(some ((-1 : Int32), G)))
def k_X9_hall_47    (G : GM) : Option (Int32 × GM) :=
  lt (sI G 53 1 (0 : Int32)) fun G52 =>
if (gI G52 53 9) = 0 then
(ov (f_X2_mixCalls 47 ((nx G52) + 1) (gI G52 53 8) ((nx G52) + 20) G52) fun G93 =>
ov (f_X5_noteTurns (nx G93) G93) fun G100 =>
lt (sNw G100 (nx G100)) fun G113 =>
lt (sNx G113 (nw G100)) fun G118 =>
some ((gI G118 (nw G118) 1), G118))
else
(some ((-4 : Int32), G52))
def lp_X9_hall_13    (v1 : Int32) (G : GM) (kc13 : Int32 → GM → Option (Int32 × GM)) : Option (Int32 × GM) :=
  if (800 : Int32) ≤ v1 then
((k_X9_hall_47 G))
else
(ob (f_X7_hasLine G) fun r24 G24 =>
if r24 = 0 then
((k_X9_hall_47 G24))
else
(ov (f_X7_readLine (nx G24) G24) fun G38 =>
(kc13 (v1 + (1 : Int32)) G38)))
def f_X9_hall  (G : GM) : Option (Int32 × GM) :=
  ov (f_X7_begin (nx G) G) fun G8 =>
(wl1 FU (lp_X9_hall_13 ) (0 : Int32) G8)
def f_X9_fault (v1 : Int32) (G : GM) : Option (Int32 × GM) :=
  if v1 = 0 then
(some ((gI G 53 9), G))
else
(if v1 = (1 : Int32) then
(some ((gI G 53 10), G))
else
(some ((-1 : Int32), G)))
def f_X9_isHall  (G : GM) : Option (Int32 × GM) :=
  if (gI G (nw G) 1) ≤ 0 then
(some ((0 : Int32), G))
else
(some ((1 : Int32), G))
def f_X9_isColumn (v1 : Int32) (G : GM) : Option (Int32 × GM) :=
  ob (f_X9_isHall G) fun r1 G1 =>
if r1 = 0 then
(some ((0 : Int32), G1))
else
(if v1 < 0 then
(some ((0 : Int32), G1))
else
(if (gI G1 ((nw G1) + 1) 3) ≤ v1 then
(some ((0 : Int32), G1))
else
(some ((1 : Int32), G1))))
def f_X9_column (v1 : Int32) (v2 : Int32) (G : GM) : Option (Int32 × GM) :=
  ob (f_X9_isColumn v1 G) fun r2 G2 =>
if r2 = 0 then
(some ((-2 : Int32), G2))
else
(if v2 < 0 then
(some ((-2 : Int32), G2))
else
(if v2 ≤ (1 : Int32) then
(if v2 = 0 then
(gd (inb v1 5) <|
some ((gI G2 ((nw G2) + 3) v1.toNatClampNeg), G2))
else
(gd (inb v1 5) <|
some ((gI G2 ((nw G2) + 2) v1.toNatClampNeg), G2)))
else
(some ((-2 : Int32), G2))))
def f_X9_numbers  (G : GM) : Option (Int32 × GM) :=
  ob (f_X9_isHall G) fun r1 G1 =>
if r1 = 0 then
(some ((-2 : Int32), G1))
else
(some ((gI G1 ((nw G1) + 1) 6), G1))
def f_X9_plans  (G : GM) : Option (Int32 × GM) :=
  ob (f_X9_isHall G) fun r1 G1 =>
if r1 = 0 then
(some ((-2 : Int32), G1))
else
(some ((gI G1 ((nw G1) + 1) 8), G1))
def f_X9_isCard (v1 : Int32) (G : GM) : Option (Int32 × GM) :=
  ob (f_X9_isHall G) fun r1 G1 =>
if r1 = 0 then
(some ((0 : Int32), G1))
else
(if v1 < 0 then
(some ((0 : Int32), G1))
else
(if (gI G1 ((nw G1) + 1) 0) ≤ v1 then
(some ((0 : Int32), G1))
else
(some ((1 : Int32), G1))))
def f_X9_plan (v1 : Int32) (v2 : Int32) (v3 : Int32) (G : GM) : Option (Int32 × GM) :=
  ob (f_X9_isCard v2 G) fun r2 G2 =>
if r2 = 0 then
(some ((-2 : Int32), G2))
else
(ob (f_X9_isColumn v3 G2) fun r10 G10 =>
if r10 = 0 then
(some ((-2 : Int32), G10))
else
(if v1 < 0 then
(some ((-1 : Int32), G10))
else
(if v1 < (gI G10 ((nw G10) + 1) 8) then
(ob (f_X2_planned 47 ((nw G10) + 1) v1 v2 v3 G10) fun r53 G53 =>
some (r53, G53))
else
(some ((-1 : Int32), G10)))))
def lp_X9_layouts_66 (v1 : Int32) (v2 : Nat)  (v3 : Int32) (v4 : Int32) (G : GM) (kc66 : Int32 → Int32 → GM → Option (Int32 × GM)) : Option (Int32 × GM) :=
  if (gI G v2 3) ≤ v4 then
(ob (f_X6_waysOf 4 (v2 + 6) (gI G v2 1) v3 G) fun r133 G133 =>
some (r133, G133))
else
(ob (f_X8_valueAt v1 v4 G) fun r82 G82 =>
if (lg_cmp r82 (0 : Int64)) < 0 then
(some ((0 : Int32), G82))
else
(if (lg_cmp r82 ((gI G82 v2 1).toInt64)) ≤ 0 then
(ob (f_X6_packed v4 (r82.toInt32) G82) fun r113 G113 =>
lt (v3 + r113) fun x117 =>
(kc66 x117 (v4 + (1 : Int32)) G113))
else
(some ((0 : Int32), G82))))
def f_X9_layouts (v1 : Int32) (G : GM) : Option (Int32 × GM) :=
  ob (f_X9_isHall G) fun r1 G1 =>
if r1 = 0 then
(some ((-2 : Int32), G1))
else
(ob (f_X8_isSlot v1 G1) fun r12 G12 =>
if r12 = 0 then
(some ((-2 : Int32), G12))
else
(ob (f_X8_hasRow v1 G12) fun r26 G26 =>
if r26 = 0 then
(some ((-6 : Int32), G26))
else
(ob (f_X8_lengthOf v1 G26) fun r48 G48 =>
if r48 = (gI G48 ((nw G26) + 1) 3) then
((wl2 FU (lp_X9_layouts_66 v1 ((nw G26) + 1)) (0 : Int32) (0 : Int32) G48))
else
(some ((-7 : Int32), G48)))))
def f_X9_isSerial (v1 : Int32) (G : GM) : Option (Int32 × GM) :=
  ob (f_X9_isHall G) fun r1 G1 =>
if r1 = 0 then
(some ((0 : Int32), G1))
else
(if v1 < 0 then
(some ((0 : Int32), G1))
else
(if (9999 : Int32) < v1 then
(some ((0 : Int32), G1))
else
(some ((1 : Int32), G1))))
def f_X9_made (v1 : Int32) (G : GM) : Option (Int32 × GM) :=
  ob (f_X9_isSerial v1 G) fun r2 G2 =>
if r2 = 0 then
(some ((-2 : Int32), G2))
else
(ob (f_X2_drawnPlan 47 ((nw G2) + 1) v1 G2) fun r20 G20 =>
some (r20, G20))
def f_X9_cell (v1 : Int32) (v2 : Int32) (v3 : Int32) (v4 : Int32) (G : GM) : Option (Int32 × GM) :=
  ob (f_X9_isSerial v1 G) fun r2 G2 =>
if r2 = 0 then
(some ((-2 : Int32), G2))
else
(ob (f_X9_isCard v2 G2) fun r10 G10 =>
if r10 = 0 then
(some ((-2 : Int32), G10))
else
(if v3 < 0 then
(some ((-2 : Int32), G10))
else
(if (gI G10 ((nw G10) + 1) 1) ≤ v3 then
(some ((-2 : Int32), G10))
else
(ob (f_X9_isColumn v4 G10) fun r37 G37 =>
if r37 = 0 then
(some ((-2 : Int32), G37))
else
(ov (f_X2_deal 47 ((nw G37) + 1) v1 74 G37) fun G62 =>
ob (f_X4_placeOf ((nw G62) + 1) v2 v3 v4 G62) fun r80 G80 =>
gd (inb r80 45) <|
some ((gI G80 74 r80.toNatClampNeg), G80))))))
def f_X9_isNumber (v1 : Int32) (G : GM) : Option (Int32 × GM) :=
  ob (f_X9_isHall G) fun r1 G1 =>
if r1 = 0 then
(some ((0 : Int32), G1))
else
(if v1 < (1 : Int32) then
(some ((0 : Int32), G1))
else
(if (gI G1 ((nw G1) + 1) 6) < v1 then
(some ((0 : Int32), G1))
else
(some ((1 : Int32), G1))))
def lp_X9_where_75 (v1 : Int32) (v2 : Int32) (v3 : Int32) (v4 : Int32) (kc40 : Int32 → GM → Option (Int32 × GM)) (kc57 : Int32 → GM → Option (Int32 × GM)) (v5 : Int32) (G : GM) (kc75 : Int32 → GM → Option (Int32 × GM)) : Option (Int32 × GM) :=
  if (gI G ((nw G) + 1) 3) ≤ v5 then
((kc57 (v4 + (1 : Int32)) G))
else
(ob (f_X4_placeOf ((nw G) + 1) v3 v4 v5 G) fun r106 G106 =>
gd (inb r106 45) <|
if (gI G106 74 r106.toNatClampNeg) = v2 then
(some (((((100 : Int32) * v3) + ((10 : Int32) * v4)) + v5), G106))
else
((kc75 (v5 + (1 : Int32)) G106)))
def lp_X9_where_57 (v1 : Int32) (v2 : Int32) (v3 : Int32) (kc40 : Int32 → GM → Option (Int32 × GM)) (v4 : Int32) (G : GM) (kc57 : Int32 → GM → Option (Int32 × GM)) : Option (Int32 × GM) :=
  if (gI G ((nw G) + 1) 1) ≤ v4 then
((kc40 (v3 + (1 : Int32)) G))
else
((wl1 FU (lp_X9_where_75 v1 v2 v3 v4 kc40 kc57) (0 : Int32) G))
def lp_X9_where_40 (v1 : Int32) (v2 : Int32)   (v3 : Int32) (G : GM) (kc40 : Int32 → GM → Option (Int32 × GM)) : Option (Int32 × GM) :=
  if (gI G ((nw G) + 1) 0) ≤ v3 then
(some ((-2 : Int32), G))
else
((wl1 FU (lp_X9_where_57 v1 v2 v3 kc40) (0 : Int32) G))
def f_X9_where (v1 : Int32) (v2 : Int32) (G : GM) : Option (Int32 × GM) :=
  ob (f_X9_isSerial v1 G) fun r2 G2 =>
if r2 = 0 then
(some ((-2 : Int32), G2))
else
(ob (f_X9_isNumber v2 G2) fun r10 G10 =>
if r10 = 0 then
(some ((-2 : Int32), G10))
else
(ov (f_X2_deal 47 ((nw G10) + 1) v1 74 G10) fun G35 =>
(wl1 FU (lp_X9_where_40 v1 v2) (0 : Int32) G35)))
def f_X9_same (v1 : Int32) (v2 : Int32) (G : GM) : Option (Int32 × GM) :=
  ob (f_X9_isSerial v1 G) fun r2 G2 =>
if r2 = 0 then
(some ((-2 : Int32), G2))
else
(ob (f_X9_isSerial v2 G2) fun r10 G10 =>
if r10 = 0 then
(some ((-2 : Int32), G10))
else
(ov (f_X2_deal 47 ((nw G10) + 1) v1 74 G10) fun G35 =>
ov (f_X2_deal 47 ((nw G35) + 1) v2 75 G35) fun G54 =>
ob (f_X9_areSame 74 75 G54) fun r65 G65 =>
if r65 = 0 then
(some ((0 : Int32), G65))
else
(some ((1 : Int32), G65))))
def f_X9_alike (v1 : Int32) (v2 : Int32) (v3 : Int32) (v4 : Int32) (G : GM) : Option (Int32 × GM) :=
  ob (f_X9_isSerial v1 G) fun r2 G2 =>
if r2 = 0 then
(some ((-2 : Int32), G2))
else
(ob (f_X9_isCard v2 G2) fun r10 G10 =>
if r10 = 0 then
(some ((-2 : Int32), G10))
else
(ob (f_X9_isSerial v3 G10) fun r18 G18 =>
if r18 = 0 then
(some ((-2 : Int32), G18))
else
(ob (f_X9_isCard v4 G18) fun r27 G27 =>
if r27 = 0 then
(some ((-2 : Int32), G27))
else
(ov (f_X2_deal 47 ((nw G27) + 1) v1 74 G27) fun G52 =>
ov (f_X2_deal 47 ((nw G52) + 1) v3 75 G52) fun G71 =>
ob (f_X4_numbersOf ((nw G71) + 1) 74 v2 G71) fun r86 G86 =>
ob (f_X4_numbersOf ((nw G86) + 1) 75 v4 G86) fun r102 G102 =>
ob (f_J13_bitCount_95d88 (r86 &&& r102) G102) fun r106 G106 =>
some (r106, G106)))))
def f_X9_sell (v1 : Int32) (G : GM) : Option (Int32 × GM) :=
  ob (f_X9_isSerial v1 G) fun r2 G2 =>
if r2 = 0 then
(some ((-2 : Int32), G2))
else
(if (gI G2 (nw G2) 5) < (8 : Int32) then
(ov (f_X2_deal 47 ((nw G2) + 1) v1 74 G2) fun G42 =>
ob (f_X5_hasSold (nw G42) 74 G42) fun r53 G53 =>
if r53 = 0 then
(ov (f_X5_addSold (nw G53) v1 74 G53) fun G71 =>
some ((gI G71 (nw G71) 5), G71))
else
(some ((-5 : Int32), G53)))
else
(some ((-3 : Int32), G2)))
def f_X9_unsell  (G : GM) : Option (Int32 × GM) :=
  ob (f_X9_isHall G) fun r1 G1 =>
if r1 = 0 then
(some ((-2 : Int32), G1))
else
(if (1 : Int32) ≤ (gI G1 (nw G1) 5) then
(lt (sI G1 (nw G1) 5 ((gI G1 (nw G1) 5) - (1 : Int32))) fun G33 =>
some ((1 : Int32), G33))
else
(some ((0 : Int32), G1)))
def f_X9_isPlace (v1 : Int32) (G : GM) : Option (Int32 × GM) :=
  ob (f_X9_isHall G) fun r1 G1 =>
if r1 = 0 then
(some ((0 : Int32), G1))
else
(if v1 < 0 then
(some ((0 : Int32), G1))
else
(if (gI G1 (nw G1) 5) ≤ v1 then
(some ((0 : Int32), G1))
else
(some ((1 : Int32), G1))))
def f_X9_sold (v1 : Int32) (G : GM) : Option (Int32 × GM) :=
  ob (f_X9_isPlace v1 G) fun r2 G2 =>
if r2 = 0 then
(some ((-1 : Int32), G2))
else
(gd (inb v1 8) <|
some ((gI G2 ((nw G2) + 10) v1.toNatClampNeg), G2))
def f_X9_caller (v1 : Int32) (G : GM) : Option (Int32 × GM) :=
  ob (f_X9_isHall G) fun r1 G1 =>
if r1 = 0 then
(some ((-2 : Int32), G1))
else
(if v1 < 0 then
(some ((-2 : Int32), G1))
else
(if v1 ≤ (2000000000 : Int32) then
(ov (f_X2_mixCalls 47 ((nw G1) + 1) v1 ((nw G1) + 20) G1) fun G39 =>
ov (f_X5_noteTurns (nw G39) G39) fun G46 =>
some ((0 : Int32), G46))
else
(some ((-2 : Int32), G1))))
def lp_X9_isEachNumberOnce_28 (v1 : Int32)   (v2 : Int64) (v4 : Int32) (G : GM) (kc28 : Int64 → Int32 → GM → Option (Int32 × GM)) : Option (Int32 × GM) :=
  if (gI G ((nw G) + 1) 6) ≤ v4 then
(some ((1 : Int32), G))
else
(ob (f_X8_valueAt v1 v4 G) fun r50 G50 =>
if (lg_cmp r50 (1 : Int64)) < 0 then
(some ((0 : Int32), G50))
else
(if 0 < (lg_cmp r50 ((gI G50 ((nw G50) + 1) 6).toInt64)) then
(some ((0 : Int32), G50))
else
(if (lg_cmp ((v2 >>> ((r50.toInt32).toInt64 &&& 63)) &&& (1 : Int64)) (1 : Int64)) = 0 then
(some ((0 : Int32), G50))
else
(lt (v2 ||| ((1 : Int64) <<< ((r50.toInt32).toInt64 &&& 63))) fun x100 =>
(kc28 x100 (v4 + (1 : Int32)) G50)))))
def f_X9_isEachNumberOnce (v1 : Int32) (G : GM) : Option (Int32 × GM) :=
  ob (f_X8_lengthOf v1 G) fun r5 G5 =>
if r5 = (gI G5 ((nw G5) + 1) 6) then
((wl2 FU (lp_X9_isEachNumberOnce_28 v1) (0 : Int64) (0 : Int32) G5))
else
(some ((0 : Int32), G5))
def lp_X9_calls_48 (v1 : Int32)   (v2 : Int32) (G : GM) (kc48 : Int32 → GM → Option (Int32 × GM)) : Option (Int32 × GM) :=
  if (gI G ((nw G) + 1) 6) ≤ v2 then
(ov (f_X5_noteTurns (nw G) G) fun G91 =>
some ((0 : Int32), G91))
else
(ob (f_X8_valueAt v1 v2 G) fun r76 G76 =>
gd (inb v2 45) <| lt (sI G76 ((nw G) + 20) v2.toNatClampNeg (r76.toInt32)) fun G80 =>
(kc48 (v2 + (1 : Int32)) G80))
def f_X9_calls (v1 : Int32) (G : GM) : Option (Int32 × GM) :=
  ob (f_X9_isHall G) fun r1 G1 =>
if r1 = 0 then
(some ((-2 : Int32), G1))
else
(ob (f_X8_isSlot v1 G1) fun r12 G12 =>
if r12 = 0 then
(some ((-2 : Int32), G12))
else
(ob (f_X8_hasRow v1 G12) fun r26 G26 =>
if r26 = 0 then
(some ((-6 : Int32), G26))
else
(ob (f_X9_isEachNumberOnce v1 G26) fun r37 G37 =>
if r37 = 0 then
(some ((-2 : Int32), G37))
else
((wl1 FU (lp_X9_calls_48 v1) (0 : Int32) G37)))))
def f_X9_call (v1 : Int32) (G : GM) : Option (Int32 × GM) :=
  ob (f_X9_isHall G) fun r1 G1 =>
if r1 = 0 then
(some ((-1 : Int32), G1))
else
(if v1 < 0 then
(some ((-1 : Int32), G1))
else
(if (gI G1 ((nw G1) + 1) 6) ≤ v1 then
(some ((-1 : Int32), G1))
else
(gd (inb v1 45) <|
some ((gI G1 ((nw G1) + 20) v1.toNatClampNeg), G1))))
def f_X9_called (v1 : Int32) (G : GM) : Option (Int32 × GM) :=
  ob (f_X9_isNumber v1 G) fun r2 G2 =>
if r2 = 0 then
(some ((-2 : Int32), G2))
else
(gd (inb v1 46) <|
some ((gI G2 ((nw G2) + 21) v1.toNatClampNeg), G2))
def f_X9_cardOf (v1 : Int32) (v2 : Int32) (G : GM) : Option (Nat × GM) :=
  ov (f_X2_deal 47 ((nw G) + 1) v1 74 G) fun G16 =>
ov (f_X0_look ((nw G16) + 1) 74 v2 ((nw G16) + 21) G16) fun G42 =>
some (71, G42)
def f_X9_isTime (v1 : Int32) (G : GM) : Option (Int32 × GM) :=
  ob (f_X9_isHall G) fun r1 G1 =>
if r1 = 0 then
(some ((0 : Int32), G1))
else
(if v1 < 0 then
(some ((0 : Int32), G1))
else
(if (gI G1 ((nw G1) + 1) 6) < v1 then
(some ((0 : Int32), G1))
else
(some ((1 : Int32), G1))))
def f_X9_daubs (v1 : Int32) (v2 : Int32) (v3 : Int32) (G : GM) : Option (Int32 × GM) :=
  ob (f_X9_isSerial v1 G) fun r2 G2 =>
if r2 = 0 then
(some ((-2 : Int32), G2))
else
(ob (f_X9_isCard v2 G2) fun r10 G10 =>
if r10 = 0 then
(some ((-2 : Int32), G10))
else
(ob (f_X9_isTime v3 G10) fun r18 G18 =>
if r18 = 0 then
(some ((-2 : Int32), G18))
else
(ob (f_X9_cardOf v1 v2 G18) fun r30 G30 =>
ob (f_X0_daubedBy v3 G30) fun r34 G34 =>
some (r34, G34))))
def f_X9_full (v1 : Int32) (v2 : Int32) (v3 : Int32) (G : GM) : Option (Int32 × GM) :=
  ob (f_X9_isSerial v1 G) fun r2 G2 =>
if r2 = 0 then
(some ((-2 : Int32), G2))
else
(ob (f_X9_isCard v2 G2) fun r10 G10 =>
if r10 = 0 then
(some ((-2 : Int32), G10))
else
(ob (f_X9_isTime v3 G10) fun r18 G18 =>
if r18 = 0 then
(some ((-2 : Int32), G18))
else
(ob (f_X9_cardOf v1 v2 G18) fun r30 G30 =>
ob (f_X0_fullRowsBy v3 G30) fun r34 G34 =>
some (r34, G34))))
def f_X9_isKind (v1 : Int32) (G : GM) : Option (Int32 × GM) :=
  ob (f_X9_isHall G) fun r1 G1 =>
if r1 = 0 then
(some ((0 : Int32), G1))
else
(if v1 < 0 then
(some ((0 : Int32), G1))
else
(if (3 : Int32) ≤ v1 then
(some ((0 : Int32), G1))
else
(some ((1 : Int32), G1))))
def f_X9_lacks (v1 : Int32) (v2 : Int32) (v3 : Int32) (v4 : Int32) (G : GM) : Option (Int32 × GM) :=
  ob (f_X9_isSerial v1 G) fun r2 G2 =>
if r2 = 0 then
(some ((-2 : Int32), G2))
else
(ob (f_X9_isCard v2 G2) fun r10 G10 =>
if r10 = 0 then
(some ((-2 : Int32), G10))
else
(ob (f_X9_isKind v3 G10) fun r18 G18 =>
if r18 = 0 then
(some ((-2 : Int32), G18))
else
(ob (f_X9_isTime v4 G18) fun r27 G27 =>
if r27 = 0 then
(some ((-2 : Int32), G27))
else
(ob (f_X9_cardOf v1 v2 G27) fun r39 G39 =>
ob (f_X0_lackOf v3 v4 G39) fun r45 G45 =>
some (r45, G45)))))
def f_X9_done (v1 : Int32) (v2 : Int32) (v3 : Int32) (G : GM) : Option (Int32 × GM) :=
  ob (f_X9_isSerial v1 G) fun r2 G2 =>
if r2 = 0 then
(some ((-2 : Int32), G2))
else
(ob (f_X9_isCard v2 G2) fun r10 G10 =>
if r10 = 0 then
(some ((-2 : Int32), G10))
else
(ob (f_X9_isKind v3 G10) fun r18 G18 =>
if r18 = 0 then
(some ((-2 : Int32), G18))
else
(ob (f_X9_cardOf v1 v2 G18) fun r30 G30 =>
ob (f_X0_turnOf v3 G30) fun r34 G34 =>
some (r34, G34))))
def f_X9_claim (v1 : Int32) (v2 : Int32) (v3 : Int32) (v4 : Int32) (G : GM) : Option (Int32 × GM) :=
  ob (f_X9_isSerial v1 G) fun r2 G2 =>
if r2 = 0 then
(some ((-2 : Int32), G2))
else
(ob (f_X9_isCard v2 G2) fun r10 G10 =>
if r10 = 0 then
(some ((-2 : Int32), G10))
else
(ob (f_X9_isKind v3 G10) fun r18 G18 =>
if r18 = 0 then
(some ((-2 : Int32), G18))
else
(ob (f_X9_isTime v4 G18) fun r27 G27 =>
if r27 = 0 then
(some ((-2 : Int32), G27))
else
(if v4 = 0 then
(some ((-2 : Int32), G27))
else
(ob (f_X9_cardOf v1 v2 G27) fun r44 G44 =>
ob (f_X0_turnOf v3 G44) fun r48 G48 =>
if r48 = (-1 : Int32) then
(some ((1 : Int32), G48))
else
(if r48 ≤ v4 then
(if r48 = v4 then
(some ((0 : Int32), G48))
else
(some ((2 : Int32), G48)))
else
(some ((1 : Int32), G48))))))))
def k_X9_soldCard_33 (v1 : Int32) (v2 : Int32) (v3 : Nat)   (G : GM) : Option (Nat × GM) :=
  some (71, G)
def f_X9_soldCard (v1 : Int32) (v2 : Int32) (v3 : Nat) (G : GM) : Option (Nat × GM) :=
  ob (f_X9_isPlace v1 G) fun r2 G2 =>
if r2 = 0 then
((k_X9_soldCard_33 v1 v2 v3 G2))
else
(gd (inb v1 8) <|
ov (f_X0_look ((nw G2) + 1) ((nw G2) + 12 + v1.toNatClampNeg) v2 v3 G2) fun G30 =>
(k_X9_soldCard_33 v1 v2 v3 G30))
def k_X9_firstTurnOf_54 (v1 : Int32) (v2 : Int32) (v3 : Nat) (v5 : Int32) (v6 : Int32) (kc6 : Int32 → Int32 → GM → Option (Int32 × GM)) (G : GM) : Option (Int32 × GM) :=
  (kc6 v6 (v5 + (1 : Int32)) G)
def lp_X9_firstTurnOf_6 (v1 : Int32) (v2 : Int32) (v3 : Nat)   (v4 : Int32) (v5 : Int32) (G : GM) (kc6 : Int32 → Int32 → GM → Option (Int32 × GM)) : Option (Int32 × GM) :=
  if (gI G ((nw G) + 1) 0) ≤ v5 then
(some (v4, G))
else
(ob (f_X9_soldCard v1 v5 v3 G) fun r26 G26 =>
ob (f_X0_turnOf v2 G26) fun r30 G30 =>
if r30 = (-1 : Int32) then
((kc6 v4 (v5 + (1 : Int32)) G30))
else
(if v4 = (-1 : Int32) then
((k_X9_firstTurnOf_54 v1 v2 v3 v5 r30 kc6 G30))
else
(if v4 ≤ r30 then
((kc6 v4 (v5 + (1 : Int32)) G30))
else
((k_X9_firstTurnOf_54 v1 v2 v3 v5 r30 kc6 G30)))))
def f_X9_firstTurnOf (v1 : Int32) (v2 : Int32) (v3 : Nat) (G : GM) : Option (Int32 × GM) :=
  (wl2 FU (lp_X9_firstTurnOf_6 v1 v2 v3) (-1 : Int32) (0 : Int32) G)
def k_X9_firstTurn_44 (v1 : Int32) (v2 : Nat) (v4 : Int32) (v5 : Int32) (kc5 : Int32 → Int32 → GM → Option (Int32 × GM)) (G : GM) : Option (Int32 × GM) :=
  (kc5 v5 (v4 + (1 : Int32)) G)
def lp_X9_firstTurn_5 (v1 : Int32) (v2 : Nat)   (v3 : Int32) (v4 : Int32) (G : GM) (kc5 : Int32 → Int32 → GM → Option (Int32 × GM)) : Option (Int32 × GM) :=
  if (gI G (nw G) 5) ≤ v4 then
(some (v3, G))
else
(ob (f_X9_firstTurnOf v4 v1 v2 G) fun r22 G22 =>
if r22 = (-1 : Int32) then
((kc5 v3 (v4 + (1 : Int32)) G22))
else
(if v3 = (-1 : Int32) then
((k_X9_firstTurn_44 v1 v2 v4 r22 kc5 G22))
else
(if v3 ≤ r22 then
((kc5 v3 (v4 + (1 : Int32)) G22))
else
((k_X9_firstTurn_44 v1 v2 v4 r22 kc5 G22)))))
def f_X9_firstTurn (v1 : Int32) (v2 : Nat) (G : GM) : Option (Int32 × GM) :=
  (wl2 FU (lp_X9_firstTurn_5 v1 v2) (-1 : Int32) (0 : Int32) G)
def f_X9_first (v1 : Int32) (G : GM) : Option (Int32 × GM) :=
  ob (f_X9_isKind v1 G) fun r2 G2 =>
if r2 = 0 then
(some ((-2 : Int32), G2))
else
(ob (f_X9_firstTurn v1 ((nw G2) + 21) G2) fun r17 G17 =>
some (r17, G17))
def f_X9_hasFirst (v1 : Int32) (v2 : Int32) (v3 : Int32) (v4 : Int32) (G : GM) : Option (Int32 × GM) :=
  if v4 = (-1 : Int32) then
(some ((0 : Int32), G))
else
(ob (f_X9_soldCard v1 v2 ((nw G) + 21) G) fun r16 G16 =>
ob (f_X0_turnOf v3 G16) fun r20 G20 =>
if r20 = v4 then
(some ((1 : Int32), G20))
else
(some ((0 : Int32), G20)))
def lp_X9_winnersAt_26 (v1 : Int32) (v2 : Int32) (v3 : Nat) (v5 : Int32) (kc6 : Int32 → Int32 → GM → Option (Int32 × GM)) (v4 : Int32) (v6 : Int32) (G : GM) (kc26 : Int32 → Int32 → GM → Option (Int32 × GM)) : Option (Int32 × GM) :=
  if (gI G ((nw G) + 1) 0) ≤ v6 then
((kc6 v4 (v5 + (1 : Int32)) G))
else
(ob (f_X9_soldCard v5 v6 v3 G) fun r47 G47 =>
ob (f_X0_turnOf v1 G47) fun r51 G51 =>
if r51 = v2 then
((kc26 (v4 + (1 : Int32)) (v6 + (1 : Int32)) G51))
else
((kc26 v4 (v6 + (1 : Int32)) G51)))
def lp_X9_winnersAt_6 (v1 : Int32) (v2 : Int32) (v3 : Nat)   (v4 : Int32) (v5 : Int32) (G : GM) (kc6 : Int32 → Int32 → GM → Option (Int32 × GM)) : Option (Int32 × GM) :=
  if (gI G (nw G) 5) ≤ v5 then
(some (v4, G))
else
(if v2 = (-1 : Int32) then
(some (v4, G))
else
((wl2 FU (lp_X9_winnersAt_26 v1 v2 v3 v5 kc6) v4 (0 : Int32) G)))
def f_X9_winnersAt (v1 : Int32) (v2 : Int32) (v3 : Nat) (G : GM) : Option (Int32 × GM) :=
  (wl2 FU (lp_X9_winnersAt_6 v1 v2 v3) (0 : Int32) (0 : Int32) G)
def lp_X9_winner_69 (v1 : Int32) (v2 : Int32) (v3 : Int32) (v5 : Int32) (kc54 : Int32 → Int32 → GM → Option (Int32 × GM)) (v4 : Int32) (v6 : Int32) (G : GM) (kc69 : Int32 → Int32 → GM → Option (Int32 × GM)) : Option (Int32 × GM) :=
  if (gI G ((nw G) + 1) 0) ≤ v6 then
((kc54 v4 (v5 + (1 : Int32)) G))
else
(ob (f_X9_hasFirst v5 v6 v1 v3 G) fun r91 G91 =>
if r91 = 0 then
((kc69 v4 (v6 + (1 : Int32)) G91))
else
(if v4 = v2 then
(some ((((10 : Int32) * v5) + v6), G91))
else
((kc69 (v4 + (1 : Int32)) (v6 + (1 : Int32)) G91))))
def lp_X9_winner_54 (v1 : Int32) (v2 : Int32) (v3 : Int32)  (v4 : Int32) (v5 : Int32) (G : GM) (kc54 : Int32 → Int32 → GM → Option (Int32 × GM)) : Option (Int32 × GM) :=
  if (gI G (nw G) 5) ≤ v5 then
(some ((-1 : Int32), G))
else
((wl2 FU (lp_X9_winner_69 v1 v2 v3 v5 kc54) v4 (0 : Int32) G))
def f_X9_winner (v1 : Int32) (v2 : Int32) (G : GM) : Option (Int32 × GM) :=
  ob (f_X9_isKind v1 G) fun r2 G2 =>
if r2 = 0 then
(some ((-2 : Int32), G2))
else
(if (-1 : Int32) ≤ v2 then
(ob (f_X9_firstTurn v1 ((nw G2) + 21) G2) fun r25 G25 =>
if v2 = (-1 : Int32) then
(ob (f_X9_winnersAt v1 r25 ((nw G25) + 21) G25) fun r44 G44 =>
some (r44, G44))
else
((wl2 FU (lp_X9_winner_54 v1 v2 r25) (0 : Int32) (0 : Int32) G25)))
else
(some ((-2 : Int32), G2)))
def f_X9_partOf (v0 : Int32) (v1 : Int32) (G : GM) : Option (Int32 × GM) :=
  if (1 : Int32) ≤ v1 then
(gd (decide (¬ v1 = 0)) <|
some ((v0 / v1), G))
else
(some ((0 : Int32), G))
def f_X9_prize (v1 : Int32) (v2 : Int32) (G : GM) : Option (Int32 × GM) :=
  ob (f_X9_isKind v1 G) fun r2 G2 =>
if r2 = 0 then
(some ((-2 : Int32), G2))
else
(if v2 < 0 then
(some ((-2 : Int32), G2))
else
(if v2 ≤ (1 : Int32) then
(ob (f_X9_firstTurn v1 ((nw G2) + 21) G2) fun r31 G31 =>
ob (f_X9_winnersAt v1 r31 ((nw G31) + 21) G31) fun r41 G41 =>
gd (inb v1 3) <|
ob (f_X9_partOf (gI G41 ((nw G41) + 9) v1.toNatClampNeg) r41 G41) fun r55 G55 =>
if v2 = 0 then
(some (r55, G55))
else
(gd (inb v1 3) <|
some (((gI G55 ((nw G55) + 9) v1.toNatClampNeg) - (r55 * r41)), G55)))
else
(some ((-2 : Int32), G2))))
def f_X9_jackpotPart (v1 : Int32) (G : GM) : Option (Int32 × GM) :=
  if v1 = (-1 : Int32) then
(some ((0 : Int32), G))
else
(if v1 ≤ (gI G (nw G) 4) then
(ob (f_X9_winnersAt (2 : Int32) v1 ((nw G) + 21) G) fun r35 G35 =>
ob (f_X9_partOf (gI G (nw G) 3) r35 G35) fun r38 G38 =>
some (r38, G38))
else
(some ((0 : Int32), G)))
def f_X9_jackpot (v1 : Int32) (G : GM) : Option (Int32 × GM) :=
  ob (f_X9_isHall G) fun r1 G1 =>
if r1 = 0 then
(some ((-2 : Int32), G1))
else
(if v1 < 0 then
(some ((-2 : Int32), G1))
else
(if v1 ≤ (1 : Int32) then
(ob (f_X9_firstTurn (2 : Int32) ((nw G1) + 21) G1) fun r28 G28 =>
if v1 = 0 then
(ob (f_X9_jackpotPart r28 G28) fun r38 G38 =>
ob (f_X9_winnersAt (2 : Int32) r28 ((nw G38) + 21) G38) fun r51 G51 =>
some ((r38 * r51), G51))
else
(if (gI G28 (nw G28) 4) = 0 then
(some ((-1 : Int32), G28))
else
(if r28 = (-1 : Int32) then
(some ((-1 : Int32), G28))
else
(some ((jmax (0 : Int32) (r28 - (gI G28 (nw G28) 4))), G28)))))
else
(some ((-2 : Int32), G1))))
def f_X9_winnerPart (v1 : Int32) (v2 : Int32) (G : GM) : Option (Int32 × GM) :=
  gd (inb v1 3) <|
ob (f_X9_winnersAt v1 v2 ((nw G) + 21) G) fun r19 G19 =>
ob (f_X9_partOf (gI G ((nw G) + 9) v1.toNatClampNeg) r19 G19) fun r22 G22 =>
if v1 = (2 : Int32) then
(ob (f_X9_jackpotPart v2 G22) fun r34 G34 =>
some ((r22 + r34), G34))
else
(some (r22, G22))
def lp_X9_wins_46 (v1 : Int32) (v3 : Int32) (v4 : Int32) (v5 : Int32) (kc15 : Int32 → Int32 → GM → Option (Int32 × GM)) (v2 : Int32) (v6 : Int32) (G : GM) (kc46 : Int32 → Int32 → GM → Option (Int32 × GM)) : Option (Int32 × GM) :=
  if (gI G ((nw G) + 1) 0) ≤ v6 then
((kc15 v2 (v3 + (1 : Int32)) G))
else
(ob (f_X9_hasFirst v1 v6 v3 v4 G) fun r68 G68 =>
if r68 = 0 then
((kc46 v2 (v6 + (1 : Int32)) G68))
else
(lt (v2 + v5) fun x78 =>
(kc46 x78 (v6 + (1 : Int32)) G68)))
def lp_X9_wins_15 (v1 : Int32)   (v2 : Int32) (v3 : Int32) (G : GM) (kc15 : Int32 → Int32 → GM → Option (Int32 × GM)) : Option (Int32 × GM) :=
  if (3 : Int32) ≤ v3 then
(some (v2, G))
else
(ob (f_X9_firstTurn v3 ((nw G) + 21) G) fun r29 G29 =>
ob (f_X9_winnerPart v3 r29 G29) fun r38 G38 =>
(wl2 FU (lp_X9_wins_46 v1 v3 r29 r38 kc15) v2 (0 : Int32) G38))
def f_X9_wins (v1 : Int32) (G : GM) : Option (Int32 × GM) :=
  ob (f_X9_isPlace v1 G) fun r2 G2 =>
if r2 = 0 then
(some ((-2 : Int32), G2))
else
((wl2 FU (lp_X9_wins_15 v1) (0 : Int32) (0 : Int32) G2))
def lp_X9_wonInAll_4    (v1 : Int64) (v3 : Int32) (G : GM) (kc4 : Int64 → Int32 → GM → Option (Int64 × GM)) : Option (Int64 × GM) :=
  if (3 : Int32) ≤ v3 then
(some (v1, G))
else
(ob (f_X9_firstTurn v3 ((nw G) + 21) G) fun r18 G18 =>
ob (f_X9_winnerPart v3 r18 G18) fun r28 G28 =>
ob (f_X9_winnersAt v3 r18 ((nw G28) + 21) G28) fun r43 G43 =>
lt (v1 + ((r28.toInt64) * (r43.toInt64))) fun x49 =>
(kc4 x49 (v3 + (1 : Int32)) G43))
def f_X9_wonInAll  (G : GM) : Option (Int64 × GM) :=
  (wl2 FU (lp_X9_wonInAll_4 ) (0 : Int64) (0 : Int32) G)
def lp_X9_isUnlikeAhead_2 (v1 : Int32)   (v2 : Int32) (G : GM) (kc2 : Int32 → GM → Option (Int32 × GM)) : Option (Int32 × GM) :=
  if v1 ≤ v2 then
(some ((1 : Int32), G))
else
(gd (inb v2 40) <|
gd (inb v1 40) <|
ob (f_X9_areSame (77 + v2.toNatClampNeg) (77 + v1.toNatClampNeg) G) fun r19 G19 =>
if r19 = 0 then
((kc2 (v2 + (1 : Int32)) G19))
else
(some ((0 : Int32), G19)))
def f_X9_isUnlikeAhead (v1 : Int32) (G : GM) : Option (Int32 × GM) :=
  (wl1 FU (lp_X9_isUnlikeAhead_2 v1) (0 : Int32) G)
def k_X9_book_95 (v1 : Int32) (v2 : Int32) (v3 : Int32)  (G : GM) : Option (Int32 × GM) :=
  if v2 < 0 then
(some ((-1 : Int32), G))
else
(if v3 ≤ v2 then
(some ((-1 : Int32), G))
else
(gd (inb v2 40) <|
some ((gI G 117 v2.toNatClampNeg), G)))
def lp_X9_book_30 (v1 : Int32) (v2 : Int32) (v4 : Int32)  (v3 : Int32) (v5 : Int32) (G : GM) (kc30 : Int32 → Int32 → GM → Option (Int32 × GM)) : Option (Int32 × GM) :=
  if v4 < v5 then
((k_X9_book_95 v1 v2 v3 G))
else
(if v2 < v3 then
((k_X9_book_95 v1 v2 v3 G))
else
(if (40 : Int32) ≤ v3 then
((k_X9_book_95 v1 v2 v3 G))
else
(gd (inb v3 40) <|
ov (f_X2_deal 47 ((nw G) + 1) v5 (77 + v3.toNatClampNeg) G) fun G67 =>
ob (f_X9_isUnlikeAhead v3 G67) fun r72 G72 =>
if r72 = 0 then
((kc30 v3 (v5 + (1 : Int32)) G72))
else
(gd (inb v3 40) <| lt (sI G72 117 v3.toNatClampNeg v5) fun G85 =>
(kc30 (v3 + (1 : Int32)) (v5 + (1 : Int32)) G85)))))
def f_X9_book (v1 : Int32) (v2 : Int32) (G : GM) : Option (Int32 × GM) :=
  ob (f_X9_isSerial v1 G) fun r2 G2 =>
if r2 = 0 then
(some ((-2 : Int32), G2))
else
(lt (jmin ((v1 + (40 : Int32)) - (1 : Int32)) (9999 : Int32)) fun x25 =>
(wl2 FU (lp_X9_book_30 v1 v2 x25) (0 : Int32) v1 G2))
def lp_X9_isShape_2 (v1 : Int32)   (v2 : Int32) (G : GM) (kc2 : Int32 → GM → Option (Int32 × GM)) : Option (Int32 × GM) :=
  ob (f_X8_lengthOf v1 G) fun r8 G8 =>
if r8 ≤ v2 then
(some ((1 : Int32), G8))
else
(ob (f_X8_valueAt v1 v2 G8) fun r20 G20 =>
if (lg_cmp r20 (0 : Int64)) < 0 then
(some ((0 : Int32), G20))
else
(if 0 ≤ (lg_cmp (r20 / (10 : Int64)) ((gI G20 ((nw G20) + 1) 1).toInt64)) then
(some ((0 : Int32), G20))
else
(if (lg_cmp (r20 - r20 / (10 : Int64) * (10 : Int64)) ((gI G20 ((nw G20) + 1) 3).toInt64)) < 0 then
((kc2 (v2 + (1 : Int32)) G20))
else
(some ((0 : Int32), G20)))))
def f_X9_isShape (v1 : Int32) (G : GM) : Option (Int32 × GM) :=
  (wl1 FU (lp_X9_isShape_2 v1) (0 : Int32) G)
def lp_X9_shapeTurn_5 (v2 : Int32)   (v3 : Int32) (v4 : Int32) (G : GM) (kc5 : Int32 → Int32 → GM → Option (Int32 × GM)) : Option (Int32 × GM) :=
  ob (f_X8_lengthOf v2 G) fun r12 G12 =>
if r12 ≤ v4 then
(some (v3, G12))
else
(ob (f_X8_valueAt v2 v4 G12) fun r25 G25 =>
lt (r25.toInt32) fun x29 =>
ob (f_X0_turnAt (x29 / (10 : Int32)) (x29 - x29 / (10 : Int32) * (10 : Int32)) G25) fun r43 G43 =>
lt (jmax v3 r43) fun x49 =>
(kc5 x49 (v4 + (1 : Int32)) G43))
def f_X9_shapeTurn (v2 : Int32) (G : GM) : Option (Int32 × GM) :=
  (wl2 FU (lp_X9_shapeTurn_5 v2) (0 : Int32) (0 : Int32) G)
def f_X9_shaped (v1 : Int32) (v2 : Int32) (v3 : Int32) (G : GM) : Option (Int32 × GM) :=
  ob (f_X9_isSerial v1 G) fun r2 G2 =>
if r2 = 0 then
(some ((-2 : Int32), G2))
else
(ob (f_X9_isCard v2 G2) fun r10 G10 =>
if r10 = 0 then
(some ((-2 : Int32), G10))
else
(ob (f_X8_isSlot v3 G10) fun r21 G21 =>
if r21 = 0 then
(some ((-2 : Int32), G21))
else
(ob (f_X8_hasRow v3 G21) fun r35 G35 =>
if r35 = 0 then
(some ((-6 : Int32), G35))
else
(ob (f_X9_isShape v3 G35) fun r46 G46 =>
if r46 = 0 then
(some ((-2 : Int32), G46))
else
(ob (f_X9_cardOf v1 v2 G46) fun r56 G56 =>
ob (f_X9_shapeTurn v3 G56) fun r60 G60 =>
some (r60, G60))))))
def k_X9_shape_126 (v1 : Int32) (v2 : Int32) (v5 : Int32) (v6 : Int32) (v7 : Int32) (kc63 : Int32 → Int32 → Int32 → GM → Option (Int32 × GM)) (kc78 : Int32 → Int32 → Int32 → GM → Option (Int32 × GM)) (G : GM) : Option (Int32 × GM) :=
  lt (((10 : Int32) * v5) + v6) fun x137 =>
(kc78 v7 x137 (v6 + (1 : Int32)) G)
def lp_X9_shape_78 (v1 : Int32) (v2 : Int32) (v5 : Int32) (kc63 : Int32 → Int32 → Int32 → GM → Option (Int32 × GM)) (v3 : Int32) (v4 : Int32) (v6 : Int32) (G : GM) (kc78 : Int32 → Int32 → Int32 → GM → Option (Int32 × GM)) : Option (Int32 × GM) :=
  if (gI G ((nw G) + 1) 0) ≤ v6 then
((kc63 v3 v4 (v5 + (1 : Int32)) G))
else
(ob (f_X9_soldCard v5 v6 ((nw G) + 21) G) fun r106 G106 =>
ob (f_X9_shapeTurn v1 G106) fun r110 G110 =>
if v3 = (-1 : Int32) then
((k_X9_shape_126 v1 v2 v5 v6 r110 kc63 kc78 G110))
else
(if v3 ≤ r110 then
((kc78 v3 v4 (v6 + (1 : Int32)) G110))
else
((k_X9_shape_126 v1 v2 v5 v6 r110 kc63 kc78 G110))))
def lp_X9_shape_63 (v1 : Int32) (v2 : Int32)   (v3 : Int32) (v4 : Int32) (v5 : Int32) (G : GM) (kc63 : Int32 → Int32 → Int32 → GM → Option (Int32 × GM)) : Option (Int32 × GM) :=
  if (gI G (nw G) 5) ≤ v5 then
(if v2 = 0 then
(some (v3, G))
else
(some (v4, G)))
else
((wl3 FU (lp_X9_shape_78 v1 v2 v5 kc63) v3 v4 (0 : Int32) G))
def f_X9_shape (v1 : Int32) (v2 : Int32) (G : GM) : Option (Int32 × GM) :=
  ob (f_X9_isHall G) fun r1 G1 =>
if r1 = 0 then
(some ((-2 : Int32), G1))
else
(ob (f_X8_isSlot v1 G1) fun r12 G12 =>
if r12 = 0 then
(some ((-2 : Int32), G12))
else
(if v2 < 0 then
(some ((-2 : Int32), G12))
else
(if v2 ≤ (1 : Int32) then
(ob (f_X8_hasRow v1 G12) fun r35 G35 =>
if r35 = 0 then
(some ((-6 : Int32), G35))
else
(ob (f_X9_isShape v1 G35) fun r46 G46 =>
if r46 = 0 then
(some ((-2 : Int32), G46))
else
((wl3 FU (lp_X9_shape_63 v1 v2) (-1 : Int32) (-1 : Int32) (0 : Int32) G46))))
else
(some ((-2 : Int32), G12)))))
def f_X9_corners (v1 : Int32) (v2 : Int32) (G : GM) : Option (Int32 × GM) :=
  ob (f_X9_isSerial v1 G) fun r2 G2 =>
if r2 = 0 then
(some ((-2 : Int32), G2))
else
(ob (f_X9_isCard v2 G2) fun r10 G10 =>
if r10 = 0 then
(some ((-2 : Int32), G10))
else
(ob (f_X9_cardOf v1 v2 G10) fun r22 G22 =>
ob (f_X0_endsTurn (0 : Int32) G22) fun r28 G28 =>
ob (f_X0_endsTurn ((gI G28 ((nw G28) + 1) 1) - (1 : Int32)) G28) fun r44 G44 =>
some ((jmax r28 r44), G44)))
def lp_X9_filled_41 (v1 : Int32) (v2 : Int32) (v3 : Int32)   (v5 : Int32) (v6 : Int32) (G : GM) (kc41 : Int32 → Int32 → GM → Option (Int32 × GM)) : Option (Int32 × GM) :=
  if (gI G ((nw G) + 1) 1) ≤ v6 then
(some (v5, G))
else
(ob (f_X0_turnAt v6 v3 G) fun r63 G63 =>
lt (jmax v5 r63) fun x69 =>
(kc41 x69 (v6 + (1 : Int32)) G63))
def f_X9_filled (v1 : Int32) (v2 : Int32) (v3 : Int32) (G : GM) : Option (Int32 × GM) :=
  ob (f_X9_isSerial v1 G) fun r2 G2 =>
if r2 = 0 then
(some ((-2 : Int32), G2))
else
(ob (f_X9_isCard v2 G2) fun r10 G10 =>
if r10 = 0 then
(some ((-2 : Int32), G10))
else
(ob (f_X9_isColumn v3 G10) fun r18 G18 =>
if r18 = 0 then
(some ((-2 : Int32), G18))
else
(ob (f_X9_cardOf v1 v2 G18) fun r30 G30 =>
(wl2 FU (lp_X9_filled_41 v1 v2 v3) (0 : Int32) (0 : Int32) G30))))
def f_X9_last (v1 : Int32) (v2 : Int32) (G : GM) : Option (Int32 × GM) :=
  ob (f_X9_isSerial v1 G) fun r2 G2 =>
if r2 = 0 then
(some ((-2 : Int32), G2))
else
(ob (f_X9_isCard v2 G2) fun r10 G10 =>
if r10 = 0 then
(some ((-2 : Int32), G10))
else
(ob (f_X9_cardOf v1 v2 G10) fun r22 G22 =>
ob (f_X0_turnOf (2 : Int32) G22) fun r26 G26 =>
if r26 < (1 : Int32) then
(some ((-2 : Int32), G26))
else
(if r26 ≤ (gI G26 ((nw G26) + 1) 6) then
(gd (inb (r26 - (1 : Int32)) 45) <|
some ((gI G26 ((nw G26) + 20) (r26 - (1 : Int32)).toNatClampNeg), G26))
else
(some ((-2 : Int32), G26)))))
def lp_X9_sweat_39 (v1 : Int32) (v2 : Int32) (v4 : Int32) (kc24 : Int32 → Int32 → GM → Option (Int32 × GM)) (v3 : Int32) (v5 : Int32) (G : GM) (kc39 : Int32 → Int32 → GM → Option (Int32 × GM)) : Option (Int32 × GM) :=
  if (gI G ((nw G) + 1) 0) ≤ v5 then
((kc24 v3 (v4 + (1 : Int32)) G))
else
(ob (f_X9_soldCard v4 v5 ((nw G) + 21) G) fun r66 G66 =>
ob (f_X0_lackOf v1 v2 G66) fun r71 G71 =>
if r71 = (1 : Int32) then
((kc39 (v3 + (1 : Int32)) (v5 + (1 : Int32)) G71))
else
((kc39 v3 (v5 + (1 : Int32)) G71)))
def lp_X9_sweat_24 (v1 : Int32) (v2 : Int32)   (v3 : Int32) (v4 : Int32) (G : GM) (kc24 : Int32 → Int32 → GM → Option (Int32 × GM)) : Option (Int32 × GM) :=
  if (gI G (nw G) 5) ≤ v4 then
(some (v3, G))
else
((wl2 FU (lp_X9_sweat_39 v1 v2 v4 kc24) v3 (0 : Int32) G))
def f_X9_sweat (v1 : Int32) (v2 : Int32) (G : GM) : Option (Int32 × GM) :=
  ob (f_X9_isKind v1 G) fun r2 G2 =>
if r2 = 0 then
(some ((-2 : Int32), G2))
else
(ob (f_X9_isTime v2 G2) fun r10 G10 =>
if r10 = 0 then
(some ((-2 : Int32), G10))
else
((wl2 FU (lp_X9_sweat_24 v1 v2) (0 : Int32) (0 : Int32) G10)))
def k_X9_nearest_93 (v1 : Int32) (v2 : Int32) (v4 : Int32) (v5 : Int32) (v6 : Int32) (kc24 : Int32 → Int32 → GM → Option (Int32 × GM)) (kc39 : Int32 → Int32 → GM → Option (Int32 × GM)) (G : GM) : Option (Int32 × GM) :=
  (kc39 v6 (v5 + (1 : Int32)) G)
def lp_X9_nearest_39 (v1 : Int32) (v2 : Int32) (v4 : Int32) (kc24 : Int32 → Int32 → GM → Option (Int32 × GM)) (v3 : Int32) (v5 : Int32) (G : GM) (kc39 : Int32 → Int32 → GM → Option (Int32 × GM)) : Option (Int32 × GM) :=
  if (gI G ((nw G) + 1) 0) ≤ v5 then
((kc24 v3 (v4 + (1 : Int32)) G))
else
(ob (f_X9_soldCard v4 v5 ((nw G) + 21) G) fun r66 G66 =>
ob (f_X0_lackOf v1 v2 G66) fun r71 G71 =>
if r71 = (-1 : Int32) then
((kc39 v3 (v5 + (1 : Int32)) G71))
else
(if v3 = (-1 : Int32) then
((k_X9_nearest_93 v1 v2 v4 v5 r71 kc24 kc39 G71))
else
(if v3 ≤ r71 then
((kc39 v3 (v5 + (1 : Int32)) G71))
else
((k_X9_nearest_93 v1 v2 v4 v5 r71 kc24 kc39 G71)))))
def lp_X9_nearest_24 (v1 : Int32) (v2 : Int32)   (v3 : Int32) (v4 : Int32) (G : GM) (kc24 : Int32 → Int32 → GM → Option (Int32 × GM)) : Option (Int32 × GM) :=
  if (gI G (nw G) 5) ≤ v4 then
(some (v3, G))
else
((wl2 FU (lp_X9_nearest_39 v1 v2 v4 kc24) v3 (0 : Int32) G))
def f_X9_nearest (v1 : Int32) (v2 : Int32) (G : GM) : Option (Int32 × GM) :=
  ob (f_X9_isKind v1 G) fun r2 G2 =>
if r2 = 0 then
(some ((-2 : Int32), G2))
else
(ob (f_X9_isTime v2 G2) fun r10 G10 =>
if r10 = 0 then
(some ((-2 : Int32), G10))
else
((wl2 FU (lp_X9_nearest_24 v1 v2) (-1 : Int32) (0 : Int32) G10)))
def f_X9_daubTime (v0 : Int32) (v1 : Int32) (v2 : Int32) (v3 : Int32) (G : GM) : Option (Int32 × GM) :=
  if v3 < (1 : Int32) then
(some (v0, G))
else
(if v3 < v2 then
(gd (decide (¬ v3 = 0)) <|
some ((((((v0 - (1 : Int32)) * v2) + v1) / v3) + (1 : Int32)), G))
else
(some (v0, G)))
def k_X9_slow_120 (v1 : Int32) (v2 : Int32) (v3 : Int32) (v4 : Int32) (v6 : Int32) (s0 : Int32) (kc60 : Int32 → Int32 → GM → Option (Int32 × GM)) (G : GM) : Option (Int32 × GM) :=
  (kc60 s0 (v6 + (1 : Int32)) G)
def lp_X9_slow_60 (v1 : Int32) (v2 : Int32) (v3 : Int32) (v4 : Int32)   (v5 : Int32) (v6 : Int32) (G : GM) (kc60 : Int32 → Int32 → GM → Option (Int32 × GM)) : Option (Int32 × GM) :=
  if v2 ≤ v6 then
(some (v5, G))
else
(ob (f_X9_firstTurnOf (v1 + v6) v4 ((nw G) + 21) G) fun r80 G80 =>
if r80 = (-1 : Int32) then
((kc60 v5 (v6 + (1 : Int32)) G80))
else
(ob (f_X9_daubTime r80 v6 v2 v3 G80) fun r97 G97 =>
if v5 = (-1 : Int32) then
((k_X9_slow_120 v1 v2 v3 v4 v6 r97 kc60 G97))
else
((k_X9_slow_120 v1 v2 v3 v4 v6 (jmin v5 r97) kc60 G97))))
def f_X9_slow (v1 : Int32) (v2 : Int32) (v3 : Int32) (v4 : Int32) (G : GM) : Option (Int32 × GM) :=
  ob (f_X9_isKind v4 G) fun r3 G3 =>
if r3 = 0 then
(some ((-2 : Int32), G3))
else
(if v2 < (1 : Int32) then
(some ((-2 : Int32), G3))
else
(if (8 : Int32) < v2 then
(some ((-2 : Int32), G3))
else
(if v3 < (1 : Int32) then
(some ((-2 : Int32), G3))
else
(if v3 ≤ (8 : Int32) then
(if v1 < 0 then
(some ((-2 : Int32), G3))
else
(if v1 ≤ ((gI G3 (nw G3) 5) - v2) then
((wl2 FU (lp_X9_slow_60 v1 v2 v3 v4) (-1 : Int32) (0 : Int32) G3))
else
(some ((-2 : Int32), G3))))
else
(some ((-2 : Int32), G3))))))
def lp_X9_aheadOf_6 (v1 : Int32) (v2 : Int32) (v3 : Int32)   (v4 : Int32) (v5 : Int32) (G : GM) (kc6 : Int32 → Int32 → GM → Option (Int32 × GM)) : Option (Int32 × GM) :=
  if (gI G (nw G) 5) ≤ v5 then
(some (v4, G))
else
(ob (f_X9_firstTurnOf v5 v3 ((nw G) + 21) G) fun r29 G29 =>
if r29 < v2 then
((kc6 (v4 + (1 : Int32)) (v5 + (1 : Int32)) G29))
else
(if r29 = v2 then
(if v1 ≤ v5 then
((kc6 v4 (v5 + (1 : Int32)) G29))
else
((kc6 (v4 + (1 : Int32)) (v5 + (1 : Int32)) G29)))
else
((kc6 v4 (v5 + (1 : Int32)) G29))))
def f_X9_aheadOf (v1 : Int32) (v2 : Int32) (v3 : Int32) (G : GM) : Option (Int32 × GM) :=
  (wl2 FU (lp_X9_aheadOf_6 v1 v2 v3) (0 : Int32) (0 : Int32) G)
def lp_X9_race_13 (v1 : Int32) (v2 : Int32)   (v3 : Int32) (G : GM) (kc13 : Int32 → GM → Option (Int32 × GM)) : Option (Int32 × GM) :=
  if (gI G (nw G) 5) ≤ v3 then
(some ((-1 : Int32), G))
else
(ob (f_X9_firstTurnOf v3 v1 ((nw G) + 21) G) fun r34 G34 =>
if r34 = (-1 : Int32) then
((kc13 (v3 + (1 : Int32)) G34))
else
(ob (f_X9_aheadOf v3 r34 v1 G34) fun r50 G50 =>
if r50 = v2 then
(some (v3, G50))
else
((kc13 (v3 + (1 : Int32)) G50))))
def f_X9_race (v1 : Int32) (v2 : Int32) (G : GM) : Option (Int32 × GM) :=
  ob (f_X9_isKind v1 G) fun r2 G2 =>
if r2 = 0 then
(some ((-2 : Int32), G2))
else
((wl1 FU (lp_X9_race_13 v1 v2) (0 : Int32) G2))
def lp_X9_paidInAll_22 (v1 : Int32) (v2 : Int32)  (v3 : Int64) (v5 : Int32) (G : GM) (kc22 : Int64 → Int32 → GM → Option (Int64 × GM)) : Option (Int64 × GM) :=
  if v2 ≤ v5 then
(some (v3, G))
else
(ob (f_X8_valueAt v1 v5 G) fun r35 G35 =>
if (lg_cmp r35 (1 : Int64)) < 0 then
(some ((0 : Int64), G35))
else
(if (lg_cmp r35 (9999 : Int64)) ≤ 0 then
(lt (v3 + r35) fun x62 =>
(kc22 x62 (v5 + (1 : Int32)) G35))
else
(some ((0 : Int64), G35))))
def f_X9_paidInAll (v1 : Int32) (G : GM) : Option (Int64 × GM) :=
  ob (f_X8_lengthOf v1 G) fun r5 G5 =>
if r5 ≤ (8 : Int32) then
((wl2 FU (lp_X9_paidInAll_22 v1 r5) (0 : Int64) (0 : Int32) G5))
else
(some ((0 : Int64), G5))
def k_X9_share_150 (v1 : Int32) (v2 : Int32) (s0 : Int64)  (G : GM) : Option (Int32 × GM) :=
  some ((s0.toInt32), G)
def lp_X9_share_81 (v1 : Int32) (v2 : Int32) (v3 : Int64) (v5 : Int64)  (v7 : Int64) (v9 : Int32) (G : GM) (kc81 : Int64 → Int32 → GM → Option (Int32 × GM)) : Option (Int32 × GM) :=
  ob (f_X8_lengthOf v1 G) fun r88 G88 =>
if r88 ≤ v9 then
(ob (f_X8_valueAt v1 v2 G88) fun r128 G128 =>
gd (decide (¬ v3 = 0)) <|
lt ((v5 * r128) / v3) fun x134 =>
if v2 = 0 then
((k_X9_share_150 v1 v2 (x134 + v7) G128))
else
((k_X9_share_150 v1 v2 x134 G128)))
else
(ob (f_X8_valueAt v1 v9 G88) fun r105 G105 =>
gd (decide (¬ v3 = 0)) <|
lt (v7 - ((v5 * r105) / v3)) fun x112 =>
(kc81 x112 (v9 + (1 : Int32)) G105))
def f_X9_share (v1 : Int32) (v2 : Int32) (G : GM) : Option (Int32 × GM) :=
  ob (f_X9_isHall G) fun r1 G1 =>
if r1 = 0 then
(some ((-2 : Int32), G1))
else
(ob (f_X8_isSlot v1 G1) fun r12 G12 =>
if r12 = 0 then
(some ((-2 : Int32), G12))
else
(ob (f_X8_hasRow v1 G12) fun r26 G26 =>
if r26 = 0 then
(some ((-6 : Int32), G26))
else
(ob (f_X9_paidInAll v1 G26) fun r37 G37 =>
if 0 ≤ (lg_cmp r37 (1 : Int64)) then
(if v2 < 0 then
(some ((-1 : Int32), G37))
else
(ob (f_X8_lengthOf v1 G37) fun r60 G60 =>
if v2 < r60 then
(ob (f_X9_wonInAll G60) fun r69 G69 =>
(wl2 FU (lp_X9_share_81 v1 v2 r37 r69) r69 (0 : Int32) G69))
else
(some ((-1 : Int32), G60))))
else
(some ((-2 : Int32), G37)))))
def f_X9_isPartOfFraction (v0 : Int32) (G : GM) : Option (Int32 × GM) :=
  if v0 = 0 then
(some ((1 : Int32), G))
else
(if v0 = (1 : Int32) then
(some ((1 : Int32), G))
else
(some ((0 : Int32), G)))
def k_X9_chance_98 (v1 : Int32) (v2 : Int32) (v3 : Int32) (v4 : Nat) (s0 : Int32) (s1 : Int32) (s2 : Int32) (s3 : Int32) (s4 : Int32)  (G : GM) : Option (Int64 × GM) :=
  ob (f_X1_drawsWith s4 s3 s2 s1 s0 G) fun r98 G98 =>
ob (f_X1_choose (gI G98 v4 6) v2 G98) fun r111 G111 =>
ob (f_X1_told r98 r111 v3 G111) fun r115 G115 =>
some (r115, G115)
def k_X9_chance_76 (v1 : Int32) (v2 : Int32) (v3 : Int32) (v4 : Nat) (v5 : Int32) (s0 : Int32)  (G : GM) : Option (Int64 × GM) :=
  if v1 = (1 : Int32) then
((k_X9_chance_98 v1 v2 v3 v4 (2 : Int32) s0 v5 v2 (gI G v4 6) G))
else
((k_X9_chance_98 v1 v2 v3 v4 (1 : Int32) s0 v5 v2 (gI G v4 6) G))
def k_X9_chance_50 (v1 : Int32) (v2 : Int32) (v3 : Int32) (v4 : Nat) (s0 : Int32)  (G : GM) : Option (Int64 × GM) :=
  if v1 = (2 : Int32) then
((k_X9_chance_76 v1 v2 v3 v4 s0 ((gI G v4 1) * (gI G v4 2)) G))
else
((k_X9_chance_76 v1 v2 v3 v4 s0 (gI G v4 2) G))
def k_X9_chance_23 (v1 : Int32) (v2 : Int32) (v3 : Int32)   (G : GM) : Option (Int64 × GM) :=
  some ((-2 : Int64), G)
def f_X9_chance (v1 : Int32) (v2 : Int32) (v3 : Int32) (G : GM) : Option (Int64 × GM) :=
  ob (f_X9_isKind v1 G) fun r2 G2 =>
if r2 = 0 then
((k_X9_chance_23 v1 v2 v3 G2))
else
(ob (f_X9_isTime v2 G2) fun r10 G10 =>
if r10 = 0 then
((k_X9_chance_23 v1 v2 v3 G10))
else
(ob (f_X9_isPartOfFraction v3 G10) fun r17 G17 =>
if r17 = 0 then
((k_X9_chance_23 v1 v2 v3 G17))
else
(if v1 = (2 : Int32) then
((k_X9_chance_50 v1 v2 v3 ((nw G17) + 1) (1 : Int32) G17))
else
((k_X9_chance_50 v1 v2 v3 ((nw G17) + 1) (gI G17 ((nw G17) + 1) 1) G17)))))
def k_X9_stripDraws_52 (v1 : Int32) (v2 : Int32) (v3 : Nat) (v4 : Int32) (s0 : Int32)  (G : GM) : Option (Int64 × GM) :=
  ob (f_X1_drawsWith (gI G v3 6) v2 v4 s0 (1 : Int32) G) fun r64 G64 =>
some (r64, G64)
def k_X9_stripDraws_29 (v1 : Int32) (v2 : Int32) (v3 : Nat) (s0 : Int32)  (G : GM) : Option (Int64 × GM) :=
  if v1 = (2 : Int32) then
((k_X9_stripDraws_52 v1 v2 v3 s0 ((gI G v3 1) * (gI G v3 2)) G))
else
((k_X9_stripDraws_52 v1 v2 v3 s0 (gI G v3 2) G))
def f_X9_stripDraws (v1 : Int32) (v2 : Int32) (G : GM) : Option (Int64 × GM) :=
  if v1 = (2 : Int32) then
((k_X9_stripDraws_29 v1 v2 ((nw G) + 1) (gI G ((nw G) + 1) 0) G))
else
((k_X9_stripDraws_29 v1 v2 ((nw G) + 1) ((gI G ((nw G) + 1) 0) * (gI G ((nw G) + 1) 1)) G))
def k_X9_some_28 (v1 : Int32) (v2 : Int32) (v3 : Int32)   (G : GM) : Option (Int64 × GM) :=
  some ((-2 : Int64), G)
def f_X9_some (v1 : Int32) (v2 : Int32) (v3 : Int32) (G : GM) : Option (Int64 × GM) :=
  ob (f_X9_isKind v1 G) fun r2 G2 =>
if r2 = 0 then
((k_X9_some_28 v1 v2 v3 G2))
else
(if v1 = (1 : Int32) then
((k_X9_some_28 v1 v2 v3 G2))
else
(ob (f_X9_isTime v2 G2) fun r15 G15 =>
if r15 = 0 then
((k_X9_some_28 v1 v2 v3 G15))
else
(ob (f_X9_isPartOfFraction v3 G15) fun r22 G22 =>
if r22 = 0 then
((k_X9_some_28 v1 v2 v3 G22))
else
(ob (f_X9_stripDraws v1 v2 G22) fun r35 G35 =>
ob (f_X1_choose (gI G35 ((nw G35) + 1) 6) v2 G35) fun r49 G49 =>
ob (f_X1_told r35 r49 v3 G49) fun r53 G53 =>
some (r53, G53)))))
def k_X9_just_32 (v1 : Int32) (v2 : Int32) (v3 : Int32)   (G : GM) : Option (Int64 × GM) :=
  some ((-2 : Int64), G)
def f_X9_just (v1 : Int32) (v2 : Int32) (v3 : Int32) (G : GM) : Option (Int64 × GM) :=
  ob (f_X9_isKind v1 G) fun r2 G2 =>
if r2 = 0 then
((k_X9_just_32 v1 v2 v3 G2))
else
(if v1 = (1 : Int32) then
((k_X9_just_32 v1 v2 v3 G2))
else
(ob (f_X9_isTime v2 G2) fun r15 G15 =>
if r15 = 0 then
((k_X9_just_32 v1 v2 v3 G15))
else
(if v2 = 0 then
((k_X9_just_32 v1 v2 v3 G15))
else
(ob (f_X9_isPartOfFraction v3 G15) fun r26 G26 =>
if r26 = 0 then
((k_X9_just_32 v1 v2 v3 G26))
else
(ob (f_X9_stripDraws v1 v2 G26) fun r39 G39 =>
ob (f_X9_stripDraws v1 (v2 - (1 : Int32)) G39) fun r50 G50 =>
lt ((r39 * (v2.toInt64)) - (r50 * ((((gI G50 ((nw G50) + 1) 6) - v2) + (1 : Int32)).toInt64))) fun x70 =>
ob (f_X1_choose (gI G50 ((nw G50) + 1) 6) v2 G50) fun r85 G85 =>
ob (f_X1_told x70 (r85 * (v2.toInt64)) v3 G85) fun r92 G92 =>
some (r92, G92))))))
def lp_X9_likely_42 (v1 : Int32) (v2 : Int32) (v3 : Int32)   (v4 : Int32) (G : GM) (kc42 : Int32 → GM → Option (Int32 × GM)) : Option (Int32 × GM) :=
  if (gI G ((nw G) + 1) 6) < v4 then
(some ((-1 : Int32), G))
else
(ob (f_X9_stripDraws v1 v4 G) fun r61 G61 =>
ob (f_X1_choose (gI G61 ((nw G61) + 1) 6) v4 G61) fun r81 G81 =>
if (lg_cmp (r61 * (v3.toInt64)) ((v2.toInt64) * r81)) < 0 then
((kc42 (v4 + (1 : Int32)) G81))
else
(some (v4, G81)))
def f_X9_likely (v1 : Int32) (v2 : Int32) (v3 : Int32) (G : GM) : Option (Int32 × GM) :=
  ob (f_X9_isKind v1 G) fun r2 G2 =>
if r2 = 0 then
(some ((-2 : Int32), G2))
else
(if v1 = (1 : Int32) then
(some ((-2 : Int32), G2))
else
(if v2 < 0 then
(some ((-2 : Int32), G2))
else
(if (1000 : Int32) < v2 then
(some ((-2 : Int32), G2))
else
(if v3 < (1 : Int32) then
(some ((-2 : Int32), G2))
else
(if v3 ≤ (1000 : Int32) then
((wl1 FU (lp_X9_likely_42 v1 v2 v3) (0 : Int32) G2))
else
(some ((-2 : Int32), G2)))))))
def f_X9_mean (v1 : Int32) (v2 : Int32) (G : GM) : Option (Int32 × GM) :=
  ob (f_X9_isTime v1 G) fun r2 G2 =>
if r2 = 0 then
(some ((-2 : Int32), G2))
else
(if v1 = 0 then
(some ((-2 : Int32), G2))
else
(ob (f_X9_isPartOfFraction v2 G2) fun r13 G13 =>
if r13 = 0 then
(some ((-2 : Int32), G13))
else
(ob (f_X1_told ((v1.toInt64) * (((gI G13 ((nw G13) + 1) 6) + (1 : Int32)).toInt64)) ((v1.toInt64) + (1 : Int64)) v2 G13) fun r43 G43 =>
some ((r43.toInt32), G43))))
def k_X9_evenings_149 (v1 : Int32) (v2 : Int32) (v3 : Int32) (v4 : Int32) (v5 : Int32) (v6 : Int32) (v7 : Int32) (v8 : Int32) (v9 : Int32) (s0 : Int32) (kc66 : Int32 → Int32 → Int32 → Int32 → GM → Option (Int32 × GM)) (G : GM) : Option (Int32 × GM) :=
  lt (v5 + s0) fun x156 =>
lt (jmin v6 s0) fun x165 =>
ob (f_X9_winnersAt v3 v9 119 G) fun r175 G175 =>
if r175 ≤ (1 : Int32) then
((kc66 x156 x165 v7 (v8 + (1 : Int32)) G175))
else
((kc66 x156 x165 (v7 + (1 : Int32)) (v8 + (1 : Int32)) G175))
def lp_X9_evenings_66 (v1 : Int32) (v2 : Int32) (v3 : Int32) (v4 : Int32)   (v5 : Int32) (v6 : Int32) (v7 : Int32) (v8 : Int32) (G : GM) (kc66 : Int32 → Int32 → Int32 → Int32 → GM → Option (Int32 × GM)) : Option (Int32 × GM) :=
  if v2 ≤ v8 then
(if v4 = 0 then
(some (v5, G))
else
(if v4 = (1 : Int32) then
(some (v6, G))
else
(some (v7, G))))
else
(ov (f_X2_mixCalls 47 ((nw G) + 1) (v1 + v8) 118 G) fun G91 =>
ov (f_X9_noteTurns 118 (gI G91 ((nw G91) + 1) 6) 119 G91) fun G112 =>
ob (f_X9_firstTurn v3 119 G112) fun r121 G121 =>
if r121 = (-1 : Int32) then
((k_X9_evenings_149 v1 v2 v3 v4 v5 v6 v7 v8 r121 ((gI G121 ((nw G121) + 1) 6) + (1 : Int32)) kc66 G121))
else
((k_X9_evenings_149 v1 v2 v3 v4 v5 v6 v7 v8 r121 r121 kc66 G121)))
def f_X9_evenings (v1 : Int32) (v2 : Int32) (v3 : Int32) (v4 : Int32) (G : GM) : Option (Int32 × GM) :=
  ob (f_X9_isKind v3 G) fun r2 G2 =>
if r2 = 0 then
(some ((-2 : Int32), G2))
else
(if v1 < 0 then
(some ((-2 : Int32), G2))
else
(if (2000000000 : Int32) < v1 then
(some ((-2 : Int32), G2))
else
(if v2 < (1 : Int32) then
(some ((-2 : Int32), G2))
else
(if (20 : Int32) < v2 then
(some ((-2 : Int32), G2))
else
(if v4 < 0 then
(some ((-2 : Int32), G2))
else
(if v4 ≤ (2 : Int32) then
(lt ((gI G2 ((nw G2) + 1) 6) + (1 : Int32)) fun x58 =>
(wl4 FU (lp_X9_evenings_66 v1 v2 v3 v4) (0 : Int32) x58 (0 : Int32) (0 : Int32) G2))
else
(some ((-2 : Int32), G2))))))))
def lp_X9_judge_59 (v1 : Int32) (v2 : Int32)  (v3 : Int32) (G : GM) (kc59 : Int32 → GM → Option (Int32 × GM)) : Option (Int32 × GM) :=
  if v2 ≤ v3 then
(some (v2, G))
else
(ob (f_X8_valueAt v1 v3 G) fun r70 G70 =>
gd (inb v3 45) <|
if (lg_cmp r70 ((gI G70 ((nw G70) + 20) v3.toNatClampNeg).toInt64)) = 0 then
((kc59 (v3 + (1 : Int32)) G70))
else
(some (v3, G70)))
def f_X9_judge (v1 : Int32) (G : GM) : Option (Int32 × GM) :=
  ob (f_X9_isHall G) fun r1 G1 =>
if r1 = 0 then
(some ((-2 : Int32), G1))
else
(ob (f_X8_isSlot v1 G1) fun r12 G12 =>
if r12 = 0 then
(some ((-2 : Int32), G12))
else
(ob (f_X8_hasRow v1 G12) fun r26 G26 =>
if r26 = 0 then
(some ((-6 : Int32), G26))
else
(ob (f_X8_lengthOf v1 G26) fun r40 G40 =>
lt (jmin r40 (gI G40 ((nw G40) + 1) 6)) fun x56 =>
(wl1 FU (lp_X9_judge_59 v1 x56) (0 : Int32) G40))))
def f_X9_count (v1 : Int32) (G : GM) : Option (Int32 × GM) :=
  if v1 = 0 then
(some ((gI G ((nw G) + 1) 0), G))
else
if v1 = 1 then
(some ((gI G ((nw G) + 1) 1), G))
else
if v1 = 2 then
(some ((gI G ((nw G) + 1) 2), G))
else
if v1 = 3 then
(some ((gI G ((nw G) + 1) 3), G))
else
if v1 = 4 then
(some ((gI G (nw G) 5), G))
else
if v1 = 5 then
(some ((gI G (nw G) 1), G))
else
if v1 = 6 then
(some ((gI G 53 1), G))
else
if v1 = 7 then
(some ((gI G (nw G) 3), G))
else
if v1 = 8 then
(some ((gI G (nw G) 4), G))
else
if v1 = 9 then
(ob (f_X8_inUse G) fun r144 G144 =>
some (r144, G144))
else
(some ((-1 : Int32), G))
def f_X9_keep (v1 : Int32) (G : GM) : Option (Int32 × GM) :=
  if v1 < 0 then
(some ((-2 : Int32), G))
else
(if v1 < (3 : Int32) then
(gd (inb v1 3) <|
ov (f_X5_copyFrom (120 + 22 * v1.toNatClampNeg) (nw G) G) fun G22 =>
gd (inb v1 3) <| lt (sI G22 46 v1.toNatClampNeg (vp_nar .boolean (1 : Int32))) fun G31 =>
some ((0 : Int32), G31))
else
(some ((-2 : Int32), G)))
def f_X9_back (v1 : Int32) (G : GM) : Option (Int32 × GM) :=
  if v1 < 0 then
(some ((-2 : Int32), G))
else
(if v1 < (3 : Int32) then
(gd (inb v1 3) <|
if (gI G 46 v1.toNatClampNeg) = 0 then
(some ((-6 : Int32), G))
else
(gd (inb v1 3) <|
ov (f_X5_copyFrom (nw G) (120 + 22 * v1.toNatClampNeg) G) fun G34 =>
some ((0 : Int32), G34)))
else
(some ((-2 : Int32), G)))
def f_X9_row (v1 : Int32) (v2 : Int32) (v3 : Int32) (G : GM) : Option (Int32 × GM) :=
  ob (f_X8_isSlot v1 G) fun r5 G5 =>
if r5 = 0 then
(some ((-2 : Int32), G5))
else
(if v2 < 0 then
(some ((-2 : Int32), G5))
else
(if (3 : Int32) < v2 then
(some ((-2 : Int32), G5))
else
(if v3 ≤ (60 : Int32) then
(if 0 ≤ v3 then
(ov (f_X8_begin v1 v2 v3 G5) fun G43 =>
some ((0 : Int32), G43))
else
(some ((-3 : Int32), G5)))
else
(some ((-2 : Int32), G5)))))
def f_X9_write (v1 : Int32) (v2 : Int32) (v3 : Int64) (G : GM) : Option (Int32 × GM) :=
  ob (f_X8_isSlot v1 G) fun r5 G5 =>
if r5 = 0 then
(some ((-2 : Int32), G5))
else
(ob (f_X8_hasRow v1 G5) fun r19 G19 =>
if r19 = 0 then
(some ((-6 : Int32), G19))
else
(if v2 < 0 then
(some ((-7 : Int32), G19))
else
(ob (f_X8_lengthOf v1 G19) fun r38 G38 =>
if v2 < r38 then
(ov (f_X8_put v1 v2 v3 G38) fun G54 =>
some ((0 : Int32), G54))
else
(some ((-7 : Int32), G38)))))
def f_X9_paste (v1 : Int32) (v2 : Int32) (v3 : Int32) (v4 : Int32) (v5 : Int32) (G : GM) : Option (Int32 × GM) :=
  ob (f_X8_isSlot v1 G) fun r5 G5 =>
if r5 = 0 then
(some ((-2 : Int32), G5))
else
(ob (f_X8_isSlot v3 G5) fun r16 G16 =>
if r16 = 0 then
(some ((-2 : Int32), G16))
else
(ob (f_X8_hasRow v1 G16) fun r30 G30 =>
if r30 = 0 then
(some ((-6 : Int32), G30))
else
(ob (f_X8_hasRow v3 G30) fun r41 G41 =>
if r41 = 0 then
(some ((-6 : Int32), G41))
else
(ob (f_X8_areOfOneWidth v1 v3 G41) fun r56 G56 =>
if r56 = 0 then
(some ((-8 : Int32), G56))
else
(ob (f_X8_holds v1 v2 v5 G56) fun r73 G73 =>
if r73 = 0 then
(some ((-7 : Int32), G73))
else
(ob (f_X8_holds v3 v4 v5 G73) fun r88 G88 =>
if r88 = 0 then
(some ((-7 : Int32), G88))
else
(ov (f_X8_move v1 v2 v3 v4 v5 G88) fun G108 =>
some ((0 : Int32), G108))))))))
