def lp_X7_addFour_3 (v1 : Int32)   (v2 : Int32) (G : GM) (kc3 : Int32 → GM → Option (GM)) : Option (GM) :=
  if v2 < 0 then
(some G)
else
(if (800 : Int32) ≤ (gI G 53 1) then
(some G)
else
(gd (inb (gI G 53 1) 800) <| lt (sI G 54 (gI G 53 1).toNatClampNeg (vp_nar .byte ((v1 >>> (v2 &&& 31)).toInt8.toInt32))) fun G29 =>
lt (sI G29 53 1 ((gI G29 53 1) + (1 : Int32))) fun G37 =>
(kc3 (v2 + (-8 : Int32)) G37)))
def f_X7_addFour (v1 : Int32) (G : GM) : Option (GM) :=
  (wl1 FU (lp_X7_addFour_3 v1) (24 : Int32) G)
def f_X3_begin (v0 : Nat) (v1 : Int32) (G : GM) : Option (GM) :=
  lt (sJ G v0 0 (v1.toInt64)) fun G3 =>
some G3
def f_X3_below (v0 : Nat) (v1 : Int32) (G : GM) : Option (Int32 × GM) :=
  lt (sJ G v0 0 ((((1103515245 : Int64) * (gJ G v0 0)) + (12345 : Int64)) - (((1103515245 : Int64) * (gJ G v0 0)) + (12345 : Int64)) / (2147483648 : Int64) * (2147483648 : Int64))) fun G17 =>
lt ((gJ G17 v0 0) / (65536 : Int64)) fun x28 =>
lt (sJ G17 v0 0 ((((1103515245 : Int64) * (gJ G17 v0 0)) + (12345 : Int64)) - (((1103515245 : Int64) * (gJ G17 v0 0)) + (12345 : Int64)) / (2147483648 : Int64) * (2147483648 : Int64))) fun G46 =>
lt ((gJ G46 v0 0) / (65536 : Int64)) fun x57 =>
if (1 : Int32) ≤ v1 then
(gd (decide (¬ (v1.toInt64) = 0)) <|
some ((((((32768 : Int64) * x28) + x57) - (((32768 : Int64) * x28) + x57) / (v1.toInt64) * (v1.toInt64)).toInt32), G46))
else
(some ((0 : Int32), G46))
def lp_X3_mix_4 (v0 : Nat) (v1 : Nat) (v2 : Int32)   (v3 : Int32) (G : GM) (kc4 : Int32 → GM → Option (GM)) : Option (GM) :=
  if v3 ≤ 0 then
(some G)
else
(ob (f_X3_below v0 (v3 + (1 : Int32)) G) fun r12 G12 =>
if (Int32.ofNat (LN v1)) ≤ v3 then
((kc4 (v3 + (-1 : Int32)) G12))
else
(gd (inb v3 (LN v1)) <|
lt (gI G12 v1 v3.toNatClampNeg) fun x26 =>
gd (inb r12 (LN v1)) <|
gd (inb v3 (LN v1)) <| lt (sI G12 v1 v3.toNatClampNeg (gI G12 v1 r12.toNatClampNeg)) fun G34 =>
gd (inb r12 (LN v1)) <| lt (sI G34 v1 r12.toNatClampNeg x26) fun G40 =>
(kc4 (v3 + (-1 : Int32)) G40)))
def f_X3_mix (v0 : Nat) (v1 : Nat) (v2 : Int32) (G : GM) : Option (GM) :=
  lt (v2 - (1 : Int32)) fun x3 =>
(wl1 FU (lp_X3_mix_4 v0 v1 v2) x3 G)
def k_X2_mixCalls_33 (v0 : Nat) (v1 : Nat) (v2 : Int32) (v3 : Nat)   (G : GM) : Option (GM) :=
  ov (f_X3_begin (v0 + 1) v2 G) fun G38 =>
ov (f_X3_mix (v0 + 1) v3 (gI G38 v1 6) G38) fun G50 =>
some G50
def lp_X2_mixCalls_3 (v0 : Nat) (v1 : Nat) (v2 : Int32) (v3 : Nat)   (v4 : Int32) (G : GM) (kc3 : Int32 → GM → Option (GM)) : Option (GM) :=
  if (gI G v1 6) ≤ v4 then
((k_X2_mixCalls_33 v0 v1 v2 v3 G))
else
(if (Int32.ofNat (LN v3)) ≤ v4 then
((k_X2_mixCalls_33 v0 v1 v2 v3 G))
else
(gd (inb v4 (LN v3)) <| lt (sI G v3 v4.toNatClampNeg (v4 + (1 : Int32))) fun G26 =>
(kc3 (v4 + (1 : Int32)) G26)))
def f_X2_mixCalls (v0 : Nat) (v1 : Nat) (v2 : Int32) (v3 : Nat) (G : GM) : Option (GM) :=
  (wl1 FU (lp_X2_mixCalls_3 v0 v1 v2 v3) (0 : Int32) G)
def lp_X9_noteTurns_2 (v0 : Nat) (v1 : Int32) (v2 : Nat)   (v3 : Int32) (G : GM) (kc2 : Int32 → GM → Option (GM)) : Option (GM) :=
  if v1 ≤ v3 then
(some G)
else
(if (Int32.ofNat (LN v0)) ≤ v3 then
(some G)
else
(gd (inb v3 (LN v0)) <|
lt (gI G v0 v3.toNatClampNeg) fun x16 =>
if x16 < 0 then
((kc2 (v3 + (1 : Int32)) G))
else
(if (Int32.ofNat (LN v2)) ≤ x16 then
((kc2 (v3 + (1 : Int32)) G))
else
(gd (inb x16 (LN v2)) <| lt (sI G v2 x16.toNatClampNeg (v3 + (1 : Int32))) fun G36 =>
(kc2 (v3 + (1 : Int32)) G36)))))
def f_X9_noteTurns (v0 : Nat) (v1 : Int32) (v2 : Nat) (G : GM) : Option (GM) :=
  (wl1 FU (lp_X9_noteTurns_2 v0 v1 v2) (0 : Int32) G)
def f_X5_noteTurns (v0 : Nat) (G : GM) : Option (GM) :=
  ov (f_X9_noteTurns (v0 + 20) (gI G (v0 + 1) 6) (v0 + 21) G) fun G15 =>
some G15
def lp_J7_fill_53178_5 (v0 : Nat) (v1 : Int32) (v3 : Int32)  (v2 : Int32) (G : GM) (kc5 : Int32 → GM → Option (GM)) : Option (GM) :=
  if v3 ≤ v2 then
(some G)
else
(gd (inb v2 (LN v0)) <| lt (sI G v0 v2.toNatClampNeg v1) fun G13 =>
(kc5 (v2 + (1 : Int32)) G13))
def f_J7_fill_53178 (v0 : Nat) (v1 : Int32) (G : GM) : Option (GM) :=
  lt (Int32.ofNat (LN v0)) fun x4 =>
(wl1 FU (lp_J7_fill_53178_5 v0 v1 x4) (0 : Int32) G)
def lp_X6_isPart_4 (v0 : Nat) (v1 : Int32)   (v2 : Int32) (v3 : Int32) (G : GM) (kc4 : Int32 → Int32 → GM → Option (Int32 × GM)) : Option (Int32 × GM) :=
  if (gI G v0 2) ≤ v3 then
(if v2 = (gI G v0 5) then
(some ((1 : Int32), G))
else
(some ((0 : Int32), G)))
else
(lt ((v1 >>> (((5 : Int32) * ((4 : Int32) - v3)) &&& 31)) &&& (31 : Int32)) fun x22 =>
if x22 < (gI G v0 3) then
(some ((0 : Int32), G))
else
(if x22 ≤ (gI G v0 4) then
(lt (v2 + x22) fun x48 =>
(kc4 x48 (v3 + (1 : Int32)) G))
else
(some ((0 : Int32), G))))
def f_X6_isPart (v0 : Nat) (v1 : Int32) (G : GM) : Option (Int32 × GM) :=
  (wl2 FU (lp_X6_isPart_4 v0 v1) (0 : Int32) (0 : Int32) G)
def f_X6_addIfPart (v0 : Nat) (v1 : Int32) (G : GM) : Option (GM) :=
  ob (f_X6_isPart v0 v1 G) fun r2 G2 =>
if r2 = 0 then
(some G2)
else
(if (64 : Int32) ≤ (gI G2 v0 1) then
(some G2)
else
(gd (inb (gI G2 v0 1) 64) <| lt (sI G2 (v0 + 1) (gI G2 v0 1).toNatClampNeg v1) fun G26 =>
lt (sI G26 v0 1 ((gI G26 v0 1) + (1 : Int32))) fun G34 =>
some G34))
def f_X6_begin (v0 : Nat) (v1 : Int32) (v2 : Int32) (v3 : Int32) (v4 : Int32) (G : GM) : Option (GM) :=
  lt (sI G v0 1 (0 : Int32)) fun G2 =>
lt (sI G2 v0 2 v1) fun G7 =>
lt (sI G7 v0 3 v2) fun G12 =>
lt (sI G12 v0 4 v3) fun G17 =>
lt (sI G17 v0 5 v4) fun G23 =>
some G23
def f_X6_packed (v0 : Int32) (v1 : Int32) (G : GM) : Option (Int32 × GM) :=
  if v0 < 0 then
(some ((0 : Int32), G))
else
(if v0 < (5 : Int32) then
(some ((v1 <<< (((5 : Int32) * ((4 : Int32) - v0)) &&& 31)), G))
else
(some ((0 : Int32), G)))
def k_X6_beMixes_93 (v0 : Nat) (v1 : Int32) (v2 : Int32) (v3 : Int32) (v4 : Int32) (v5 : Int32) (v7 : Int32) (kc37 : Int32 → GM → Option (GM)) (G : GM) : Option (GM) :=
  ov (f_X6_addIfPart v0 v7 G) fun G96 =>
(kc37 (v5 + (1 : Int32)) G96)
def lp_X6_beMixes_56 (v0 : Nat) (v1 : Int32) (v2 : Int32) (v3 : Int32) (v4 : Int32) (v5 : Int32) (kc37 : Int32 → GM → Option (GM)) (v6 : Int32) (v7 : Int32) (v8 : Int32) (G : GM) (kc56 : Int32 → Int32 → Int32 → GM → Option (GM)) : Option (GM) :=
  if v8 < 0 then
((k_X6_beMixes_93 v0 v1 v2 v3 v4 v5 v7 kc37 G))
else
(if v2 ≤ 0 then
((k_X6_beMixes_93 v0 v1 v2 v3 v4 v5 v7 kc37 G))
else
(gd (decide (¬ v2 = 0)) <|
ob (f_X6_packed v8 ((v6 - v6 / v2 * v2) + (1 : Int32)) G) fun r75 G75 =>
lt (v7 + r75) fun x79 =>
gd (decide (¬ v2 = 0)) <|
lt (v6 / v2) fun x85 =>
(kc56 x85 x79 (v8 + (-1 : Int32)) G75)))
def lp_X6_beMixes_37 (v0 : Nat) (v1 : Int32) (v2 : Int32) (v3 : Int32) (v4 : Int32)  (v5 : Int32) (G : GM) (kc37 : Int32 → GM → Option (GM)) : Option (GM) :=
  if v4 ≤ v5 then
(some G)
else
(lt (v1 - (1 : Int32)) fun x54 =>
(wl3 FU (lp_X6_beMixes_56 v0 v1 v2 v3 v4 v5 kc37) v5 (0 : Int32) x54 G))
def lp_X6_beMixes_16 (v0 : Nat) (v1 : Int32) (v2 : Int32) (v3 : Int32)   (v4 : Int32) (v5 : Int32) (G : GM) (kc16 : Int32 → Int32 → GM → Option (GM)) : Option (GM) :=
  if v1 ≤ v5 then
((wl1 FU (lp_X6_beMixes_37 v0 v1 v2 v3 v4) (0 : Int32) G))
else
(lt (v4 * v2) fun x26 =>
(kc16 x26 (v5 + (1 : Int32)) G))
def f_X6_beMixes (v0 : Nat) (v1 : Int32) (v2 : Int32) (v3 : Int32) (G : GM) : Option (GM) :=
  ov (f_X6_begin v0 v1 (1 : Int32) v2 (v2 * v3) G) fun G7 =>
(wl2 FU (lp_X6_beMixes_16 v0 v1 v2 v3) (1 : Int32) (0 : Int32) G7)
def lp_X6_beSets_23 (v0 : Nat) (v1 : Int32) (v2 : Int32) (v3 : Int32) (kc10 : Int32 → GM → Option (GM)) (v4 : Int32) (v5 : Int32) (G : GM) (kc23 : Int32 → Int32 → GM → Option (GM)) : Option (GM) :=
  if v1 ≤ v5 then
(ov (f_X6_addIfPart v0 v4 G) fun G54 =>
(kc10 (v3 + (1 : Int32)) G54))
else
(ob (f_X6_packed v5 ((v3 >>> (v5 &&& 31)) &&& (1 : Int32)) G) fun r39 G39 =>
lt (v4 + r39) fun x43 =>
(kc23 x43 (v5 + (1 : Int32)) G39))
def lp_X6_beSets_10 (v0 : Nat) (v1 : Int32) (v2 : Int32)   (v3 : Int32) (G : GM) (kc10 : Int32 → GM → Option (GM)) : Option (GM) :=
  if ((1 : Int32) <<< (v1 &&& 31)) ≤ v3 then
(some G)
else
((wl2 FU (lp_X6_beSets_23 v0 v1 v2 v3 kc10) (0 : Int32) (0 : Int32) G))
def f_X6_beSets (v0 : Nat) (v1 : Int32) (v2 : Int32) (G : GM) : Option (GM) :=
  ov (f_X6_begin v0 v1 (0 : Int32) (1 : Int32) v2 G) fun G5 =>
(wl1 FU (lp_X6_beSets_10 v0 v1 v2) (0 : Int32) G5)
def f_X6_canTake (v0 : Int32) (v1 : Int32) (G : GM) : Option (Int32 × GM) :=
  if (((v0 ||| (17318416 : Int32)) - v1) &&& (17318416 : Int32)) = (17318416 : Int32) then
(some ((1 : Int32), G))
else
(some ((0 : Int32), G))
def lp_X6_waysOf_48 (rec : Nat → Int32 → Int32 → GM → Option (Int32 × GM)) (v0 : Nat) (v1 : Int32) (v2 : Int32)   (v3 : Int32) (v4 : Int32) (G : GM) (kc48 : Int32 → Int32 → GM → Option (Int32 × GM)) : Option (Int32 × GM) :=
  if (gI G v0 1) ≤ v4 then
(some (v3, G))
else
(gd (inb v4 64) <|
ob (f_X6_canTake v2 (gI G (v0 + 1) v4.toNatClampNeg) G) fun r65 G65 =>
if r65 = 0 then
((kc48 v3 (v4 + (1 : Int32)) G65))
else
(gd (inb v4 64) <|
ob (rec v0 (v1 - (1 : Int32)) (v2 - (gI G65 (v0 + 1) v4.toNatClampNeg)) G65) fun r85 G85 =>
lt (v3 + r85) fun x89 =>
(kc48 x89 (v4 + (1 : Int32)) G85)))
def k_X6_waysOf_10 (rec : Nat → Int32 → Int32 → GM → Option (Int32 × GM)) (v0 : Nat) (v1 : Int32) (v2 : Int32)   (G : GM) : Option (Int32 × GM) :=
  if v1 = 0 then
(if v2 = 0 then
(some ((1 : Int32), G))
else
(some ((0 : Int32), G)))
else
(some ((0 : Int32), G))
def fb_X6_waysOf (rec : Nat → Int32 → Int32 → GM → Option (Int32 × GM)) (v0 : Nat) (v1 : Int32) (v2 : Int32) (G : GM) : Option (Int32 × GM) :=
  if v1 < (1 : Int32) then
((k_X6_waysOf_10 rec v0 v1 v2 G))
else
(if v1 ≤ (3 : Int32) then
(if v1 = (1 : Int32) then
(ob (f_X6_isPart v0 v2 G) fun r31 G31 =>
if r31 = 0 then
(some ((0 : Int32), G31))
else
(some ((1 : Int32), G31)))
else
((wl2 FU (lp_X6_waysOf_48 rec v0 v1 v2) (0 : Int32) (0 : Int32) G)))
else
((k_X6_waysOf_10 rec v0 v1 v2 G)))
def f_X6_waysOf : Nat → Nat → Int32 → Int32 → GM → Option (Int32 × GM)
  | 0, _, _, _, _ => none
  | n + 1, v0, v1, v2, G => fb_X6_waysOf (f_X6_waysOf n) v0 v1 v2 G
def k_X4_settle_181 (v0 : Nat) (v1 : Int32) (s0 : Int32) (s1 : Int32) (kc113 : Int32 → GM → Option (GM)) (G : GM) : Option (GM) :=
  gd (inb s1 64) <| lt (sI G (v0 + 5) s1.toNatClampNeg s0) fun G181 =>
gd (inb v1 64) <|
lt (sI G181 v0 8 ((gI G181 v0 8) + (gI G181 (v0 + 5) v1.toNatClampNeg))) fun G194 =>
(kc113 (v1 + (1 : Int32)) G194)
def lp_X4_settle_113 (v0 : Nat)   (v1 : Int32) (G : GM) (kc113 : Int32 → GM → Option (GM)) : Option (GM) :=
  if (gI G (v0 + 3) 1) ≤ v1 then
(some G)
else
(gd (inb v1 64) <|
lt ((gI G v0 7) - (gI G (v0 + 4) v1.toNatClampNeg)) fun x138 =>
gd (inb v1 64) <|
ob (f_X6_canTake (gI G v0 7) (gI G (v0 + 4) v1.toNatClampNeg) G) fun r157 G157 =>
if r157 = 0 then
((k_X4_settle_181 v0 v1 (0 : Int32) v1 kc113 G157))
else
(ob (f_X6_waysOf 4 (v0 + 3) ((gI G157 v0 0) - (1 : Int32)) x138 G157) fun r174 G174 =>
(k_X4_settle_181 v0 v1 r174 v1 kc113 G174)))
def lp_X4_settle_12 (v0 : Nat)   (v1 : Int32) (G : GM) (kc12 : Int32 → GM → Option (GM)) : Option (GM) :=
  if (gI G v0 3) ≤ v1 then
(ov (f_X6_beMixes (v0 + 3) (gI G v0 3) (gI G v0 1) (gI G v0 2) G) fun G88 =>
ov (f_X6_beSets (v0 + 6) (gI G88 v0 3) (gI G88 v0 2) G88) fun G103 =>
lt (sI G103 v0 8 (0 : Int32)) fun G108 =>
(wl1 FU (lp_X4_settle_113 v0) (0 : Int32) G108))
else
(gd (inb v1 5) <| lt (sI G (v0 + 2) v1.toNatClampNeg ((gI G v0 6) + (1 : Int32))) fun G31 =>
gd (inb v1 5) <|
lt (sI G31 v0 6 ((gI G31 v0 6) + (gI G31 (v0 + 1) v1.toNatClampNeg))) fun G44 =>
gd (inb v1 5) <|
ob (f_X6_packed v1 (gI G44 (v0 + 1) v1.toNatClampNeg) G44) fun r59 G59 =>
lt (sI G59 v0 7 ((gI G44 v0 7) + r59)) fun G63 =>
(kc12 (v1 + (1 : Int32)) G63))
def f_X4_settle (v0 : Nat) (G : GM) : Option (GM) :=
  lt (sI G v0 6 (0 : Int32)) fun G2 =>
lt (sI G2 v0 7 (0 : Int32)) fun G7 =>
(wl1 FU (lp_X4_settle_12 v0) (0 : Int32) G7)
def f_X4_clear (v0 : Nat) (G : GM) : Option (GM) :=
  lt (sI G v0 0 (0 : Int32)) fun G2 =>
lt (sI G2 v0 1 (0 : Int32)) fun G7 =>
lt (sI G7 v0 2 (0 : Int32)) fun G12 =>
lt (sI G12 v0 3 (0 : Int32)) fun G17 =>
ov (f_X4_settle v0 G17) fun G21 =>
some G21
def f_X5_clear (v0 : Nat) (G : GM) : Option (GM) :=
  ov (f_X4_clear (v0 + 1) G) fun G4 =>
lt (sI G4 v0 1 (0 : Int32)) fun G9 =>
ov (f_J7_fill_53178 (v0 + 9) (0 : Int32) G9) fun G17 =>
lt (sI G17 v0 3 (0 : Int32)) fun G22 =>
lt (sI G22 v0 4 (0 : Int32)) fun G27 =>
lt (sI G27 v0 5 (0 : Int32)) fun G32 =>
some G32
def f_X7_byteAt (v1 : Int32) (G : GM) : Option (Int32 × GM) :=
  if v1 < 0 then
(some ((-1 : Int32), G))
else
(if v1 < (gI G 53 1) then
(gd (inb v1 800) <|
some (((gI G 54 v1.toNatClampNeg) &&& (255 : Int32)), G))
else
(some ((-1 : Int32), G)))
def f_X7_isBlank (v0 : Int32) (G : GM) : Option (Int32 × GM) :=
  if v0 = (32 : Int32) then
(some ((1 : Int32), G))
else
(if v0 = (10 : Int32) then
(some ((1 : Int32), G))
else
(some ((0 : Int32), G)))
def f_X7_isDigit (v0 : Int32) (G : GM) : Option (Int32 × GM) :=
  if v0 < (48 : Int32) then
(some ((0 : Int32), G))
else
(if (57 : Int32) < v0 then
(some ((0 : Int32), G))
else
(some ((1 : Int32), G)))
def f_X7_isLetter (v0 : Int32) (G : GM) : Option (Int32 × GM) :=
  if v0 < (97 : Int32) then
(some ((0 : Int32), G))
else
(if (122 : Int32) < v0 then
(some ((0 : Int32), G))
else
(some ((1 : Int32), G)))
def k_X7_takeToken_213  (s0 : Int32)  (G : GM) : Option (GM) :=
  lt (sI G 53 5 s0) fun G213 =>
lt (sI G213 53 4 ((gI G213 53 4) + (1 : Int32))) fun G223 =>
some G223
def lp_X7_takeToken_135     (G : GM) (kc135 : GM → Option (GM)) : Option (GM) :=
  if (gI G 53 1) ≤ (gI G 53 4) then
(some G)
else
(ob (f_X7_byteAt (gI G 53 4) G) fun r151 G151 =>
ob (f_X7_isDigit r151 G151) fun r154 G154 =>
if r154 = 0 then
(some G154)
else
(ob (f_X7_byteAt (gI G154 53 4) G154) fun r173 G173 =>
lt (sI G173 53 7 (jmin ((((10 : Int32) * (gI G154 53 7)) + r173) - (48 : Int32)) (1000000 : Int32))) fun G185 =>
lt (sI G185 53 4 ((gI G185 53 4) + (1 : Int32))) fun G195 =>
(kc135  G195)))
def lp_X7_takeToken_85     (G : GM) (kc85 : GM → Option (GM)) : Option (GM) :=
  if (gI G 53 1) ≤ (gI G 53 4) then
(some G)
else
(ob (f_X7_byteAt (gI G 53 4) G) fun r101 G101 =>
ob (f_X7_isLetter r101 G101) fun r104 G104 =>
if r104 = 0 then
(some G104)
else
(lt (sI G104 53 4 ((gI G104 53 4) + (1 : Int32))) fun G117 =>
(kc85  G117)))
def k_X7_takeToken_38    (G : GM) : Option (GM) :=
  lt (sI G 53 6 (gI G 53 4)) fun G43 =>
lt (sI G43 53 7 (0 : Int32)) fun G48 =>
ob (f_X7_byteAt (gI G48 53 4) G48) fun r56 G56 =>
if r56 = (-1 : Int32) then
(lt (sI G56 53 5 (0 : Int32)) fun G67 =>
some G67)
else
(ob (f_X7_isLetter r56 G56) fun r74 G74 =>
if r74 = 0 then
(ob (f_X7_isDigit r56 G74) fun r124 G124 =>
if r124 = 0 then
(if r56 = (59 : Int32) then
((k_X7_takeToken_213 (3 : Int32) G124))
else
((k_X7_takeToken_213 (4 : Int32) G124)))
else
(lt (sI G124 53 5 (2 : Int32)) fun G132 =>
(wl0 FU (lp_X7_takeToken_135 )  G132)))
else
(lt (sI G74 53 5 (1 : Int32)) fun G82 =>
(wl0 FU (lp_X7_takeToken_85 )  G82)))
def lp_X7_takeToken_0     (G : GM) (kc0 : GM → Option (GM)) : Option (GM) :=
  if (gI G 53 1) ≤ (gI G 53 4) then
((k_X7_takeToken_38 G))
else
(ob (f_X7_byteAt (gI G 53 4) G) fun r16 G16 =>
ob (f_X7_isBlank r16 G16) fun r19 G19 =>
if r19 = 0 then
((k_X7_takeToken_38 G19))
else
(lt (sI G19 53 4 ((gI G19 53 4) + (1 : Int32))) fun G32 =>
(kc0  G32)))
def f_X7_takeToken  (G : GM) : Option (GM) :=
  (wl0 FU (lp_X7_takeToken_0 )  G)
def f_X7_begin (v1 : Nat) (G : GM) : Option (GM) :=
  ov (f_X5_clear v1 G) fun G1 =>
lt (sI G1 53 4 (0 : Int32)) fun G6 =>
lt (sI G6 53 8 (1 : Int32)) fun G11 =>
lt (sI G11 53 9 (0 : Int32)) fun G16 =>
lt (sI G16 53 10 (-1 : Int32)) fun G21 =>
ov (f_X7_takeToken G21) fun G25 =>
some G25
def f_X7_hasLine  (G : GM) : Option (Int32 × GM) :=
  if (gI G 53 5) = 0 then
(some ((0 : Int32), G))
else
(if (gI G 53 9) = 0 then
(some ((1 : Int32), G))
else
(some ((0 : Int32), G)))
def f_X7_fail (v1 : Int32) (G : GM) : Option (GM) :=
  if (gI G 53 9) = 0 then
(lt (sI G 53 9 v1) fun G9 =>
lt (sI G9 53 10 (gI G9 53 6)) fun G17 =>
some G17)
else
(some G)
def lp_X7_isWord_28 (v1 : Nat)   (v2 : Int32) (G : GM) (kc28 : Int32 → GM → Option (Int32 × GM)) : Option (Int32 × GM) :=
  if (Int32.ofNat (SLEN v1)) ≤ v2 then
(some ((1 : Int32), G))
else
(ob (f_X7_byteAt ((gI G 53 6) + v2) G) fun r43 G43 =>
gd (inb v2 (SLEN v1)) <|
if r43 = (SCH v1 v2.toNatClampNeg) then
((kc28 (v2 + (1 : Int32)) G43))
else
(some ((0 : Int32), G43)))
def f_X7_isWord (v1 : Nat) (G : GM) : Option (Int32 × GM) :=
  if (gI G 53 5) = (1 : Int32) then
(if ((gI G 53 4) - (gI G 53 6)) = (Int32.ofNat (SLEN v1)) then
((wl1 FU (lp_X7_isWord_28 v1) (0 : Int32) G))
else
(some ((0 : Int32), G)))
else
(some ((0 : Int32), G))
def f_X4_isAsSaid (v0 : Nat) (G : GM) : Option (Int32 × GM) :=
  if (gI G v0 3) < (2 : Int32) then
(some ((0 : Int32), G))
else
(if (gI G v0 3) < (gI G v0 2) then
(some ((0 : Int32), G))
else
(if (gI G v0 6) = (((gI G v0 0) * (gI G v0 1)) * (gI G v0 2)) then
(if (gI G v0 8) ≤ 0 then
(some ((0 : Int32), G))
else
(some ((1 : Int32), G)))
else
(some ((0 : Int32), G))))
def f_X7_isNumberOf (v1 : Int32) (v2 : Int32) (G : GM) : Option (Int32 × GM) :=
  if (gI G 53 5) = (2 : Int32) then
(if (gI G 53 7) < v1 then
(some ((0 : Int32), G))
else
(if v2 < (gI G 53 7) then
(some ((0 : Int32), G))
else
(some ((1 : Int32), G))))
else
(some ((0 : Int32), G))
def k_X7_takeNumber_45 (v1 : Int32) (v2 : Int32) (s0 : Int32)  (G : GM) : Option (Int32 × GM) :=
  ov (f_X7_takeToken G) fun G47 =>
some (s0, G47)
def k_X7_takeNumber_30 (v1 : Int32) (v2 : Int32)   (G : GM) : Option (Int32 × GM) :=
  if (gI G 53 9) = 0 then
((k_X7_takeNumber_45 v1 v2 (gI G 53 7) G))
else
((k_X7_takeNumber_45 v1 v2 v1 G))
def f_X7_takeNumber (v1 : Int32) (v2 : Int32) (G : GM) : Option (Int32 × GM) :=
  if (gI G 53 5) = (2 : Int32) then
(ob (f_X7_isNumberOf v1 v2 G) fun r19 G19 =>
if r19 = 0 then
(ov (f_X7_fail (2 : Int32) G19) fun G27 =>
(k_X7_takeNumber_30 v1 v2 G27))
else
((k_X7_takeNumber_30 v1 v2 G19)))
else
(ov (f_X7_fail (1 : Int32) G) fun G10 =>
(k_X7_takeNumber_30 v1 v2 G10))
def k_X7_readColumns_91 (v1 : Nat) (s0 : Int32)  (G : GM) : Option (GM) :=
  ov (f_X7_fail s0 G) fun G91 =>
some G91
def k_X7_readColumns_60 (v1 : Nat)   (G : GM) : Option (GM) :=
  if (gI G 53 9) = 0 then
(if (gI G 53 5) = (2 : Int32) then
(ob (f_X7_isNumberOf (1 : Int32) (15 : Int32) G) fun r80 G80 =>
if r80 = 0 then
((k_X7_readColumns_91 v1 (2 : Int32) G80))
else
((k_X7_readColumns_91 v1 (3 : Int32) G80)))
else
(some G))
else
(some G)
def k_X7_readColumns_24 (v1 : Nat) (v2 : Int32) (kc7 : Int32 → GM → Option (GM)) (G : GM) : Option (GM) :=
  if (gI G 53 9) = 0 then
(ob (f_X7_takeNumber (1 : Int32) (15 : Int32) G) fun r40 G40 =>
gd (inb v2 5) <| lt (sI G40 (v1 + 1) v2.toNatClampNeg r40) fun G43 =>
lt (sI G43 v1 3 ((gI G43 v1 3) + (1 : Int32))) fun G51 =>
(kc7 (v2 + (1 : Int32)) G51))
else
((k_X7_readColumns_60 v1 G))
def lp_X7_readColumns_7 (v1 : Nat)   (v2 : Int32) (G : GM) (kc7 : Int32 → GM → Option (GM)) : Option (GM) :=
  if (5 : Int32) ≤ v2 then
((k_X7_readColumns_60 v1 G))
else
(if v2 = 0 then
((k_X7_readColumns_24 v1 v2 kc7 G))
else
(if (gI G 53 5) = (2 : Int32) then
((k_X7_readColumns_24 v1 v2 kc7 G))
else
((k_X7_readColumns_60 v1 G))))
def f_X7_readColumns (v1 : Nat) (G : GM) : Option (GM) :=
  lt (sI G v1 3 (0 : Int32)) fun G2 =>
(wl1 FU (lp_X7_readColumns_7 v1) (0 : Int32) G2)
def k_X7_takeWord_13 (v1 : Nat)   (G : GM) : Option (GM) :=
  ov (f_X7_takeToken G) fun G14 =>
some G14
def f_X7_takeWord (v1 : Nat) (G : GM) : Option (GM) :=
  ob (f_X7_isWord v1 G) fun r2 G2 =>
if r2 = 0 then
(ov (f_X7_fail (1 : Int32) G2) fun G10 =>
(k_X7_takeWord_13 v1 G10))
else
((k_X7_takeWord_13 v1 G2))
def f_X7_readForm (v1 : Nat) (G : GM) : Option (GM) :=
  ov (f_X7_takeWord 0 G) fun G3 =>
ov (f_X7_takeWord 1 G3) fun G9 =>
ob (f_X7_takeNumber (1 : Int32) (3 : Int32) G9) fun r16 G16 =>
lt (sI G16 v1 0 r16) fun G19 =>
ov (f_X7_takeWord 2 G19) fun G25 =>
ob (f_X7_takeNumber (1 : Int32) (3 : Int32) G25) fun r32 G32 =>
lt (sI G32 v1 1 r32) fun G35 =>
ov (f_X7_takeWord 3 G35) fun G41 =>
ob (f_X7_takeNumber (1 : Int32) (5 : Int32) G41) fun r48 G48 =>
lt (sI G48 v1 2 r48) fun G51 =>
ov (f_X7_takeWord 4 G51) fun G57 =>
ov (f_X7_readColumns v1 G57) fun G62 =>
if (gI G62 53 9) = 0 then
(if (gI G62 53 5) = (3 : Int32) then
(ov (f_X4_settle v1 G62) fun G81 =>
ob (f_X4_isAsSaid v1 G81) fun r85 G85 =>
if r85 = 0 then
(ov (f_X7_fail (2 : Int32) G85) fun G93 =>
some G93)
else
(some G85))
else
(some G62))
else
(some G62)
def f_X7_readJackpot (v1 : Nat) (G : GM) : Option (GM) :=
  ov (f_X7_takeWord 9 G) fun G3 =>
ob (f_X7_takeNumber (0 : Int32) (9999 : Int32) G3) fun r12 G12 =>
lt (sI G12 v1 3 r12) fun G15 =>
ov (f_X7_takeWord 10 G15) fun G21 =>
ob (f_X7_takeNumber (1 : Int32) (gI G21 (v1 + 1) 6) G21) fun r34 G34 =>
lt (sI G34 v1 4 r34) fun G37 =>
some G37
def k_X7_readPrize_50 (v1 : Nat) (v2 : Int32)  (G : GM) : Option (GM) :=
  ov (f_X7_takeToken G) fun G51 =>
ob (f_X7_takeNumber (0 : Int32) (9999 : Int32) G51) fun r64 G64 =>
gd (inb v2 3) <| lt (sI G64 (v1 + 9) v2.toNatClampNeg r64) fun G67 =>
some G67
def f_X7_readPrize (v1 : Nat) (G : GM) : Option (GM) :=
  ov (f_X7_takeWord 5 G) fun G3 =>
ob (f_X7_isWord 6 G3) fun r11 G11 =>
if r11 = 0 then
(ob (f_X7_isWord 7 G11) fun r25 G25 =>
if r25 = 0 then
(ob (f_X7_isWord 8 G25) fun r39 G39 =>
if r39 = 0 then
(ov (f_X7_fail (1 : Int32) G39) fun G47 =>
(k_X7_readPrize_50 v1 (0 : Int32) G47))
else
((k_X7_readPrize_50 v1 (0 : Int32) G39)))
else
((k_X7_readPrize_50 v1 (2 : Int32) G25)))
else
((k_X7_readPrize_50 v1 (1 : Int32) G11))
def f_X4_placeOf (v0 : Nat) (v1 : Int32) (v2 : Int32) (v3 : Int32) (G : GM) : Option (Int32 × GM) :=
  lt ((((v1 * (gI G v0 1)) + v2) * (gI G v0 3)) + v3) fun x15 =>
if x15 < 0 then
(some ((0 : Int32), G))
else
(if x15 < (45 : Int32) then
(some (x15, G))
else
(some ((0 : Int32), G)))
def f_X6_digit (v0 : Int32) (v1 : Int32) (G : GM) : Option (Int32 × GM) :=
  if v1 < 0 then
(some ((0 : Int32), G))
else
(if v1 < (5 : Int32) then
(some (((v0 >>> (((5 : Int32) * ((4 : Int32) - v1)) &&& 31)) &&& (31 : Int32)), G))
else
(some ((0 : Int32), G)))
def lp_X2_layDown_6 (v0 : Nat) (v1 : Nat) (v2 : Int32) (v3 : Int32) (v4 : Nat)   (v5 : Int32) (v6 : Int32) (G : GM) (kc6 : Int32 → Int32 → GM → Option (GM)) : Option (GM) :=
  if (gI G v1 1) ≤ v6 then
(some G)
else
(gd (inb ((v2 * (gI G v1 1)) + v6) 9) <|
ob (f_X6_digit (gI G (v0 + 3) ((v2 * (gI G v1 1)) + v6).toNatClampNeg) v3 G) fun r30 G30 =>
if r30 = (1 : Int32) then
(if (3 : Int32) ≤ v5 then
((kc6 v5 (v6 + (1 : Int32)) G30))
else
(ob (f_X4_placeOf v1 v2 v6 v3 G30) fun r50 G50 =>
gd (inb v5 3) <|
gd (inb r50 (LN v4)) <| lt (sI G50 v4 r50.toNatClampNeg (gI G50 (v0 + 5) v5.toNatClampNeg)) fun G60 =>
(kc6 (v5 + (1 : Int32)) (v6 + (1 : Int32)) G60)))
else
((kc6 v5 (v6 + (1 : Int32)) G30)))
def f_X2_layDown (v0 : Nat) (v1 : Nat) (v2 : Int32) (v3 : Int32) (v4 : Nat) (G : GM) : Option (GM) :=
  (wl2 FU (lp_X2_layDown_6 v0 v1 v2 v3 v4) (0 : Int32) (0 : Int32) G)
def k_X9_sortRising_51 (v0 : Nat) (v1 : Int32) (v2 : Int32) (v3 : Int32) (v4 : Int32) (kc2 : Int32 → GM → Option (GM)) (G : GM) : Option (GM) :=
  gd (inb v4 (LN v0)) <| lt (sI G v0 v4.toNatClampNeg v3) fun G55 =>
(kc2 (v2 + (1 : Int32)) G55)
def lp_X9_sortRising_20 (v0 : Nat) (v1 : Int32) (v2 : Int32) (v3 : Int32) (kc2 : Int32 → GM → Option (GM)) (v4 : Int32) (G : GM) (kc20 : Int32 → GM → Option (GM)) : Option (GM) :=
  if v4 ≤ 0 then
((k_X9_sortRising_51 v0 v1 v2 v3 v4 kc2 G))
else
(gd (inb (v4 - (1 : Int32)) (LN v0)) <|
if (gI G v0 (v4 - (1 : Int32)).toNatClampNeg) ≤ v3 then
((k_X9_sortRising_51 v0 v1 v2 v3 v4 kc2 G))
else
(gd (inb (v4 - (1 : Int32)) (LN v0)) <|
gd (inb v4 (LN v0)) <| lt (sI G v0 v4.toNatClampNeg (gI G v0 (v4 - (1 : Int32)).toNatClampNeg)) fun G44 =>
(kc20 (v4 + (-1 : Int32)) G44)))
def lp_X9_sortRising_2 (v0 : Nat) (v1 : Int32)   (v2 : Int32) (G : GM) (kc2 : Int32 → GM → Option (GM)) : Option (GM) :=
  if v1 ≤ v2 then
(some G)
else
(if (Int32.ofNat (LN v0)) ≤ v2 then
(some G)
else
(gd (inb v2 (LN v0)) <|
lt (gI G v0 v2.toNatClampNeg) fun x16 =>
(wl1 FU (lp_X9_sortRising_20 v0 v1 v2 x16 kc2) v2 G)))
def f_X9_sortRising (v0 : Nat) (v1 : Int32) (G : GM) : Option (GM) :=
  (wl1 FU (lp_X9_sortRising_2 v0 v1) (1 : Int32) G)
def k_X2_dealColumn_74 (v0 : Nat) (v1 : Nat) (v2 : Int32) (v3 : Nat) (v4 : Int32) (v5 : Int32) (v6 : Int32) (kc6 : Int32 → Int32 → GM → Option (GM)) (G : GM) : Option (GM) :=
  ov (f_X9_sortRising (v0 + 5) v6 G) fun G80 =>
ov (f_X2_layDown v0 v1 v5 v2 v3 G80) fun G89 =>
(kc6 v4 (v5 + (1 : Int32)) G89)
def lp_X2_dealColumn_31 (v0 : Nat) (v1 : Nat) (v2 : Int32) (v3 : Nat) (v5 : Int32) (v6 : Int32) (kc6 : Int32 → Int32 → GM → Option (GM)) (v4 : Int32) (v7 : Int32) (G : GM) (kc31 : Int32 → Int32 → GM → Option (GM)) : Option (GM) :=
  if v6 ≤ v7 then
((k_X2_dealColumn_74 v0 v1 v2 v3 v4 v5 v6 kc6 G))
else
(if (3 : Int32) ≤ v7 then
((k_X2_dealColumn_74 v0 v1 v2 v3 v4 v5 v6 kc6 G))
else
(if (15 : Int32) ≤ v4 then
((k_X2_dealColumn_74 v0 v1 v2 v3 v4 v5 v6 kc6 G))
else
(gd (inb v4 15) <|
gd (inb v7 3) <| lt (sI G (v0 + 5) v7.toNatClampNeg (gI G (v0 + 4) v4.toNatClampNeg)) fun G64 =>
(kc31 (v4 + (1 : Int32)) (v7 + (1 : Int32)) G64))))
def lp_X2_dealColumn_6 (v0 : Nat) (v1 : Nat) (v2 : Int32) (v3 : Nat)   (v4 : Int32) (v5 : Int32) (G : GM) (kc6 : Int32 → Int32 → GM → Option (GM)) : Option (GM) :=
  if (gI G v1 0) ≤ v5 then
(some G)
else
(gd (inb v5 3) <|
ob (f_X6_digit (gI G (v0 + 2) v5.toNatClampNeg) v2 G) fun r23 G23 =>
(wl2 FU (lp_X2_dealColumn_31 v0 v1 v2 v3 v5 r23 kc6) v4 (0 : Int32) G23))
def f_X2_dealColumn (v0 : Nat) (v1 : Nat) (v2 : Int32) (v3 : Nat) (G : GM) : Option (GM) :=
  (wl2 FU (lp_X2_dealColumn_6 v0 v1 v2 v3) (0 : Int32) (0 : Int32) G)
def f_X2_drawnPlan (v0 : Nat) (v1 : Nat) (v2 : Int32) (G : GM) : Option (Int32 × GM) :=
  ov (f_X3_begin (v0 + 1) v2 G) fun G5 =>
ob (f_X3_below (v0 + 1) (gI G5 v1 8) G5) fun r16 G16 =>
some (r16, G16)
def k_X6_pick_77 (v0 : Nat) (v1 : Int32) (v2 : Int32) (v3 : Int32) (v4 : Nat) (v5 : Int32) (v6 : Int32) (v8 : Int32) (v7 : Int32) (v9 : Int32) (s0 : Int32) (kc9 : Int32 → Int32 → Int32 → GM → Option (GM)) (kc29 : Int32 → Int32 → GM → Option (GM)) (G : GM) : Option (GM) :=
  if s0 ≤ v7 then
(lt (v7 - s0) fun x121 =>
(kc29 x121 (v9 + (1 : Int32)) G))
else
(gd (inb v9 64) <|
gd (inb (v5 + v8) (LN v4)) <| lt (sI G v4 (v5 + v8).toNatClampNeg (gI G (v0 + 1) v9.toNatClampNeg)) fun G100 =>
gd (inb v9 64) <|
lt (v6 - (gI G100 (v0 + 1) v9.toNatClampNeg)) fun x111 =>
(kc9 x111 v7 (v8 + (1 : Int32)) G100))
def lp_X6_pick_29 (v0 : Nat) (v1 : Int32) (v2 : Int32) (v3 : Int32) (v4 : Nat) (v5 : Int32) (v6 : Int32) (v8 : Int32) (kc9 : Int32 → Int32 → Int32 → GM → Option (GM)) (v7 : Int32) (v9 : Int32) (G : GM) (kc29 : Int32 → Int32 → GM → Option (GM)) : Option (GM) :=
  if (gI G v0 1) ≤ v9 then
((kc9 v6 v7 (v8 + (1 : Int32)) G))
else
(gd (inb v9 64) <|
ob (f_X6_canTake v6 (gI G (v0 + 1) v9.toNatClampNeg) G) fun r47 G47 =>
if r47 = 0 then
((k_X6_pick_77 v0 v1 v2 v3 v4 v5 v6 v8 v7 v9 (0 : Int32) kc9 kc29 G47))
else
(gd (inb v9 64) <|
ob (f_X6_waysOf 4 v0 ((v1 - (1 : Int32)) - v8) (v6 - (gI G47 (v0 + 1) v9.toNatClampNeg)) G47) fun r70 G70 =>
(k_X6_pick_77 v0 v1 v2 v3 v4 v5 v6 v8 v7 v9 r70 kc9 kc29 G70)))
def lp_X6_pick_9 (v0 : Nat) (v1 : Int32) (v2 : Int32) (v3 : Int32) (v4 : Nat) (v5 : Int32)   (v6 : Int32) (v7 : Int32) (v8 : Int32) (G : GM) (kc9 : Int32 → Int32 → Int32 → GM → Option (GM)) : Option (GM) :=
  if v1 ≤ v8 then
(some G)
else
(if (Int32.ofNat (LN v4)) ≤ (v5 + v8) then
(some G)
else
((wl2 FU (lp_X6_pick_29 v0 v1 v2 v3 v4 v5 v6 v8 kc9) v7 (0 : Int32) G)))
def f_X6_pick (v0 : Nat) (v1 : Int32) (v2 : Int32) (v3 : Int32) (v4 : Nat) (v5 : Int32) (G : GM) : Option (GM) :=
  (wl3 FU (lp_X6_pick_9 v0 v1 v2 v3 v4 v5) v2 v3 (0 : Int32) G)
def k_X4_putPlan_78 (v0 : Nat) (v1 : Int32) (v2 : Nat) (v3 : Int32) (v4 : Int32) (kc5 : Int32 → Int32 → GM → Option (GM)) (G : GM) : Option (GM) :=
  gd (inb v4 64) <|
lt (v3 - (gI G (v0 + 5) v4.toNatClampNeg)) fun x87 =>
(kc5 x87 (v4 + (1 : Int32)) G)
def lp_X4_putPlan_5 (v0 : Nat) (v1 : Int32) (v2 : Nat)   (v3 : Int32) (v4 : Int32) (G : GM) (kc5 : Int32 → Int32 → GM → Option (GM)) : Option (GM) :=
  if (gI G (v0 + 3) 1) ≤ v4 then
(some G)
else
(gd (inb v4 64) <|
if (gI G (v0 + 5) v4.toNatClampNeg) ≤ v3 then
((k_X4_putPlan_78 v0 v1 v2 v3 v4 kc5 G))
else
(if (Int32.ofNat (LN v2)) ≤ 0 then
((k_X4_putPlan_78 v0 v1 v2 v3 v4 kc5 G))
else
(gd (inb v4 64) <|
gd (inb (0 : Int32) (LN v2)) <| lt (sI G v2 (0 : Int32).toNatClampNeg (gI G (v0 + 4) v4.toNatClampNeg)) fun G45 =>
gd (inb v4 64) <|
ov (f_X6_pick (v0 + 3) ((gI G45 v0 0) - (1 : Int32)) ((gI G45 v0 7) - (gI G45 (v0 + 4) v4.toNatClampNeg)) v3 v2 (1 : Int32) G45) fun G74 =>
some G74)))
def f_X4_putPlan (v0 : Nat) (v1 : Int32) (v2 : Nat) (G : GM) : Option (GM) :=
  (wl2 FU (lp_X4_putPlan_5 v0 v1 v2) v1 (0 : Int32) G)
def k_X2_deal_156 (v0 : Nat) (v1 : Nat) (v2 : Int32) (v3 : Nat) (v4 : Int32) (v5 : Int32) (kc98 : Int32 → GM → Option (GM)) (G : GM) : Option (GM) :=
  ov (f_X3_mix (v0 + 1) (v0 + 4) v5 G) fun G166 =>
ov (f_X2_dealColumn v0 v1 v4 v3 G166) fun G174 =>
(kc98 (v4 + (1 : Int32)) G174)
def lp_X2_deal_119 (v0 : Nat) (v1 : Nat) (v2 : Int32) (v3 : Nat) (v4 : Int32) (v5 : Int32) (kc98 : Int32 → GM → Option (GM)) (v6 : Int32) (G : GM) (kc119 : Int32 → GM → Option (GM)) : Option (GM) :=
  if v5 ≤ v6 then
((k_X2_deal_156 v0 v1 v2 v3 v4 v5 kc98 G))
else
(if (15 : Int32) ≤ v6 then
((k_X2_deal_156 v0 v1 v2 v3 v4 v5 kc98 G))
else
(gd (inb v4 5) <|
gd (inb v6 15) <| lt (sI G (v0 + 4) v6.toNatClampNeg ((gI G (v1 + 2) v4.toNatClampNeg) + v6)) fun G149 =>
(kc119 (v6 + (1 : Int32)) G149)))
def lp_X2_deal_98 (v0 : Nat) (v1 : Nat) (v2 : Int32) (v3 : Nat)   (v4 : Int32) (G : GM) (kc98 : Int32 → GM → Option (GM)) : Option (GM) :=
  if (gI G v1 3) ≤ v4 then
(some G)
else
(gd (inb v4 5) <|
lt (gI G (v1 + 1) v4.toNatClampNeg) fun x114 =>
(wl1 FU (lp_X2_deal_119 v0 v1 v2 v3 v4 x114 kc98) (0 : Int32) G))
def lp_X2_deal_22 (v0 : Nat) (v1 : Nat) (v2 : Int32) (v3 : Nat)   (v4 : Int32) (G : GM) (kc22 : Int32 → GM → Option (GM)) : Option (GM) :=
  if (gI G v1 0) ≤ v4 then
((wl1 FU (lp_X2_deal_98 v0 v1 v2 v3) (0 : Int32) G))
else
(gd (inb v4 3) <|
ob (f_X6_waysOf 4 (v1 + 6) (gI G v1 1) (gI G (v0 + 2) v4.toNatClampNeg) G) fun r46 G46 =>
gd (inb v4 3) <|
ob (f_X3_below (v0 + 1) r46 G46) fun r72 G72 =>
ov (f_X6_pick (v1 + 6) (gI G46 v1 1) (gI G46 (v0 + 2) v4.toNatClampNeg) r72 (v0 + 3) (v4 * (gI G72 v1 1)) G72) fun G86 =>
(kc22 (v4 + (1 : Int32)) G86))
def f_X2_deal (v0 : Nat) (v1 : Nat) (v2 : Int32) (v3 : Nat) (G : GM) : Option (GM) :=
  ov (f_J7_fill_53178 v3 (0 : Int32) G) fun G2 =>
ob (f_X2_drawnPlan v0 v1 v2 G2) fun r9 G9 =>
ov (f_X4_putPlan v1 r9 (v0 + 2) G9) fun G16 =>
(wl1 FU (lp_X2_deal_22 v0 v1 v2 v3) (0 : Int32) G16)
def f_X5_addSold (v0 : Nat) (v1 : Int32) (v2 : Nat) (G : GM) : Option (GM) :=
  if (8 : Int32) ≤ (gI G v0 5) then
(some G)
else
(gd (inb (gI G v0 5) 8) <| lt (sI G (v0 + 10) (gI G v0 5).toNatClampNeg v1) fun G18 =>
gd (inb (gI G18 v0 5) 8) <|
gd (acp (0 : Int32) (0 : Int32) (45 : Int32) (LN v2) 45) <| lt (cpI G18 v2 (0 : Int32).toNatClampNeg (v0 + 12 + (gI G18 v0 5).toNatClampNeg) (0 : Int32).toNatClampNeg (45 : Int32).toNatClampNeg) fun G33 =>
lt (sI G33 v0 5 ((gI G33 v0 5) + (1 : Int32))) fun G43 =>
some G43)
def lp_X9_areSame_2 (v0 : Nat) (v1 : Nat)   (v2 : Int32) (G : GM) (kc2 : Int32 → GM → Option (Int32 × GM)) : Option (Int32 × GM) :=
  if (45 : Int32) ≤ v2 then
(some ((1 : Int32), G))
else
(gd (inb v2 (LN v0)) <|
gd (inb v2 (LN v1)) <|
if (gI G v0 v2.toNatClampNeg) = (gI G v1 v2.toNatClampNeg) then
((kc2 (v2 + (1 : Int32)) G))
else
(some ((0 : Int32), G)))
def f_X9_areSame (v0 : Nat) (v1 : Nat) (G : GM) : Option (Int32 × GM) :=
  (wl1 FU (lp_X9_areSame_2 v0 v1) (0 : Int32) G)
def lp_X5_hasSold_2 (v0 : Nat) (v1 : Nat)   (v2 : Int32) (G : GM) (kc2 : Int32 → GM → Option (Int32 × GM)) : Option (Int32 × GM) :=
  if (gI G v0 5) ≤ v2 then
(some ((0 : Int32), G))
else
(gd (inb v2 8) <|
ob (f_X9_areSame (v0 + 12 + v2.toNatClampNeg) v1 G) fun r17 G17 =>
if r17 = 0 then
((kc2 (v2 + (1 : Int32)) G17))
else
(some ((1 : Int32), G17)))
def f_X5_hasSold (v0 : Nat) (v1 : Nat) (G : GM) : Option (Int32 × GM) :=
  (wl1 FU (lp_X5_hasSold_2 v0 v1) (0 : Int32) G)
def k_X7_readSold_73 (v1 : Nat)   (G : GM) : Option (GM) :=
  ob (f_X7_takeNumber (0 : Int32) (9999 : Int32) G) fun r78 G78 =>
if (gI G78 53 9) = 0 then
(ov (f_X5_addSold v1 r78 61 G78) fun G95 =>
some G95)
else
(some G78)
def k_X7_readSold_14 (v1 : Nat)   (G : GM) : Option (GM) :=
  ov (f_X7_takeWord 11 G) fun G17 =>
ob (f_X7_isNumberOf (0 : Int32) (9999 : Int32) G17) fun r25 G25 =>
if r25 = 0 then
((k_X7_readSold_73 v1 G25))
else
(if (gI G25 53 9) = 0 then
(ov (f_X2_deal 55 (v1 + 1) (gI G25 53 7) 61 G25) fun G54 =>
ob (f_X5_hasSold v1 61 G54) fun r62 G62 =>
if r62 = 0 then
((k_X7_readSold_73 v1 G62))
else
(ov (f_X7_fail (2 : Int32) G62) fun G70 =>
(k_X7_readSold_73 v1 G70)))
else
((k_X7_readSold_73 v1 G25)))
def f_X7_readSold (v1 : Nat) (G : GM) : Option (GM) :=
  if (gI G v1 5) < (8 : Int32) then
((k_X7_readSold_14 v1 G))
else
(ov (f_X7_fail (3 : Int32) G) fun G11 =>
(k_X7_readSold_14 v1 G11))
def k_X7_takeSign_13    (G : GM) : Option (GM) :=
  ov (f_X7_takeToken G) fun G14 =>
some G14
def f_X7_takeSign  (G : GM) : Option (GM) :=
  if (gI G 53 5) = (3 : Int32) then
((k_X7_takeSign_13 G))
else
(ov (f_X7_fail (1 : Int32) G) fun G10 =>
(k_X7_takeSign_13 G10))
def k_X7_readLine_117 (v1 : Nat)   (G : GM) : Option (GM) :=
  ov (f_X7_takeSign G) fun G118 =>
lt (sI G118 v1 1 ((gI G118 v1 1) + (1 : Int32))) fun G128 =>
some G128
def k_X7_readLine_18 (v1 : Nat) (s0 : Int32) (s1 : Int32)  (G : GM) : Option (GM) :=
  if s1 = s0 then
(ob (f_X7_isWord 0 G) fun r32 G32 =>
if r32 = 0 then
(ob (f_X7_isWord 5 G32) fun r52 G52 =>
if r52 = 0 then
(ob (f_X7_isWord 9 G52) fun r69 G69 =>
if r69 = 0 then
(ob (f_X7_isWord 11 G69) fun r86 G86 =>
if r86 = 0 then
(ov (f_X7_takeWord 12 G86) fun G103 =>
ob (f_X7_takeNumber (0 : Int32) (99999 : Int32) G103) fun r111 G111 =>
lt (sI G111 53 8 r111) fun G114 =>
(k_X7_readLine_117 v1 G114))
else
(ov (f_X7_readSold v1 G86) fun G94 =>
(k_X7_readLine_117 v1 G94)))
else
(ov (f_X7_readJackpot v1 G69) fun G77 =>
(k_X7_readLine_117 v1 G77)))
else
(ov (f_X7_readPrize v1 G52) fun G60 =>
(k_X7_readLine_117 v1 G60)))
else
(ov (f_X7_readForm (v1 + 1) G32) fun G43 =>
(k_X7_readLine_117 v1 G43)))
else
(ov (f_X7_fail (1 : Int32) G) fun G23 =>
(k_X7_readLine_117 v1 G23))
def f_X7_readLine (v1 : Nat) (G : GM) : Option (GM) :=
  ob (f_X7_isWord 0 G) fun r3 G3 =>
if (gI G3 v1 1) = 0 then
((k_X7_readLine_18 v1 (1 : Int32) r3 G3))
else
((k_X7_readLine_18 v1 (0 : Int32) r3 G3))
def f_X2_planned (v0 : Nat) (v1 : Nat) (v2 : Int32) (v3 : Int32) (v4 : Int32) (G : GM) : Option (Int32 × GM) :=
  ov (f_X4_putPlan v1 v2 (v0 + 2) G) fun G6 =>
if v3 < 0 then
(some ((0 : Int32), G6))
else
(if v3 < (3 : Int32) then
(gd (inb v3 3) <|
ob (f_X6_digit (gI G6 (v0 + 2) v3.toNatClampNeg) v4 G6) fun r30 G30 =>
some (r30, G30))
else
(some ((0 : Int32), G6)))
def f_X8_isSlot (v1 : Int32) (G : GM) : Option (Int32 × GM) :=
  if v1 < 0 then
(some ((0 : Int32), G))
else
(if (4 : Int32) ≤ v1 then
(some ((0 : Int32), G))
else
(some ((1 : Int32), G)))
def f_X8_hasRow (v1 : Int32) (G : GM) : Option (Int32 × GM) :=
  ob (f_X8_isSlot v1 G) fun r2 G2 =>
if r2 = 0 then
(some ((0 : Int32), G2))
else
(gd (inb v1 4) <|
if (gI G2 70 v1.toNatClampNeg) = 0 then
(some ((0 : Int32), G2))
else
(some ((1 : Int32), G2)))
def f_X8_lengthOf (v1 : Int32) (G : GM) : Option (Int32 × GM) :=
  ob (f_X8_hasRow v1 G) fun r2 G2 =>
if r2 = 0 then
(some ((0 : Int32), G2))
else
(gd (inb v1 4) <|
some ((gI G2 68 v1.toNatClampNeg), G2))
def f_X8_holds (v1 : Int32) (v2 : Int32) (v3 : Int32) (G : GM) : Option (Int32 × GM) :=
  if v2 < 0 then
(some ((0 : Int32), G))
else
(if v3 < 0 then
(some ((0 : Int32), G))
else
(ob (f_X8_lengthOf v1 G) fun r15 G15 =>
if 0 < (lg_cmp ((v2.toInt64) + (v3.toInt64)) (r15.toInt64)) then
(some ((0 : Int32), G15))
else
(some ((1 : Int32), G15))))
def f_X8_valueAt (v1 : Int32) (v2 : Int32) (G : GM) : Option (Int64 × GM) :=
  ob (f_X8_holds v1 v2 (1 : Int32) G) fun r4 G4 =>
if r4 = 0 then
(some ((0 : Int64), G4))
else
(gd (inb v1 4) <|
gd (inb v2 60) <|
some ((gJ G4 (64 + v1.toNatClampNeg) v2.toNatClampNeg), G4))
def f_J13_bitCount_95d88 (v0 : Int64) (G : GM) : Option (Int32 × GM) :=
  lt (v0 - (((v0).toUInt64 >>> (((1 : Int32)).toInt64 &&& 63).toUInt64).toInt64 &&& (6148914691236517205 : Int64))) fun x9 =>
lt ((x9 &&& (3689348814741910323 : Int64)) + (((x9).toUInt64 >>> (((2 : Int32)).toInt64 &&& 63).toUInt64).toInt64 &&& (3689348814741910323 : Int64))) fun x23 =>
lt ((x23 + ((x23).toUInt64 >>> (((4 : Int32)).toInt64 &&& 63).toUInt64).toInt64) &&& (1085102592571150095 : Int64)) fun x33 =>
lt (x33 + ((x33).toUInt64 >>> (((8 : Int32)).toInt64 &&& 63).toUInt64).toInt64) fun x40 =>
lt (x40 + ((x40).toUInt64 >>> (((16 : Int32)).toInt64 &&& 63).toUInt64).toInt64) fun x47 =>
lt (x47 + ((x47).toUInt64 >>> (((32 : Int32)).toInt64 &&& 63).toUInt64).toInt64) fun x54 =>
some (((x54.toInt32) &&& (127 : Int32)), G)
def k_X4_numbersOf_53 (v0 : Nat) (v1 : Nat) (v2 : Int32) (v5 : Int32) (v6 : Int32) (s0 : Int64) (s1 : Int64) (kc5 : Int64 → Int32 → GM → Option (Int64 × GM)) (kc17 : Int64 → Int32 → GM → Option (Int64 × GM)) (G : GM) : Option (Int64 × GM) :=
  lt (s1 ||| s0) fun x54 =>
(kc17 x54 (v6 + (1 : Int32)) G)
def lp_X4_numbersOf_17 (v0 : Nat) (v1 : Nat) (v2 : Int32) (v5 : Int32) (kc5 : Int64 → Int32 → GM → Option (Int64 × GM)) (v3 : Int64) (v6 : Int32) (G : GM) (kc17 : Int64 → Int32 → GM → Option (Int64 × GM)) : Option (Int64 × GM) :=
  if (gI G v0 3) ≤ v6 then
((kc5 v3 (v5 + (1 : Int32)) G))
else
(ob (f_X4_placeOf v0 v2 v5 v6 G) fun r33 G33 =>
gd (inb r33 (LN v1)) <|
lt (gI G33 v1 r33.toNatClampNeg) fun x37 =>
if x37 = 0 then
((k_X4_numbersOf_53 v0 v1 v2 v5 v6 (0 : Int64) v3 kc5 kc17 G33))
else
((k_X4_numbersOf_53 v0 v1 v2 v5 v6 ((1 : Int64) <<< (x37.toInt64 &&& 63)) v3 kc5 kc17 G33)))
def lp_X4_numbersOf_5 (v0 : Nat) (v1 : Nat) (v2 : Int32)   (v3 : Int64) (v5 : Int32) (G : GM) (kc5 : Int64 → Int32 → GM → Option (Int64 × GM)) : Option (Int64 × GM) :=
  if (gI G v0 1) ≤ v5 then
(some (v3, G))
else
((wl2 FU (lp_X4_numbersOf_17 v0 v1 v2 v5 kc5) v3 (0 : Int32) G))
def f_X4_numbersOf (v0 : Nat) (v1 : Nat) (v2 : Int32) (G : GM) : Option (Int64 × GM) :=
  (wl2 FU (lp_X4_numbersOf_5 v0 v1 v2) (0 : Int64) (0 : Int32) G)
def f_X0_turnAt (v1 : Int32) (v2 : Int32) (G : GM) : Option (Int32 × GM) :=
  lt ((v1 * (gI G 71 1)) + v2) fun x8 =>
if x8 < 0 then
(some ((0 : Int32), G))
else
(if x8 < (15 : Int32) then
(gd (inb x8 15) <|
some ((gI G 72 x8.toNatClampNeg), G))
else
(some ((0 : Int32), G)))
def lp_X0_rowLack_5 (v1 : Int32) (v2 : Int32)   (v3 : Int32) (v4 : Int32) (G : GM) (kc5 : Int32 → Int32 → GM → Option (Int32 × GM)) : Option (Int32 × GM) :=
  if (gI G 71 1) ≤ v4 then
(some (v3, G))
else
(ob (f_X0_turnAt v1 v4 G) fun r18 G18 =>
if r18 ≤ v2 then
((kc5 v3 (v4 + (1 : Int32)) G18))
else
((kc5 (v3 + (1 : Int32)) (v4 + (1 : Int32)) G18)))
def f_X0_rowLack (v1 : Int32) (v2 : Int32) (G : GM) : Option (Int32 × GM) :=
  (wl2 FU (lp_X0_rowLack_5 v1 v2) (0 : Int32) (0 : Int32) G)
def lp_X0_daubedBy_12 (v1 : Int32)   (v2 : Int32) (v3 : Int32) (G : GM) (kc12 : Int32 → Int32 → GM → Option (Int32 × GM)) : Option (Int32 × GM) :=
  if (gI G 71 0) ≤ v3 then
(some (v2, G))
else
(ob (f_X0_rowLack v3 v1 G) fun r24 G24 =>
lt (v2 - r24) fun x28 =>
(kc12 x28 (v3 + (1 : Int32)) G24))
def f_X0_daubedBy (v1 : Int32) (G : GM) : Option (Int32 × GM) :=
  lt ((gI G 71 0) * (gI G 71 2)) fun x9 =>
(wl2 FU (lp_X0_daubedBy_12 v1) x9 (0 : Int32) G)
def k_X0_look_109 (v1 : Nat) (v2 : Nat) (v3 : Int32) (v4 : Nat) (v5 : Int32) (v6 : Int32) (s0 : Int32) (s1 : Int32) (kc27 : Int32 → GM → Option (GM)) (kc39 : Int32 → GM → Option (GM)) (G : GM) : Option (GM) :=
  gd (inb s1 15) <| lt (sI G 72 s1.toNatClampNeg s0) fun G109 =>
(kc39 (v6 + (1 : Int32)) G109)
def k_X0_look_79 (v1 : Nat) (v2 : Nat) (v3 : Int32) (v4 : Nat) (v5 : Int32) (v6 : Int32) (v7 : Int32) (s0 : Int32) (kc27 : Int32 → GM → Option (GM)) (kc39 : Int32 → GM → Option (GM)) (G : GM) : Option (GM) :=
  if s0 = 0 then
((k_X0_look_109 v1 v2 v3 v4 v5 v6 (0 : Int32) ((v5 * (gI G 71 1)) + v6) kc27 kc39 G))
else
(gd (inb v7 (LN v4)) <|
(k_X0_look_109 v1 v2 v3 v4 v5 v6 (gI G v4 v7.toNatClampNeg) ((v5 * (gI G 71 1)) + v6) kc27 kc39 G))
def k_X0_look_78 (v1 : Nat) (v2 : Nat) (v3 : Int32) (v4 : Nat) (v5 : Int32) (v6 : Int32) (v7 : Int32) (kc27 : Int32 → GM → Option (GM)) (kc39 : Int32 → GM → Option (GM)) (G : GM) : Option (GM) :=
  (k_X0_look_79 v1 v2 v3 v4 v5 v6 v7 (0 : Int32) kc27 kc39 G)
def lp_X0_look_39 (v1 : Nat) (v2 : Nat) (v3 : Int32) (v4 : Nat) (v5 : Int32) (kc27 : Int32 → GM → Option (GM)) (v6 : Int32) (G : GM) (kc39 : Int32 → GM → Option (GM)) : Option (GM) :=
  if (gI G 71 1) ≤ v6 then
((kc27 (v5 + (1 : Int32)) G))
else
(ob (f_X4_placeOf v1 v3 v5 v6 G) fun r55 G55 =>
gd (inb r55 (LN v2)) <|
lt (gI G55 v2 r55.toNatClampNeg) fun x59 =>
if x59 ≤ 0 then
((k_X0_look_78 v1 v2 v3 v4 v5 v6 x59 kc27 kc39 G55))
else
(if (Int32.ofNat (LN v4)) ≤ x59 then
((k_X0_look_78 v1 v2 v3 v4 v5 v6 x59 kc27 kc39 G55))
else
((k_X0_look_79 v1 v2 v3 v4 v5 v6 x59 (1 : Int32) kc27 kc39 G55))))
def lp_X0_look_27 (v1 : Nat) (v2 : Nat) (v3 : Int32) (v4 : Nat)   (v5 : Int32) (G : GM) (kc27 : Int32 → GM → Option (GM)) : Option (GM) :=
  if (gI G 71 0) ≤ v5 then
(some G)
else
((wl1 FU (lp_X0_look_39 v1 v2 v3 v4 v5 kc27) (0 : Int32) G))
def f_X0_look (v1 : Nat) (v2 : Nat) (v3 : Int32) (v4 : Nat) (G : GM) : Option (GM) :=
  lt (sI G 71 0 (gI G v1 1)) fun G5 =>
lt (sI G5 71 1 (gI G5 v1 3)) fun G13 =>
lt (sI G13 71 2 (gI G13 v1 2)) fun G21 =>
(wl1 FU (lp_X0_look_27 v1 v2 v3 v4) (0 : Int32) G21)
def lp_X0_fullRowsBy_4 (v1 : Int32)   (v2 : Int32) (v3 : Int32) (G : GM) (kc4 : Int32 → Int32 → GM → Option (Int32 × GM)) : Option (Int32 × GM) :=
  if (gI G 71 0) ≤ v3 then
(some (v2, G))
else
(ob (f_X0_rowLack v3 v1 G) fun r15 G15 =>
if r15 = 0 then
((kc4 (v2 + (1 : Int32)) (v3 + (1 : Int32)) G15))
else
((kc4 v2 (v3 + (1 : Int32)) G15)))
def f_X0_fullRowsBy (v1 : Int32) (G : GM) : Option (Int32 × GM) :=
  (wl2 FU (lp_X0_fullRowsBy_4 v1) (0 : Int32) (0 : Int32) G)
def k_X0_canHave_14 (v1 : Int32) (s0 : Int32) (s1 : Int32)  (G : GM) : Option (Int32 × GM) :=
  if s1 ≤ s0 then
(some ((0 : Int32), G))
else
(some ((1 : Int32), G))
def f_X0_canHave (v1 : Int32) (G : GM) : Option (Int32 × GM) :=
  if v1 = (1 : Int32) then
((k_X0_canHave_14 v1 (1 : Int32) (gI G 71 0) G))
else
((k_X0_canHave_14 v1 (0 : Int32) (gI G 71 0) G))
def lp_X0_lackOf_71 (v1 : Int32) (v2 : Int32) (v3 : Int32)  (v4 : Int32) (v5 : Int32) (G : GM) (kc71 : Int32 → Int32 → GM → Option (Int32 × GM)) : Option (Int32 × GM) :=
  if v3 ≤ v5 then
(some (v4, G))
else
(gd (inb v5 3) <|
lt (v4 + (gI G 73 v5.toNatClampNeg)) fun x87 =>
(kc71 x87 (v5 + (1 : Int32)) G))
def k_X0_lackOf_64 (v1 : Int32) (v2 : Int32) (s0 : Int32)  (G : GM) : Option (Int32 × GM) :=
  (wl2 FU (lp_X0_lackOf_71 v1 v2 s0) (0 : Int32) (0 : Int32) G)
def lp_X0_lackOf_12 (v1 : Int32) (v2 : Int32)   (v3 : Int32) (G : GM) (kc12 : Int32 → GM → Option (Int32 × GM)) : Option (Int32 × GM) :=
  if (gI G 71 0) ≤ v3 then
(ov (f_X9_sortRising 73 (gI G 71 0) G) fun G46 =>
if v1 = (2 : Int32) then
((k_X0_lackOf_64 v1 v2 (gI G46 71 0) G46))
else
((k_X0_lackOf_64 v1 v2 (v1 + (1 : Int32)) G46)))
else
(ob (f_X0_rowLack v3 v2 G) fun r28 G28 =>
gd (inb v3 3) <| lt (sI G28 73 v3.toNatClampNeg r28) fun G31 =>
(kc12 (v3 + (1 : Int32)) G31))
def f_X0_lackOf (v1 : Int32) (v2 : Int32) (G : GM) : Option (Int32 × GM) :=
  ob (f_X0_canHave v1 G) fun r2 G2 =>
if r2 = 0 then
(some ((-1 : Int32), G2))
else
((wl1 FU (lp_X0_lackOf_12 v1 v2) (0 : Int32) G2))
def lp_X0_rowTurn_4 (v1 : Int32)   (v2 : Int32) (v3 : Int32) (G : GM) (kc4 : Int32 → Int32 → GM → Option (Int32 × GM)) : Option (Int32 × GM) :=
  if (gI G 71 1) ≤ v3 then
(some (v2, G))
else
(ob (f_X0_turnAt v1 v3 G) fun r16 G16 =>
lt (jmax v2 r16) fun x22 =>
(kc4 x22 (v3 + (1 : Int32)) G16))
def f_X0_rowTurn (v1 : Int32) (G : GM) : Option (Int32 × GM) :=
  (wl2 FU (lp_X0_rowTurn_4 v1) (0 : Int32) (0 : Int32) G)
def lp_X0_turnOf_12 (v1 : Int32)   (v2 : Int32) (G : GM) (kc12 : Int32 → GM → Option (Int32 × GM)) : Option (Int32 × GM) :=
  if (gI G 71 0) ≤ v2 then
(ov (f_X9_sortRising 73 (gI G 71 0) G) fun G45 =>
if v1 = (2 : Int32) then
(gd (inb ((gI G45 71 0) - (1 : Int32)) 3) <|
some ((gI G45 73 ((gI G45 71 0) - (1 : Int32)).toNatClampNeg), G45))
else
(if v1 = (1 : Int32) then
(gd (inb (1 : Int32) 3) <|
some ((gI G45 73 (1 : Int32).toNatClampNeg), G45))
else
(gd (inb (0 : Int32) 3) <|
some ((gI G45 73 (0 : Int32).toNatClampNeg), G45))))
else
(ob (f_X0_rowTurn v2 G) fun r27 G27 =>
gd (inb v2 3) <| lt (sI G27 73 v2.toNatClampNeg r27) fun G30 =>
(kc12 (v2 + (1 : Int32)) G30))
def f_X0_turnOf (v1 : Int32) (G : GM) : Option (Int32 × GM) :=
  ob (f_X0_canHave v1 G) fun r2 G2 =>
if r2 = 0 then
(some ((-1 : Int32), G2))
else
((wl1 FU (lp_X0_turnOf_12 v1) (0 : Int32) G2))
def k_X0_endsTurn_40 (v1 : Int32) (v4 : Int32) (v5 : Int32) (s0 : Int32) (kc7 : Int32 → Int32 → Int32 → GM → Option (Int32 × GM)) (G : GM) : Option (Int32 × GM) :=
  (kc7 s0 v5 (v4 + (1 : Int32)) G)
def lp_X0_endsTurn_7 (v1 : Int32)   (v2 : Int32) (v3 : Int32) (v4 : Int32) (G : GM) (kc7 : Int32 → Int32 → Int32 → GM → Option (Int32 × GM)) : Option (Int32 × GM) :=
  if (gI G 71 1) ≤ v4 then
(some ((jmax v2 v3), G))
else
(ob (f_X0_turnAt v1 v4 G) fun r20 G20 =>
if r20 ≤ 0 then
((kc7 v2 v3 (v4 + (1 : Int32)) G20))
else
(if v2 = 0 then
((k_X0_endsTurn_40 v1 v4 r20 r20 kc7 G20))
else
((k_X0_endsTurn_40 v1 v4 r20 v2 kc7 G20))))
def f_X0_endsTurn (v1 : Int32) (G : GM) : Option (Int32 × GM) :=
  (wl3 FU (lp_X0_endsTurn_7 v1) (0 : Int32) (0 : Int32) (0 : Int32) G)
def lp_X1_choose_16 (v0 : Int32) (v1 : Int32)   (v2 : Int64) (v4 : Int32) (G : GM) (kc16 : Int64 → Int32 → GM → Option (Int64 × GM)) : Option (Int64 × GM) :=
  if v1 ≤ v4 then
(some (v2, G))
else
(gd (decide (¬ ((v4 + (1 : Int32)).toInt64) = 0)) <|
lt ((v2 * ((v0 - v4).toInt64)) / ((v4 + (1 : Int32)).toInt64)) fun x35 =>
(kc16 x35 (v4 + (1 : Int32)) G))
def f_X1_choose (v0 : Int32) (v1 : Int32) (G : GM) : Option (Int64 × GM) :=
  if v1 < 0 then
(some ((0 : Int64), G))
else
(if v1 ≤ v0 then
((wl2 FU (lp_X1_choose_16 v0 v1) (1 : Int64) (0 : Int32) G))
else
(some ((0 : Int64), G)))
def k_X1_drawsWith_73 (v0 : Int32) (v1 : Int32) (v2 : Int32) (v3 : Int32) (v4 : Int32) (v7 : Int32) (s0 : Int64) (s1 : Int64) (kc7 : Int64 → Int32 → GM → Option (Int64 × GM)) (G : GM) : Option (Int64 × GM) :=
  lt (s1 + s0) fun x74 =>
(kc7 x74 (v7 + (1 : Int32)) G)
def lp_X1_drawsWith_7 (v0 : Int32) (v1 : Int32) (v2 : Int32) (v3 : Int32) (v4 : Int32)   (v5 : Int64) (v7 : Int32) (G : GM) (kc7 : Int64 → Int32 → GM → Option (Int64 × GM)) : Option (Int64 × GM) :=
  if v2 < v7 then
(some (v5, G))
else
(ob (f_X1_choose v2 v7 G) fun r16 G16 =>
ob (f_X1_choose (v0 - (v7 * v3)) (v1 - (v7 * v3)) G16) fun r31 G31 =>
lt (r16 * r31) fun x35 =>
ob (f_X1_choose (v7 - (1 : Int32)) (v4 - (1 : Int32)) G31) fun r45 G45 =>
lt (r45 * x35) fun x51 =>
if ((v7 - v4) - (v7 - v4) / (2 : Int32) * (2 : Int32)) = 0 then
((k_X1_drawsWith_73 v0 v1 v2 v3 v4 v7 x51 v5 kc7 G45))
else
((k_X1_drawsWith_73 v0 v1 v2 v3 v4 v7 ((-x51)) v5 kc7 G45)))
def f_X1_drawsWith (v0 : Int32) (v1 : Int32) (v2 : Int32) (v3 : Int32) (v4 : Int32) (G : GM) : Option (Int64 × GM) :=
  (wl2 FU (lp_X1_drawsWith_7 v0 v1 v2 v3 v4) (0 : Int64) v4 G)
def lp_X1_commonDivisor_9 (v0 : Int64) (v2 : Int64)   (v4 : Int64) (v6 : Int64) (v8 : Int32) (G : GM) (kc9 : Int64 → Int64 → Int32 → GM → Option (Int64 × GM)) : Option (Int64 × GM) :=
  if (1000 : Int32) ≤ v8 then
(some (v4, G))
else
(if (lg_cmp v6 (0 : Int64)) = 0 then
(some (v4, G))
else
(gd (decide (¬ v6 = 0)) <|
lt (v4 - v4 / v6 * v6) fun x29 =>
(kc9 v6 x29 (v8 + (1 : Int32)) G)))
def f_X1_commonDivisor (v0 : Int64) (v2 : Int64) (G : GM) : Option (Int64 × GM) :=
  (wl3 FU (lp_X1_commonDivisor_9 v0 v2) v0 v2 (0 : Int32) G)
def f_X1_told (v0 : Int64) (v2 : Int64) (v4 : Int32) (G : GM) : Option (Int64 × GM) :=
  ob (f_X1_commonDivisor v0 v2 G) fun r2 G2 =>
if 0 ≤ (lg_cmp r2 (1 : Int64)) then
(if v4 = 0 then
(gd (decide (¬ r2 = 0)) <|
some ((v0 / r2), G2))
else
(gd (decide (¬ r2 = 0)) <|
some ((v2 / r2), G2)))
else
(some ((0 : Int64), G2))
def lp_X8_inUse_4    (v1 : Int32) (v2 : Int32) (G : GM) (kc4 : Int32 → Int32 → GM → Option (Int32 × GM)) : Option (Int32 × GM) :=
  if (4 : Int32) ≤ v2 then
(some (v1, G))
else
(gd (inb v2 4) <|
if (gI G 70 v2.toNatClampNeg) = 0 then
((kc4 v1 (v2 + (1 : Int32)) G))
else
((kc4 (v1 + (1 : Int32)) (v2 + (1 : Int32)) G)))
def f_X8_inUse  (G : GM) : Option (Int32 × GM) :=
  (wl2 FU (lp_X8_inUse_4 ) (0 : Int32) (0 : Int32) G)
def f_X4_copyFrom (v0 : Nat) (v1 : Nat) (G : GM) : Option (GM) :=
  lt (sI G v0 0 (gI G v1 0)) fun G5 =>
lt (sI G5 v0 1 (gI G5 v1 1)) fun G13 =>
lt (sI G13 v0 2 (gI G13 v1 2)) fun G21 =>
lt (sI G21 v0 3 (gI G21 v1 3)) fun G29 =>
gd (acp (0 : Int32) (0 : Int32) (5 : Int32) 5 5) <| lt (cpI G29 (v1 + 1) (0 : Int32).toNatClampNeg (v0 + 1) (0 : Int32).toNatClampNeg (5 : Int32).toNatClampNeg) fun G43 =>
ov (f_X4_settle v0 G43) fun G47 =>
some G47
def lp_X5_copyFrom_74 (v0 : Nat) (v1 : Nat)   (v2 : Int32) (G : GM) (kc74 : Int32 → GM → Option (GM)) : Option (GM) :=
  if (gI G v0 5) ≤ v2 then
(gd (acp (0 : Int32) (0 : Int32) (45 : Int32) 45 45) <| lt (cpI G (v1 + 20) (0 : Int32).toNatClampNeg (v0 + 20) (0 : Int32).toNatClampNeg (45 : Int32).toNatClampNeg) fun G119 =>
gd (acp (0 : Int32) (0 : Int32) (46 : Int32) 46 46) <| lt (cpI G119 (v1 + 21) (0 : Int32).toNatClampNeg (v0 + 21) (0 : Int32).toNatClampNeg (46 : Int32).toNatClampNeg) fun G134 =>
some G134)
else
(gd (inb v2 8) <|
gd (inb v2 8) <|
gd (acp (0 : Int32) (0 : Int32) (45 : Int32) 45 45) <| lt (cpI G (v1 + 12 + v2.toNatClampNeg) (0 : Int32).toNatClampNeg (v0 + 12 + v2.toNatClampNeg) (0 : Int32).toNatClampNeg (45 : Int32).toNatClampNeg) fun G98 =>
(kc74 (v2 + (1 : Int32)) G98))
def f_X5_copyFrom (v0 : Nat) (v1 : Nat) (G : GM) : Option (GM) :=
  ov (f_X4_copyFrom (v0 + 1) (v1 + 1) G) fun G8 =>
lt (sI G8 v0 1 (gI G8 v1 1)) fun G16 =>
gd (acp (0 : Int32) (0 : Int32) (3 : Int32) 3 3) <| lt (cpI G16 (v1 + 9) (0 : Int32).toNatClampNeg (v0 + 9) (0 : Int32).toNatClampNeg (3 : Int32).toNatClampNeg) fun G30 =>
lt (sI G30 v0 3 (gI G30 v1 3)) fun G38 =>
lt (sI G38 v0 4 (gI G38 v1 4)) fun G46 =>
lt (sI G46 v0 5 (gI G46 v1 5)) fun G54 =>
gd (acp (0 : Int32) (0 : Int32) (8 : Int32) 8 8) <| lt (cpI G54 (v1 + 10) (0 : Int32).toNatClampNeg (v0 + 10) (0 : Int32).toNatClampNeg (8 : Int32).toNatClampNeg) fun G69 =>
(wl1 FU (lp_X5_copyFrom_74 v0 v1) (0 : Int32) G69)
def lp_J7_fill_d0a16_6 (v0 : Nat) (v1 : Int64) (v4 : Int32)  (v3 : Int32) (G : GM) (kc6 : Int32 → GM → Option (GM)) : Option (GM) :=
  if v4 ≤ v3 then
(some G)
else
(gd (inb v3 (LN v0)) <| lt (sJ G v0 v3.toNatClampNeg v1) fun G15 =>
(kc6 (v3 + (1 : Int32)) G15))
def f_J7_fill_d0a16 (v0 : Nat) (v1 : Int64) (G : GM) : Option (GM) :=
  lt (Int32.ofNat (LN v0)) fun x4 =>
(wl1 FU (lp_J7_fill_d0a16_6 v0 v1 x4) (0 : Int32) G)
def f_X8_begin (v1 : Int32) (v2 : Int32) (v3 : Int32) (G : GM) : Option (GM) :=
  ob (f_X8_isSlot v1 G) fun r2 G2 =>
if r2 = 0 then
(some G2)
else
(if v3 < 0 then
(some G2)
else
(if (60 : Int32) < v3 then
(some G2)
else
(gd (inb v1 4) <|
ov (f_J7_fill_d0a16 (64 + v1.toNatClampNeg) (0 : Int64) G2) fun G25 =>
gd (inb v1 4) <| lt (sI G25 68 v1.toNatClampNeg v3) fun G34 =>
gd (inb v1 4) <| lt (sI G34 69 v1.toNatClampNeg v2) fun G41 =>
gd (inb v1 4) <| lt (sI G41 70 v1.toNatClampNeg (vp_nar .boolean (1 : Int32))) fun G48 =>
some G48)))
def f_X8_cut (v0 : Int64) (v2 : Int32) (G : GM) : Option (Int64 × GM) :=
  if v2 = 0 then
(some ((((v0.toInt32).toInt8.toInt32).toInt64), G))
else
if v2 = 1 then
(some ((((v0.toInt32).toInt16.toInt32).toInt64), G))
else
if v2 = 2 then
(some (((v0.toInt32).toInt64), G))
else
(some (v0, G))
def f_X8_put (v1 : Int32) (v2 : Int32) (v3 : Int64) (G : GM) : Option (GM) :=
  ob (f_X8_holds v1 v2 (1 : Int32) G) fun r4 G4 =>
if r4 = 0 then
(some G4)
else
(gd (inb v1 4) <|
gd (inb v1 4) <|
ob (f_X8_cut v3 (gI G4 69 v1.toNatClampNeg) G4) fun r24 G24 =>
gd (inb v2 60) <| lt (sJ G24 (64 + v1.toNatClampNeg) v2.toNatClampNeg r24) fun G27 =>
some G27)
def f_X8_areOfOneWidth (v1 : Int32) (v2 : Int32) (G : GM) : Option (Int32 × GM) :=
  ob (f_X8_isSlot v1 G) fun r2 G2 =>
if r2 = 0 then
(some ((0 : Int32), G2))
else
(ob (f_X8_isSlot v2 G2) fun r10 G10 =>
if r10 = 0 then
(some ((0 : Int32), G10))
else
(gd (inb v1 4) <|
gd (inb v2 4) <|
if (gI G10 69 v1.toNatClampNeg) = (gI G10 69 v2.toNatClampNeg) then
(some ((1 : Int32), G10))
else
(some ((0 : Int32), G10))))
def f_X8_move (v1 : Int32) (v2 : Int32) (v3 : Int32) (v4 : Int32) (v5 : Int32) (G : GM) : Option (GM) :=
  ob (f_X8_holds v1 v2 v5 G) fun r5 G5 =>
if r5 = 0 then
(some G5)
else
(ob (f_X8_holds v3 v4 v5 G5) fun r17 G17 =>
if r17 = 0 then
(some G17)
else
(gd (inb v1 4) <|
gd (inb v3 4) <|
gd (acp v2 v4 v5 60 60) <| lt (cpJ G17 (64 + v1.toNatClampNeg) v2.toNatClampNeg (64 + v3.toNatClampNeg) v4.toNatClampNeg v5.toNatClampNeg) fun G40 =>
some G40))
