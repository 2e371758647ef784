def fX6_isSheet (p0 : Int32) : Option Bool :=
  if p0 < 0 then (some false) else (if (4 : Int32) ≤ p0 then (some false) else (some true))
def fX6_refused (v : kV) (ar : kR) (p1 : Int32) : Option (Int32 × kV × kR) :=
  some (p1, (upd v (1) (0 : Int32)), ar)
def fX6_isLane (p0 : Int32) : Option Bool :=
  if p0 < 0 then (some false) else (if (2 : Int32) < p0 then (some false) else (some true))
def fX4_faultAs (q : Nat) (v : kV) (ar : kR) (p1 : Int32) : Option Int32 :=
  if (v (20+2*q)) = (-1 : Int32) then (some (1 : Int32)) else (if (v (20+2*q)) = p1 then (some (0 : Int32)) else (some (2 : Int32)))
def fX4_has (q : Nat) (v : kV) (ar : kR) (p1 : Int32) (p2 : Int32) : Option Bool :=
  if p1 < 0 then (some false) else (if (v (21+2*q)) < p1 then (some false) else (if p2 < 0 then (some false) else (if ((v (21+2*q)) - p1) < p2 then (some false) else (some true))))
def fX6_failed (v : kV) (ar : kR) (p1 : Int32) : Option (Int32 × kV × kR) :=
  some (((-10 : Int32) - p1), (upd v (1) p1), ar)
def fX0_clear (h : Nat) (v : kV) (ar : kR) : Option (kV × kR) :=
  some ((upd (upd (upd (upd (upd v (2+5*h+0) (0 : Int32)) (2+5*h+1) (0 : Int32)) (2+5*h+2) (0 : Int32)) (2+5*h+3) (0 : Int32)) (2+5*h+4) (1065353216 : Int32)), ar)
def fX5_isNext (v : kV) (ar : kR) (p1 : Int32) : Option Bool :=
  if (v (12)) ≤ (v (13)) then (some false) else (if (v (13)) < 0 ∨ 60 ≤ (v (13)).toNatClampNeg then none else (if (ar (8) (v (13)).toNatClampNeg) = p1 then (some true) else (some false)))
def fX5_takes (v : kV) (ar : kR) (p1 : Int32) : Option (Bool × kV × kR) :=
  kb1 (fX5_isNext v ar p1) fun r2 => (if (bI r2) = 0 then (some (false, v, ar)) else (some (true, (upd v (13) ((v (13)) + (1 : Int32))), ar)))
def fX5_digit (v : kV) (ar : kR) (p1 : Int32) (p2 : Int32) : Option (Int32 × kV × kR) :=
  if (v (13)) < (v (12)) then (if (v (13)) < 0 ∨ 60 ≤ (v (13)).toNatClampNeg then none else (if (ar (8) (v (13)).toNatClampNeg) < ((48 : Int32) + p1) then (some ((-9 : Int32), v, ar)) else (if (ar (8) (v (13)).toNatClampNeg) ≤ ((48 : Int32) + p2) then (some (((ar (8) (v (13)).toNatClampNeg) - (48 : Int32)), (upd v (13) ((v (13)) + (1 : Int32))), ar)) else (some ((-9 : Int32), v, ar))))) else (some ((-9 : Int32), v, ar))
def fX5_readsSide_116 (h : Nat) (p2 : Int32) (s0 : Int32) (s1 : Int32) (v : kV) (ar : kR) : Option (Bool × kV × kR) :=
  some (true, (upd v (2+5*h+3) (s1 ||| s0)), ar)
def fX5_readsSide_95 (h : Nat) (p2 : Int32) (x4 : Int32) (s0 : Int32) (s1 : Int32) (v : kV) (ar : kR) : Option (Bool × kV × kR) :=
  if x4 = 0 then (fX5_readsSide_116 h p2 (0 : Int32) ((upd v (2+5*h+2) (s1 ||| s0)) (2+5*h+3)) (upd v (2+5*h+2) (s1 ||| s0)) ar) else (fX5_readsSide_116 h p2 ((1 : Int32) <<< (p2 &&& 31)) ((upd v (2+5*h+2) (s1 ||| s0)) (2+5*h+3)) (upd v (2+5*h+2) (s1 ||| s0)) ar)
def fX5_readsSide_69 (h : Nat) (p2 : Int32) (x3 : Int32) (x4 : Int32) (v : kV) (ar : kR) : Option (Bool × kV × kR) :=
  if x3 = 0 then (fX5_readsSide_95 h p2 x4 (0 : Int32) ((upd v (13) ((v (13)) + (1 : Int32))) (2+5*h+2)) (upd v (13) ((v (13)) + (1 : Int32))) ar) else (fX5_readsSide_95 h p2 x4 ((1 : Int32) <<< (p2 &&& 31)) ((upd v (13) ((v (13)) + (1 : Int32))) (2+5*h+2)) (upd v (13) ((v (13)) + (1 : Int32))) ar)
def fX5_readsSide_47 (h : Nat) (p2 : Int32) (x3 : Int32) (s0 : Int32) (v : kV) (ar : kR) : Option (Bool × kV × kR) :=
  if x3 = 0 then (if s0 = 0 then (kb1 (fX5_isNext v ar (108 : Int32)) fun r12 => (if (bI r12) = 0 then (some (false, v, ar)) else (fX5_readsSide_69 h p2 x3 s0 v ar))) else (fX5_readsSide_69 h p2 x3 s0 v ar)) else (fX5_readsSide_69 h p2 x3 s0 v ar)
def fX5_readsSide_42 (h : Nat) (p2 : Int32) (x3 : Int32) (v : kV) (ar : kR) : Option (Bool × kV × kR) :=
  fX5_readsSide_47 h p2 x3 (1 : Int32) v ar
def fX5_readsSide_23 (h : Nat) (p2 : Int32) (s0 : Int32) (v : kV) (ar : kR) : Option (Bool × kV × kR) :=
  kb1 (fX5_isNext v ar (76 : Int32)) fun r5 => (if (bI r5) = 0 then (kb1 (fX5_isNext v ar (82 : Int32)) fun r15 => (if (bI r15) = 0 then (fX5_readsSide_47 h p2 s0 (0 : Int32) v ar) else (fX5_readsSide_42 h p2 s0 v ar))) else (fX5_readsSide_42 h p2 s0 v ar))
def fX5_readsSide_18 (h : Nat) (p2 : Int32) (v : kV) (ar : kR) : Option (Bool × kV × kR) :=
  fX5_readsSide_23 h p2 (1 : Int32) v ar
def fX5_readsSide (h : Nat) (v : kV) (ar : kR) (p2 : Int32) : Option (Bool × kV × kR) :=
  kb1 (fX5_isNext v ar (114 : Int32)) fun r2 => (if (bI r2) = 0 then (kb1 (fX5_isNext v ar (82 : Int32)) fun r18 => (if (bI r18) = 0 then (fX5_readsSide_23 h p2 (0 : Int32) v ar) else (fX5_readsSide_18 h p2 v ar))) else (fX5_readsSide_18 h p2 v ar))
def fX0_set (h : Nat) (v : kV) (ar : kR) (p1 : Int32) (p2 : Int32) (p3 : Int32) : Option (kV × kR) :=
  if p1 < 0 ∨ 7 ≤ p1.toNatClampNeg then none else (if p1 < 0 ∨ 7 ≤ p1.toNatClampNeg then none else (if p2 = (1 : Int32) then (if p1 < 0 ∨ 7 ≤ p1.toNatClampNeg then none else (some (v, (va_up (va_up (va_up ar (4*h+0) (upd (ar (4*h+0)) p1.toNatClampNeg p2)) (4*h+1) (upd ((va_up ar (4*h+0) (upd (ar (4*h+0)) p1.toNatClampNeg p2)) (4*h+1)) p1.toNatClampNeg p3)) (4*h+2) (upd ((va_up (va_up ar (4*h+0) (upd (ar (4*h+0)) p1.toNatClampNeg p2)) (4*h+1) (upd ((va_up ar (4*h+0) (upd (ar (4*h+0)) p1.toNatClampNeg p2)) (4*h+1)) p1.toNatClampNeg p3)) (4*h+2)) p1.toNatClampNeg (p3 + (1 : Int32))))))) else (if p2 = (2 : Int32) then (if p1 < 0 ∨ 7 ≤ p1.toNatClampNeg then none else (some (v, (va_up (va_up (va_up ar (4*h+0) (upd (ar (4*h+0)) p1.toNatClampNeg p2)) (4*h+1) (upd ((va_up ar (4*h+0) (upd (ar (4*h+0)) p1.toNatClampNeg p2)) (4*h+1)) p1.toNatClampNeg p3)) (4*h+2) (upd ((va_up (va_up ar (4*h+0) (upd (ar (4*h+0)) p1.toNatClampNeg p2)) (4*h+1) (upd ((va_up ar (4*h+0) (upd (ar (4*h+0)) p1.toNatClampNeg p2)) (4*h+1)) p1.toNatClampNeg p3)) (4*h+2)) p1.toNatClampNeg ((2 : Int32) * p3)))))) else (if p1 < 0 ∨ 7 ≤ p1.toNatClampNeg then none else (some (v, (va_up (va_up (va_up ar (4*h+0) (upd (ar (4*h+0)) p1.toNatClampNeg p2)) (4*h+1) (upd ((va_up ar (4*h+0) (upd (ar (4*h+0)) p1.toNatClampNeg p2)) (4*h+1)) p1.toNatClampNeg p3)) (4*h+2) (upd ((va_up (va_up ar (4*h+0) (upd (ar (4*h+0)) p1.toNatClampNeg p2)) (4*h+1) (upd ((va_up ar (4*h+0) (upd (ar (4*h+0)) p1.toNatClampNeg p2)) (4*h+1)) p1.toNatClampNeg p3)) (4*h+2)) p1.toNatClampNeg p3))))))))
def fX5_readsCell_46 (h : Nat) (x2 : Int32) (s0 : Int32) (v : kV) (ar : kR) : Option (Bool × kV × kR) :=
  if s0 = (-9 : Int32) then (some (false, v, ar)) else (kb3 (fX5_digit v ar (1 : Int32) (9 : Int32)) fun r18 v19 ar20 => (if r18 = (-9 : Int32) then (some (false, v19, ar20)) else (kb3 (fX5_readsSide h v19 ar20 x2) fun r23 v24 ar25 => (if (bI r23) = 0 then (some (false, v24, ar25)) else (kb2 (fX0_set h v24 ar25 x2 s0 r18) fun v29 ar30 => (some (true, (upd v29 (2+5*h+0) (x2 + (1 : Int32))), ar30)))))))
def fX5_readsCell (h : Nat) (v : kV) (ar : kR) : Option (Bool × kV × kR) :=
  kb3 (fX5_takes v ar (112 : Int32)) fun r2 v3 ar4 => (if (bI r2) = 0 then (kb3 (fX5_takes v3 ar4 (98 : Int32)) fun r7 v8 ar9 => (if (bI r7) = 0 then (kb3 (fX5_takes v8 ar9 (100 : Int32)) fun r12 v13 ar14 => (if (bI r12) = 0 then (fX5_readsCell_46 h (v (2+5*h+0)) (-9 : Int32) v13 ar14) else (fX5_readsCell_46 h (v (2+5*h+0)) (2 : Int32) v13 ar14))) else (fX5_readsCell_46 h (v (2+5*h+0)) (1 : Int32) v8 ar9))) else (fX5_readsCell_46 h (v (2+5*h+0)) (0 : Int32) v3 ar4))
def fJ6_bitCount_0f7a4 (p0 : Int32) : Option Int32 :=
  some ((((((((p0 - (((p0.toUInt32 >>> ((1 : Int32).toUInt32 &&& Int32.toUInt32 31)).toInt32) &&& (1431655765 : Int32))) &&& (858993459 : Int32)) + ((((p0 - (((p0.toUInt32 >>> ((1 : Int32).toUInt32 &&& Int32.toUInt32 31)).toInt32) &&& (1431655765 : Int32))).toUInt32 >>> ((2 : Int32).toUInt32 &&& Int32.toUInt32 31)).toInt32) &&& (858993459 : Int32))) + (((((p0 - (((p0.toUInt32 >>> ((1 : Int32).toUInt32 &&& Int32.toUInt32 31)).toInt32) &&& (1431655765 : Int32))) &&& (858993459 : Int32)) + ((((p0 - (((p0.toUInt32 >>> ((1 : Int32).toUInt32 &&& Int32.toUInt32 31)).toInt32) &&& (1431655765 : Int32))).toUInt32 >>> ((2 : Int32).toUInt32 &&& Int32.toUInt32 31)).toInt32) &&& (858993459 : Int32))).toUInt32 >>> ((4 : Int32).toUInt32 &&& Int32.toUInt32 31)).toInt32)) &&& (252645135 : Int32)) + (((((((p0 - (((p0.toUInt32 >>> ((1 : Int32).toUInt32 &&& Int32.toUInt32 31)).toInt32) &&& (1431655765 : Int32))) &&& (858993459 : Int32)) + ((((p0 - (((p0.toUInt32 >>> ((1 : Int32).toUInt32 &&& Int32.toUInt32 31)).toInt32) &&& (1431655765 : Int32))).toUInt32 >>> ((2 : Int32).toUInt32 &&& Int32.toUInt32 31)).toInt32) &&& (858993459 : Int32))) + (((((p0 - (((p0.toUInt32 >>> ((1 : Int32).toUInt32 &&& Int32.toUInt32 31)).toInt32) &&& (1431655765 : Int32))) &&& (858993459 : Int32)) + ((((p0 - (((p0.toUInt32 >>> ((1 : Int32).toUInt32 &&& Int32.toUInt32 31)).toInt32) &&& (1431655765 : Int32))).toUInt32 >>> ((2 : Int32).toUInt32 &&& Int32.toUInt32 31)).toInt32) &&& (858993459 : Int32))).toUInt32 >>> ((4 : Int32).toUInt32 &&& Int32.toUInt32 31)).toInt32)) &&& (252645135 : Int32)).toUInt32 >>> ((8 : Int32).toUInt32 &&& Int32.toUInt32 31)).toInt32)) + ((((((((p0 - (((p0.toUInt32 >>> ((1 : Int32).toUInt32 &&& Int32.toUInt32 31)).toInt32) &&& (1431655765 : Int32))) &&& (858993459 : Int32)) + ((((p0 - (((p0.toUInt32 >>> ((1 : Int32).toUInt32 &&& Int32.toUInt32 31)).toInt32) &&& (1431655765 : Int32))).toUInt32 >>> ((2 : Int32).toUInt32 &&& Int32.toUInt32 31)).toInt32) &&& (858993459 : Int32))) + (((((p0 - (((p0.toUInt32 >>> ((1 : Int32).toUInt32 &&& Int32.toUInt32 31)).toInt32) &&& (1431655765 : Int32))) &&& (858993459 : Int32)) + ((((p0 - (((p0.toUInt32 >>> ((1 : Int32).toUInt32 &&& Int32.toUInt32 31)).toInt32) &&& (1431655765 : Int32))).toUInt32 >>> ((2 : Int32).toUInt32 &&& Int32.toUInt32 31)).toInt32) &&& (858993459 : Int32))).toUInt32 >>> ((4 : Int32).toUInt32 &&& Int32.toUInt32 31)).toInt32)) &&& (252645135 : Int32)) + (((((((p0 - (((p0.toUInt32 >>> ((1 : Int32).toUInt32 &&& Int32.toUInt32 31)).toInt32) &&& (1431655765 : Int32))) &&& (858993459 : Int32)) + ((((p0 - (((p0.toUInt32 >>> ((1 : Int32).toUInt32 &&& Int32.toUInt32 31)).toInt32) &&& (1431655765 : Int32))).toUInt32 >>> ((2 : Int32).toUInt32 &&& Int32.toUInt32 31)).toInt32) &&& (858993459 : Int32))) + (((((p0 - (((p0.toUInt32 >>> ((1 : Int32).toUInt32 &&& Int32.toUInt32 31)).toInt32) &&& (1431655765 : Int32))) &&& (858993459 : Int32)) + ((((p0 - (((p0.toUInt32 >>> ((1 : Int32).toUInt32 &&& Int32.toUInt32 31)).toInt32) &&& (1431655765 : Int32))).toUInt32 >>> ((2 : Int32).toUInt32 &&& Int32.toUInt32 31)).toInt32) &&& (858993459 : Int32))).toUInt32 >>> ((4 : Int32).toUInt32 &&& Int32.toUInt32 31)).toInt32)) &&& (252645135 : Int32)).toUInt32 >>> ((8 : Int32).toUInt32 &&& Int32.toUInt32 31)).toInt32)).toUInt32 >>> ((16 : Int32).toUInt32 &&& Int32.toUInt32 31)).toInt32)) &&& (63 : Int32))
def fX5_readsNet_68 (h : Nat) (x2 : Int32) (v : kV) (ar : kR) : Option (Bool × kV × kR) :=
  kb1 (fJ6_bitCount_0f7a4 x2) fun r3 => (if (2 : Int32) ≤ r3 then (if (v (2+5*h+1)) < 0 ∨ 6 ≤ (v (2+5*h+1)).toNatClampNeg then none else (some (true, (upd v (2+5*h+1) ((v (2+5*h+1)) + (1 : Int32))), (va_up ar (4*h+3) (upd (ar (4*h+3)) (v (2+5*h+1)).toNatClampNeg x2))))) else (some (false, v, ar)))
def fX5_readsNet_4b (h : Nat) (rec4 : Int32 → Int32 → kV → kR → Option (Bool × kV × kR)) (x2 : Int32) (x3 : Int32) (v : kV) (ar : kR) : Option (Bool × kV × kR) :=
  if (4 : Int32) ≤ x3 then (fX5_readsNet_68 h x2 v ar) else (kb3 (fX5_digit v ar (0 : Int32) ((v (2+5*h+0)) - (1 : Int32))) fun r7 v8 ar9 => (if r7 = (-9 : Int32) then (fX5_readsNet_68 h x2 v8 ar9) else (if ((x2 >>> (r7 &&& 31)) &&& (1 : Int32)) = (1 : Int32) then (fX5_readsNet_68 h x2 (upd v8 (13) ((v8 (13)) - (1 : Int32))) ar9) else (rec4 (x2 ||| ((1 : Int32) <<< (r7 &&& 31))) (x3 + (1 : Int32)) v8 ar9))))
def fX5_readsNet_4 (h : Nat) : Nat → Int32 → Int32 → kV → kR → Option (Bool × kV × kR)
  | 0 => fun _ _ _ _ => none
  | n + 1 => fX5_readsNet_4b h (fX5_readsNet_4 h n)
def fX5_readsNet (h : Nat) (v : kV) (ar : kR) : Option (Bool × kV × kR) :=
  fX5_readsNet_4 h 300 (0 : Int32) (0 : Int32) v ar
def fX5_isRead_130 (q : Nat) (h : Nat) (p2 : Int32) (p3 : Int32) (v : kV) (ar : kR) : Option (Bool × kV × kR) :=
  if (v (13)) = (v (12)) then (some (true, v, ar)) else (some (false, v, ar))
def fX5_isRead_97b (q : Nat) (h : Nat) (p2 : Int32) (p3 : Int32) (rec97 : Int32 → kV → kR → Option (Bool × kV × kR)) (x5 : Int32) (v : kV) (ar : kR) : Option (Bool × kV × kR) :=
  if (6 : Int32) ≤ x5 then (fX5_isRead_130 q h p2 p3 v ar) else (kb3 (fX5_takes v ar (44 : Int32)) fun r25 v26 ar27 => (if (bI r25) = 0 then (fX5_isRead_130 q h p2 p3 v26 ar27) else (kb3 (fX5_readsNet h v26 ar27) fun r30 v31 ar32 => (if (bI r30) = 0 then (some (false, v31, ar32)) else (rec97 (x5 + (1 : Int32)) v31 ar32)))))
def fX5_isRead_97 (q : Nat) (h : Nat) (p2 : Int32) (p3 : Int32) : Nat → Int32 → kV → kR → Option (Bool × kV × kR)
  | 0 => fun _ _ _ => none
  | n + 1 => fX5_isRead_97b q h p2 p3 (fX5_isRead_97 q h p2 p3 n)
def fX5_isRead_94 (q : Nat) (h : Nat) (p2 : Int32) (p3 : Int32) (v : kV) (ar : kR) : Option (Bool × kV × kR) :=
  fX5_isRead_97 q h p2 p3 300 (0 : Int32) v ar
def fX5_isRead_61b (q : Nat) (h : Nat) (p2 : Int32) (p3 : Int32) (rec61 : Int32 → kV → kR → Option (Bool × kV × kR)) (x5 : Int32) (v : kV) (ar : kR) : Option (Bool × kV × kR) :=
  if (7 : Int32) ≤ x5 then (fX5_isRead_94 q h p2 p3 v ar) else (kb3 (fX5_takes v ar (59 : Int32)) fun r35 v36 ar37 => (if (bI r35) = 0 then (fX5_isRead_94 q h p2 p3 v36 ar37) else (kb3 (fX5_readsCell h v36 ar37) fun r40 v41 ar42 => (if (bI r40) = 0 then (some (false, v41, ar42)) else (rec61 (x5 + (1 : Int32)) v41 ar42)))))
def fX5_isRead_61 (q : Nat) (h : Nat) (p2 : Int32) (p3 : Int32) : Nat → Int32 → kV → kR → Option (Bool × kV × kR)
  | 0 => fun _ _ _ => none
  | n + 1 => fX5_isRead_61b q h p2 p3 (fX5_isRead_61 q h p2 p3 n)
def fX5_isRead (q : Nat) (h : Nat) (v : kV) (ar : kR) (p2 : Int32) (p3 : Int32) : Option (Bool × kV × kR) :=
  if p2 < 0 ∨ (0 : Int32) < 0 ∨ p3 < 0 ∨ 60 < p2.toNatClampNeg + p3.toNatClampNeg ∨ 60 < (0 : Int32).toNatClampNeg + p3.toNatClampNeg then none else (kb2 (fX0_clear h (upd (upd v (12) p3) (13) (0 : Int32)) (va_up ar (8) (va_cpy (ar (13+q)) (ar (8)) p2.toNatClampNeg (0 : Int32).toNatClampNeg p3.toNatClampNeg))) fun v4 ar5 => (kb3 (fX5_takes v4 ar5 (104 : Int32)) fun r7 v8 ar9 => (if (bI r7) = 0 then (some (false, v8, ar9)) else (kb3 (fX5_takes v8 ar9 (59 : Int32)) fun r12 v13 ar14 => (if (bI r12) = 0 then (some (false, v13, ar14)) else (kb3 (fX5_readsCell h v13 ar14) fun r17 v18 ar19 => (if (bI r17) = 0 then (some (false, v18, ar19)) else (fX5_isRead_61 q h p2 p3 300 (1 : Int32) v18 ar19))))))))
def fX0_become (h : Nat) (g : Nat) (v : kV) (ar : kR) : Option (kV × kR) :=
  if (0 : Int32) < 0 ∨ (0 : Int32) < 0 ∨ (7 : Int32) < 0 ∨ 7 < (0 : Int32).toNatClampNeg + (7 : Int32).toNatClampNeg ∨ 7 < (0 : Int32).toNatClampNeg + (7 : Int32).toNatClampNeg then none else (if (0 : Int32) < 0 ∨ (0 : Int32) < 0 ∨ (7 : Int32) < 0 ∨ 7 < (0 : Int32).toNatClampNeg + (7 : Int32).toNatClampNeg ∨ 7 < (0 : Int32).toNatClampNeg + (7 : Int32).toNatClampNeg then none else (if (0 : Int32) < 0 ∨ (0 : Int32) < 0 ∨ (7 : Int32) < 0 ∨ 7 < (0 : Int32).toNatClampNeg + (7 : Int32).toNatClampNeg ∨ 7 < (0 : Int32).toNatClampNeg + (7 : Int32).toNatClampNeg then none else (if (0 : Int32) < 0 ∨ (0 : Int32) < 0 ∨ (6 : Int32) < 0 ∨ 6 < (0 : Int32).toNatClampNeg + (6 : Int32).toNatClampNeg ∨ 6 < (0 : Int32).toNatClampNeg + (6 : Int32).toNatClampNeg then none else (some ((upd (upd (upd (upd (upd v (2+5*h+0) (v (2+5*g+0))) (2+5*h+1) ((upd v (2+5*h+0) (v (2+5*g+0))) (2+5*g+1))) (2+5*h+2) ((upd (upd v (2+5*h+0) (v (2+5*g+0))) (2+5*h+1) ((upd v (2+5*h+0) (v (2+5*g+0))) (2+5*g+1))) (2+5*g+2))) (2+5*h+3) ((upd (upd (upd v (2+5*h+0) (v (2+5*g+0))) (2+5*h+1) ((upd v (2+5*h+0) (v (2+5*g+0))) (2+5*g+1))) (2+5*h+2) ((upd (upd v (2+5*h+0) (v (2+5*g+0))) (2+5*h+1) ((upd v (2+5*h+0) (v (2+5*g+0))) (2+5*g+1))) (2+5*g+2))) (2+5*g+3))) (2+5*h+4) ((upd (upd (upd (upd v (2+5*h+0) (v (2+5*g+0))) (2+5*h+1) ((upd v (2+5*h+0) (v (2+5*g+0))) (2+5*g+1))) (2+5*h+2) ((upd (upd v (2+5*h+0) (v (2+5*g+0))) (2+5*h+1) ((upd v (2+5*h+0) (v (2+5*g+0))) (2+5*g+1))) (2+5*g+2))) (2+5*h+3) ((upd (upd (upd v (2+5*h+0) (v (2+5*g+0))) (2+5*h+1) ((upd v (2+5*h+0) (v (2+5*g+0))) (2+5*g+1))) (2+5*h+2) ((upd (upd v (2+5*h+0) (v (2+5*g+0))) (2+5*h+1) ((upd v (2+5*h+0) (v (2+5*g+0))) (2+5*g+1))) (2+5*g+2))) (2+5*g+3))) (2+5*g+4))), (va_up (va_up (va_up (va_up ar (4*h+0) (va_cpy (ar (4*g+0)) (ar (4*h+0)) (0 : Int32).toNatClampNeg (0 : Int32).toNatClampNeg (7 : Int32).toNatClampNeg)) (4*h+1) (va_cpy ((va_up ar (4*h+0) (va_cpy (ar (4*g+0)) (ar (4*h+0)) (0 : Int32).toNatClampNeg (0 : Int32).toNatClampNeg (7 : Int32).toNatClampNeg)) (4*g+1)) ((va_up ar (4*h+0) (va_cpy (ar (4*g+0)) (ar (4*h+0)) (0 : Int32).toNatClampNeg (0 : Int32).toNatClampNeg (7 : Int32).toNatClampNeg)) (4*h+1)) (0 : Int32).toNatClampNeg (0 : Int32).toNatClampNeg (7 : Int32).toNatClampNeg)) (4*h+2) (va_cpy ((va_up (va_up ar (4*h+0) (va_cpy (ar (4*g+0)) (ar (4*h+0)) (0 : Int32).toNatClampNeg (0 : Int32).toNatClampNeg (7 : Int32).toNatClampNeg)) (4*h+1) (va_cpy ((va_up ar (4*h+0) (va_cpy (ar (4*g+0)) (ar (4*h+0)) (0 : Int32).toNatClampNeg (0 : Int32).toNatClampNeg (7 : Int32).toNatClampNeg)) (4*g+1)) ((va_up ar (4*h+0) (va_cpy (ar (4*g+0)) (ar (4*h+0)) (0 : Int32).toNatClampNeg (0 : Int32).toNatClampNeg (7 : Int32).toNatClampNeg)) (4*h+1)) (0 : Int32).toNatClampNeg (0 : Int32).toNatClampNeg (7 : Int32).toNatClampNeg)) (4*g+2)) ((va_up (va_up ar (4*h+0) (va_cpy (ar (4*g+0)) (ar (4*h+0)) (0 : Int32).toNatClampNeg (0 : Int32).toNatClampNeg (7 : Int32).toNatClampNeg)) (4*h+1) (va_cpy ((va_up ar (4*h+0) (va_cpy (ar (4*g+0)) (ar (4*h+0)) (0 : Int32).toNatClampNeg (0 : Int32).toNatClampNeg (7 : Int32).toNatClampNeg)) (4*g+1)) ((va_up ar (4*h+0) (va_cpy (ar (4*g+0)) (ar (4*h+0)) (0 : Int32).toNatClampNeg (0 : Int32).toNatClampNeg (7 : Int32).toNatClampNeg)) (4*h+1)) (0 : Int32).toNatClampNeg (0 : Int32).toNatClampNeg (7 : Int32).toNatClampNeg)) (4*h+2)) (0 : Int32).toNatClampNeg (0 : Int32).toNatClampNeg (7 : Int32).toNatClampNeg)) (4*h+3) (va_cpy ((va_up (va_up (va_up ar (4*h+0) (va_cpy (ar (4*g+0)) (ar (4*h+0)) (0 : Int32).toNatClampNeg (0 : Int32).toNatClampNeg (7 : Int32).toNatClampNeg)) (4*h+1) (va_cpy ((va_up ar (4*h+0) (va_cpy (ar (4*g+0)) (ar (4*h+0)) (0 : Int32).toNatClampNeg (0 : Int32).toNatClampNeg (7 : Int32).toNatClampNeg)) (4*g+1)) ((va_up ar (4*h+0) (va_cpy (ar (4*g+0)) (ar (4*h+0)) (0 : Int32).toNatClampNeg (0 : Int32).toNatClampNeg (7 : Int32).toNatClampNeg)) (4*h+1)) (0 : Int32).toNatClampNeg (0 : Int32).toNatClampNeg (7 : Int32).toNatClampNeg)) (4*h+2) (va_cpy ((va_up (va_up ar (4*h+0) (va_cpy (ar (4*g+0)) (ar (4*h+0)) (0 : Int32).toNatClampNeg (0 : Int32).toNatClampNeg (7 : Int32).toNatClampNeg)) (4*h+1) (va_cpy ((va_up ar (4*h+0) (va_cpy (ar (4*g+0)) (ar (4*h+0)) (0 : Int32).toNatClampNeg (0 : Int32).toNatClampNeg (7 : Int32).toNatClampNeg)) (4*g+1)) ((va_up ar (4*h+0) (va_cpy (ar (4*g+0)) (ar (4*h+0)) (0 : Int32).toNatClampNeg (0 : Int32).toNatClampNeg (7 : Int32).toNatClampNeg)) (4*h+1)) (0 : Int32).toNatClampNeg (0 : Int32).toNatClampNeg (7 : Int32).toNatClampNeg)) (4*g+2)) ((va_up (va_up ar (4*h+0) (va_cpy (ar (4*g+0)) (ar (4*h+0)) (0 : Int32).toNatClampNeg (0 : Int32).toNatClampNeg (7 : Int32).toNatClampNeg)) (4*h+1) (va_cpy ((va_up ar (4*h+0) (va_cpy (ar (4*g+0)) (ar (4*h+0)) (0 : Int32).toNatClampNeg (0 : Int32).toNatClampNeg (7 : Int32).toNatClampNeg)) (4*g+1)) ((va_up ar (4*h+0) (va_cpy (ar (4*g+0)) (ar (4*h+0)) (0 : Int32).toNatClampNeg (0 : Int32).toNatClampNeg (7 : Int32).toNatClampNeg)) (4*h+1)) (0 : Int32).toNatClampNeg (0 : Int32).toNatClampNeg (7 : Int32).toNatClampNeg)) (4*h+2)) (0 : Int32).toNatClampNeg (0 : Int32).toNatClampNeg (7 : Int32).toNatClampNeg)) (4*g+3)) ((va_up (va_up (va_up ar (4*h+0) (va_cpy (ar (4*g+0)) (ar (4*h+0)) (0 : Int32).toNatClampNeg (0 : Int32).toNatClampNeg (7 : Int32).toNatClampNeg)) (4*h+1) (va_cpy ((va_up ar (4*h+0) (va_cpy (ar (4*g+0)) (ar (4*h+0)) (0 : Int32).toNatClampNeg (0 : Int32).toNatClampNeg (7 : Int32).toNatClampNeg)) (4*g+1)) ((va_up ar (4*h+0) (va_cpy (ar (4*g+0)) (ar (4*h+0)) (0 : Int32).toNatClampNeg (0 : Int32).toNatClampNeg (7 : Int32).toNatClampNeg)) (4*h+1)) (0 : Int32).toNatClampNeg (0 : Int32).toNatClampNeg (7 : Int32).toNatClampNeg)) (4*h+2) (va_cpy ((va_up (va_up ar (4*h+0) (va_cpy (ar (4*g+0)) (ar (4*h+0)) (0 : Int32).toNatClampNeg (0 : Int32).toNatClampNeg (7 : Int32).toNatClampNeg)) (4*h+1) (va_cpy ((va_up ar (4*h+0) (va_cpy (ar (4*g+0)) (ar (4*h+0)) (0 : Int32).toNatClampNeg (0 : Int32).toNatClampNeg (7 : Int32).toNatClampNeg)) (4*g+1)) ((va_up ar (4*h+0) (va_cpy (ar (4*g+0)) (ar (4*h+0)) (0 : Int32).toNatClampNeg (0 : Int32).toNatClampNeg (7 : Int32).toNatClampNeg)) (4*h+1)) (0 : Int32).toNatClampNeg (0 : Int32).toNatClampNeg (7 : Int32).toNatClampNeg)) (4*g+2)) ((va_up (va_up ar (4*h+0) (va_cpy (ar (4*g+0)) (ar (4*h+0)) (0 : Int32).toNatClampNeg (0 : Int32).toNatClampNeg (7 : Int32).toNatClampNeg)) (4*h+1) (va_cpy ((va_up ar (4*h+0) (va_cpy (ar (4*g+0)) (ar (4*h+0)) (0 : Int32).toNatClampNeg (0 : Int32).toNatClampNeg (7 : Int32).toNatClampNeg)) (4*g+1)) ((va_up ar (4*h+0) (va_cpy (ar (4*g+0)) (ar (4*h+0)) (0 : Int32).toNatClampNeg (0 : Int32).toNatClampNeg (7 : Int32).toNatClampNeg)) (4*h+1)) (0 : Int32).toNatClampNeg (0 : Int32).toNatClampNeg (7 : Int32).toNatClampNeg)) (4*h+2)) (0 : Int32).toNatClampNeg (0 : Int32).toNatClampNeg (7 : Int32).toNatClampNeg)) (4*h+3)) (0 : Int32).toNatClampNeg (0 : Int32).toNatClampNeg (6 : Int32).toNatClampNeg)))))))
def fX6_circuit_75 (p1 : Int32) (p2 : Int32) (p3 : Int32) (p4 : Int32) (x6 : Int32) (v : kV) (ar : kR) : Option (Int32 × kV × kR) :=
  if x6 = 0 then (kb3 (fX5_isRead p1.toNatClampNeg 1 (upd v (1) (0 : Int32)) ar p3 p4) fun r15 v16 ar17 => (if (bI r15) = 0 then (some (((-100 : Int32) - (v16 (13))), v16, ar17)) else (kb2 (fX0_become 0 1 v16 ar17) fun v21 ar22 => (some (((upd (upd v21 (16) (0 : Int32)) (19) (0 : Int32)) (2+5*0+0)), (upd (upd v21 (16) (0 : Int32)) (19) (0 : Int32)), ar22))))) else (kb3 (fX6_failed v ar x6) fun r24 v25 ar26 => (some (r24, v25, ar26)))
def fX6_circuit_56 (p1 : Int32) (p2 : Int32) (p3 : Int32) (p4 : Int32) (x6 : Int32) (v : kV) (ar : kR) : Option (Int32 × kV × kR) :=
  if x6 = 0 then (kb1 (fX4_has p1.toNatClampNeg v ar p3 p4) fun r28 => (if (bI r28) = 0 then (fX6_circuit_75 p1 p2 p3 p4 (3 : Int32) v ar) else (fX6_circuit_75 p1 p2 p3 p4 x6 v ar))) else (fX6_circuit_75 p1 p2 p3 p4 x6 v ar)
def fX6_circuit (v : kV) (ar : kR) (p1 : Int32) (p2 : Int32) (p3 : Int32) (p4 : Int32) : Option (Int32 × kV × kR) :=
  kb1 (fX6_isSheet p1) fun r2 => (if (bI r2) = 0 then (kb3 (fX6_refused v ar (-1 : Int32)) fun r36 v37 ar38 => (some (r36, v37, ar38))) else (kb1 (fX6_isLane p2) fun r5 => (if (bI r5) = 0 then (kb3 (fX6_refused v ar (-2 : Int32)) fun r32 v33 ar34 => (some (r32, v33, ar34))) else (if p1 < 0 ∨ 4 ≤ p1.toNatClampNeg then none else (kb1 (fX4_faultAs p1.toNatClampNeg v ar p2) fun r10 => (if r10 = 0 then (if 0 ≤ p4 then (fX6_circuit_56 p1 p2 p3 p4 r10 v ar) else (fX6_circuit_56 p1 p2 p3 p4 (4 : Int32) v ar)) else (fX6_circuit_56 p1 p2 p3 p4 r10 v ar)))))))
def fX6_isCell (v : kV) (ar : kR) (p1 : Int32) : Option Bool :=
  if p1 < 0 then (some false) else (if (v (2+5*0+0)) ≤ p1 then (some false) else (some true))
def fX0_sideOf (h : Nat) (v : kV) (ar : kR) (p1 : Int32) : Option Int32 :=
  some (((v (2+5*h+2)) >>> (p1 &&& 31)) &&& (1 : Int32))
def fX0_isFixed (h : Nat) (v : kV) (ar : kR) (p1 : Int32) : Option Bool :=
  if (((v (2+5*h+3)) >>> (p1 &&& 31)) &&& (1 : Int32)) = (1 : Int32) then (some true) else (some false)
def fX0_netsOf_32 (h : Nat) (v : kV) (ar : kR) (p1 : Int32) (rec4 : Int32 → Int32 → Option Int32) (x2 : Int32) (x3 : Int32) : Option Int32 :=
  rec4 x2 (x3 + (1 : Int32))
def fX0_netsOf_4b (h : Nat) (v : kV) (ar : kR) (p1 : Int32) (rec4 : Int32 → Int32 → Option Int32) (x2 : Int32) (x3 : Int32) : Option Int32 :=
  if (v (2+5*h+1)) ≤ x3 then (some x2) else (if x3 < 0 ∨ 6 ≤ x3.toNatClampNeg then none else (if (((ar (4*h+3) x3.toNatClampNeg) >>> (p1 &&& 31)) &&& (1 : Int32)) = (1 : Int32) then (fX0_netsOf_32 h v ar p1 rec4 (x2 ||| ((1 : Int32) <<< (x3 &&& 31))) x3) else (fX0_netsOf_32 h v ar p1 rec4 x2 x3)))
def fX0_netsOf_4 (h : Nat) (v : kV) (ar : kR) (p1 : Int32) : Nat → Int32 → Int32 → Option Int32
  | 0 => fun _ _ => none
  | n + 1 => fX0_netsOf_4b h v ar p1 (fX0_netsOf_4 h v ar p1 n)
def fX0_netsOf (h : Nat) (v : kV) (ar : kR) (p1 : Int32) : Option Int32 :=
  fX0_netsOf_4 h v ar p1 300 (0 : Int32) (0 : Int32)
def fX6_isCutBy (p0 : Int32) (p1 : Int32) : Option Bool :=
  if (p0 &&& p1) = 0 then (some false) else (if (p0 &&& p1) = p0 then (some false) else (some true))
def fX0_cutsBy_28 (h : Nat) (v : kV) (ar : kR) (p1 : Int32) (rec4 : Int32 → Int32 → Option Int32) (x2 : Int32) (x3 : Int32) : Option Int32 :=
  rec4 x2 (x3 + (1 : Int32))
def fX0_cutsBy_4b (h : Nat) (v : kV) (ar : kR) (p1 : Int32) (rec4 : Int32 → Int32 → Option Int32) (x2 : Int32) (x3 : Int32) : Option Int32 :=
  if (v (2+5*h+1)) ≤ x3 then (some x2) else (if x3 < 0 ∨ 6 ≤ x3.toNatClampNeg then none else (kb1 (fX6_isCutBy (ar (4*h+3) x3.toNatClampNeg) p1) fun r4 => (if (bI r4) = 0 then (fX0_cutsBy_28 h v ar p1 rec4 x2 x3) else (fX0_cutsBy_28 h v ar p1 rec4 (x2 + (1 : Int32)) x3))))
def fX0_cutsBy_4 (h : Nat) (v : kV) (ar : kR) (p1 : Int32) : Nat → Int32 → Int32 → Option Int32
  | 0 => fun _ _ => none
  | n + 1 => fX0_cutsBy_4b h v ar p1 (fX0_cutsBy_4 h v ar p1 n)
def fX0_cutsBy (h : Nat) (v : kV) (ar : kR) (p1 : Int32) : Option Int32 :=
  fX0_cutsBy_4 h v ar p1 300 (0 : Int32) (0 : Int32)
def fX0_gain (h : Nat) (v : kV) (ar : kR) (p1 : Int32) : Option Int32 :=
  kb1 (fX0_cutsBy h v ar (v (2+5*h+2))) fun r2 => (kb1 (fX0_cutsBy h v ar ((v (2+5*h+2)) ^^^ ((1 : Int32) <<< (p1 &&& 31)))) fun r4 => (some (r2 - r4)))
def fX0_weightOf_30 (h : Nat) (v : kV) (ar : kR) (p1 : Int32) (rec4 : Int32 → Int32 → Option Int32) (x2 : Int32) (x3 : Int32) : Option Int32 :=
  rec4 x2 (x3 + (1 : Int32))
def fX0_weightOf_4b (h : Nat) (v : kV) (ar : kR) (p1 : Int32) (rec4 : Int32 → Int32 → Option Int32) (x2 : Int32) (x3 : Int32) : Option Int32 :=
  if (v (2+5*h+0)) ≤ x3 then (some x2) else (if ((p1 >>> (x3 &&& 31)) &&& (1 : Int32)) = (1 : Int32) then (if x3 < 0 ∨ 7 ≤ x3.toNatClampNeg then none else (fX0_weightOf_30 h v ar p1 rec4 (x2 + (ar (4*h+2) x3.toNatClampNeg)) x3)) else (fX0_weightOf_30 h v ar p1 rec4 x2 x3))
def fX0_weightOf_4 (h : Nat) (v : kV) (ar : kR) (p1 : Int32) : Nat → Int32 → Int32 → Option Int32
  | 0 => fun _ _ => none
  | n + 1 => fX0_weightOf_4b h v ar p1 (fX0_weightOf_4 h v ar p1 n)
def fX0_weightOf (h : Nat) (v : kV) (ar : kR) (p1 : Int32) : Option Int32 :=
  fX0_weightOf_4 h v ar p1 300 (0 : Int32) (0 : Int32)
def fX0_all (h : Nat) (v : kV) (ar : kR) : Option Int32 :=
  some (((1 : Int32) <<< ((v (2+5*h+0)) &&& 31)) - (1 : Int32))
def fX6_floatBits_103 (p0 : Int32) (p1 : Int32) (x4 : Int32) (x5 : Int64) : Option Int32 :=
  some (((((x4 - (1 : Int32)).toInt64) <<< ((23 : Int32).toInt64 &&& 63)) + x5).toInt32)
def fX6_floatBits_97 (p0 : Int32) (p1 : Int32) (x4 : Int32) (x5 : Int64) : Option Int32 :=
  fX6_floatBits_103 p0 p1 x4 (x5 + (1 : Int64))
def fX6_floatBits_49 (p0 : Int32) (p1 : Int32) (x2 : Int64) (x4 : Int32) : Option Int32 :=
  if (p1.toInt64) = 0 then none else (if (p1.toInt64) = 0 then none else (if 0 < (lg_cmp ((2 : Int64) * ((x2 <<< ((23 : Int32).toInt64 &&& 63)) - (x2 <<< ((23 : Int32).toInt64 &&& 63)) / (p1.toInt64) * (p1.toInt64))) (p1.toInt64)) then (fX6_floatBits_97 p0 p1 x4 ((x2 <<< ((23 : Int32).toInt64 &&& 63)) / (p1.toInt64))) else (if (lg_cmp ((2 : Int64) * ((x2 <<< ((23 : Int32).toInt64 &&& 63)) - (x2 <<< ((23 : Int32).toInt64 &&& 63)) / (p1.toInt64) * (p1.toInt64))) (p1.toInt64)) = 0 then (if (2 : Int64) = 0 then none else (if (lg_cmp (((x2 <<< ((23 : Int32).toInt64 &&& 63)) / (p1.toInt64)) - ((x2 <<< ((23 : Int32).toInt64 &&& 63)) / (p1.toInt64)) / (2 : Int64) * (2 : Int64)) (1 : Int64)) = 0 then (fX6_floatBits_97 p0 p1 x4 ((x2 <<< ((23 : Int32).toInt64 &&& 63)) / (p1.toInt64))) else (fX6_floatBits_103 p0 p1 x4 ((x2 <<< ((23 : Int32).toInt64 &&& 63)) / (p1.toInt64))))) else (fX6_floatBits_103 p0 p1 x4 ((x2 <<< ((23 : Int32).toInt64 &&& 63)) / (p1.toInt64))))))
def fX6_floatBits_20b (p0 : Int32) (p1 : Int32) (rec20 : Int64 → Int32 → Int32 → Option Int32) (x2 : Int64) (x4 : Int32) (x5 : Int32) : Option Int32 :=
  if (31 : Int32) ≤ x5 then (fX6_floatBits_49 p0 p1 x2 x4) else (if 0 ≤ (lg_cmp x2 (p1.toInt64)) then (fX6_floatBits_49 p0 p1 x2 x4) else (rec20 (x2 * (2 : Int64)) (x4 + (-1 : Int32)) (x5 + (1 : Int32))))
def fX6_floatBits_20 (p0 : Int32) (p1 : Int32) : Nat → Int64 → Int32 → Int32 → Option Int32
  | 0 => fun _ _ _ => none
  | n + 1 => fX6_floatBits_20b p0 p1 (fX6_floatBits_20 p0 p1 n)
def fX6_floatBits (p0 : Int32) (p1 : Int32) : Option Int32 :=
  if p0 ≤ 0 then (some (0 : Int32)) else (if 0 < p1 then (fX6_floatBits_20 p0 p1 300 (p0.toInt64) (127 : Int32) (0 : Int32)) else (some (0 : Int32)))
def fX0_shareOf (h : Nat) (v : kV) (ar : kR) (p1 : Int32) : Option Int32 :=
  kb1 (fX0_weightOf h v ar p1) fun r2 => (kb1 (fX0_all h v ar) fun r4 => (kb1 (fX0_weightOf h v ar r4) fun r6 => (kb1 (fX6_floatBits r2 r6) fun r8 => (some r8))))
def fX6_ofCell (v : kV) (ar : kR) (p1 : Int32) (p2 : Int32) : Option Int32 :=
  kb1 (fX6_isCell v ar p1) fun r2 => (if (bI r2) = 0 then (some (-1 : Int32)) else (if p2 = (0 : Int32) then (if p1 < 0 ∨ 7 ≤ p1.toNatClampNeg then none else (some (ar (4*0+0) p1.toNatClampNeg))) else (if p2 = (1 : Int32) then (if p1 < 0 ∨ 7 ≤ p1.toNatClampNeg then none else (some (ar (4*0+1) p1.toNatClampNeg))) else (if p2 = (2 : Int32) then (if p1 < 0 ∨ 7 ≤ p1.toNatClampNeg then none else (some (ar (4*0+2) p1.toNatClampNeg))) else (if p2 = (3 : Int32) then (kb1 (fX0_sideOf 0 v ar p1) fun r12 => (some r12)) else (if p2 = (4 : Int32) then (kb1 (fX0_isFixed 0 v ar p1) fun r15 => (if (bI r15) = 0 then (some (0 : Int32)) else (some (1 : Int32)))) else (if p2 = (5 : Int32) then (kb1 (fX0_netsOf 0 v ar p1) fun r19 => (some r19)) else (if p2 = (6 : Int32) then (kb1 (fX0_gain 0 v ar p1) fun r22 => (some (r22 + (10 : Int32)))) else (if p2 = (7 : Int32) then (kb1 (fX0_shareOf 0 v ar ((1 : Int32) <<< (p1 &&& 31))) fun r25 => (some r25)) else (some (-2 : Int32)))))))))))
def fX6_ofNet (v : kV) (ar : kR) (p1 : Int32) (p2 : Int32) : Option Int32 :=
  if p1 < 0 then (some (-1 : Int32)) else (if p1 < (v (2+5*0+1)) then (if p2 = (0 : Int32) then (if p1 < 0 ∨ 6 ≤ p1.toNatClampNeg then none else (some (ar (4*0+3) p1.toNatClampNeg))) else (if p2 = (1 : Int32) then (if p1 < 0 ∨ 6 ≤ p1.toNatClampNeg then none else (some ((ar (4*0+3) p1.toNatClampNeg) &&& (v (2+5*0+2))))) else (if p2 = (2 : Int32) then (if p1 < 0 ∨ 6 ≤ p1.toNatClampNeg then none else (kb1 (fX6_isCutBy (ar (4*0+3) p1.toNatClampNeg) (v (2+5*0+2))) fun r10 => (if (bI r10) = 0 then (some (0 : Int32)) else (some (1 : Int32))))) else (some (-2 : Int32))))) else (some (-1 : Int32)))
def fX6_noCircuit (v : kV) (ar : kR) : Option Bool :=
  if (v (2+5*0+0)) = 0 then (some true) else (some false)
def fX0_left (h : Nat) (v : kV) (ar : kR) : Option Int32 :=
  kb1 (fX0_all h v ar) fun r2 => (some (r2 &&& ((v (2+5*h+2)) ^^^ (-1 : Int32))))
def fX0_isWithin (h : Nat) (v : kV) (ar : kR) (p1 : Int32) : Option Bool :=
  kb1 (fX0_shareOf h v ar p1) fun r2 => (if (v (2+5*h+4)) < r2 then (some false) else (some true))
def fX6_ofSide_43 (v : kV) (ar : kR) (p1 : Int32) (p2 : Int32) (s0 : Int32) : Option Int32 :=
  if p2 = (0 : Int32) then (some s0) else (if p2 = (1 : Int32) then (kb1 (fX0_weightOf 0 v ar s0) fun r10 => (some r10)) else (if p2 = (2 : Int32) then (kb1 (fX0_shareOf 0 v ar s0) fun r13 => (some r13)) else (if p2 = (3 : Int32) then (kb1 (fX0_isWithin 0 v ar s0) fun r16 => (if (bI r16) = 0 then (some (0 : Int32)) else (some (1 : Int32)))) else (some (-2 : Int32)))))
def fX6_ofSide (v : kV) (ar : kR) (p1 : Int32) (p2 : Int32) : Option Int32 :=
  kb1 (fX6_noCircuit v ar) fun r2 => (if (bI r2) = 0 then (if p1 < 0 then (some (-2 : Int32)) else (if p1 ≤ (1 : Int32) then (if p1 = 0 then (kb1 (fX0_left 0 v ar) fun r19 => (fX6_ofSide_43 v ar p1 p2 r19)) else (fX6_ofSide_43 v ar p1 p2 (v (2+5*0+2)))) else (some (-2 : Int32)))) else (some (-3 : Int32)))
def fX6_isBulk (p0 : Int32) : Option Bool :=
  if p0 < (1 : Int32) then (some false) else (if (9 : Int32) < p0 then (some false) else (some true))
def fX6_bulk (v : kV) (ar : kR) (p1 : Int32) (p2 : Int32) : Option (Int32 × kV × kR) :=
  kb1 (fX6_isCell v ar p1) fun r2 => (if (bI r2) = 0 then (some ((-1 : Int32), v, ar)) else (kb1 (fX6_isBulk p2) fun r5 => (if (bI r5) = 0 then (some ((-2 : Int32), v, ar)) else (if p1 < 0 ∨ 7 ≤ p1.toNatClampNeg then none else (if p1 < 0 ∨ 7 ≤ p1.toNatClampNeg then none else (kb2 (fX0_set 0 v ar p1 (ar (4*0+0) p1.toNatClampNeg) p2) fun v11 ar12 => (some ((ar (4*0+1) p1.toNatClampNeg), v11, ar12))))))))
def fX6_bound (v : kV) (ar : kR) (p1 : Int32) : Option (Int32 × kV × kR) :=
  kb1 (fX6_noCircuit v ar) fun r2 => (if (bI r2) = 0 then (if p1 < (1056964608 : Int32) then (some ((-2 : Int32), v, ar)) else (if p1 ≤ (1065353216 : Int32) then (some ((v (2+5*0+4)), (upd v (2+5*0+4) p1), ar)) else (some ((-2 : Int32), v, ar)))) else (some ((-3 : Int32), v, ar)))
def fX0_flip (h : Nat) (v : kV) (ar : kR) (p1 : Int32) : Option (kV × kR) :=
  some ((upd v (2+5*h+2) ((v (2+5*h+2)) ^^^ ((1 : Int32) <<< (p1 &&& 31)))), ar)
def fX0_cuts (h : Nat) (v : kV) (ar : kR) : Option Int32 :=
  kb1 (fX0_cutsBy h v ar (v (2+5*h+2))) fun r2 => (some r2)
def fX6_move (v : kV) (ar : kR) (p1 : Int32) : Option (Int32 × kV × kR) :=
  kb1 (fX6_isCell v ar p1) fun r2 => (if (bI r2) = 0 then (some ((-1 : Int32), v, ar)) else (kb1 (fX0_isFixed 0 v ar p1) fun r5 => (if (bI r5) = 0 then (kb2 (fX0_flip 0 v ar p1) fun v9 ar10 => (kb1 (fX0_cuts 0 v9 ar10) fun r12 => (some (r12, v9, ar10)))) else (some ((-3 : Int32), v, ar)))))
def fX6_isManner (p0 : Int32) : Option Bool :=
  if p0 < 0 then (some false) else (if (2 : Int32) < p0 then (some false) else (some true))
def fX0_isWithinAfterMove_19 (h : Nat) (v : kV) (ar : kR) (p1 : Int32) (s0 : Int32) : Option Bool :=
  kb1 (fX0_shareOf h v ar (s0 ||| ((1 : Int32) <<< (p1 &&& 31)))) fun r7 => (if (v (2+5*h+4)) < r7 then (some false) else (some true))
def fX0_isWithinAfterMove (h : Nat) (v : kV) (ar : kR) (p1 : Int32) : Option Bool :=
  kb1 (fX0_sideOf h v ar p1) fun r2 => (if r2 = 0 then (fX0_isWithinAfterMove_19 h v ar p1 (v (2+5*h+2))) else (kb1 (fX0_left h v ar) fun r5 => (fX0_isWithinAfterMove_19 h v ar p1 r5)))
def fX1_isBetter (p0 : Int32) (p1 : Int32) (p2 : Int32) (p3 : Int32) (p4 : Int32) : Option Bool :=
  if p0 = (2 : Int32) then (if (p1 * p4) ≤ (p3 * p2) then (some false) else (some true)) else (if p1 = p3 then (if p0 = (1 : Int32) then (if p2 ≤ p4 then (some false) else (some true)) else (some false)) else (if p1 ≤ p3 then (some false) else (some true)))
def fX1_bestCell_85 (h : Nat) (v : kV) (ar : kR) (p1 : Int32) (p2 : Int32) (rec9 : Int32 → Int32 → Int32 → Option Int32) (x3 : Int32) (x4 : Int32) (x5 : Int32) : Option Int32 :=
  rec9 x3 x4 (x5 + (1 : Int32))
def fX1_bestCell_78 (h : Nat) (v : kV) (ar : kR) (p1 : Int32) (p2 : Int32) (rec9 : Int32 → Int32 → Int32 → Option Int32) (x5 : Int32) (x6 : Int32) : Option Int32 :=
  fX1_bestCell_85 h v ar p1 p2 rec9 x5 x6 x5
def fX1_bestCell_9b (h : Nat) (v : kV) (ar : kR) (p1 : Int32) (p2 : Int32) (rec9 : Int32 → Int32 → Int32 → Option Int32) (x3 : Int32) (x4 : Int32) (x5 : Int32) : Option Int32 :=
  if (v (2+5*h+0)) ≤ x5 then (some x3) else (if ((p2 >>> (x5 &&& 31)) &&& (1 : Int32)) = (1 : Int32) then (fX1_bestCell_85 h v ar p1 p2 rec9 x3 x4 x5) else (kb1 (fX0_isWithinAfterMove h v ar x5) fun r4 => (if (bI r4) = 0 then (fX1_bestCell_85 h v ar p1 p2 rec9 x3 x4 x5) else (kb1 (fX0_gain h v ar x5) fun r7 => (if x3 = (-9 : Int32) then (fX1_bestCell_78 h v ar p1 p2 rec9 x5 r7) else (if x5 < 0 ∨ 7 ≤ x5.toNatClampNeg then none else (if x3 < 0 ∨ 7 ≤ x3.toNatClampNeg then none else (kb1 (fX1_isBetter p1 r7 (ar (4*h+2) x5.toNatClampNeg) x4 (ar (4*h+2) x3.toNatClampNeg)) fun r12 => (if (bI r12) = 0 then (fX1_bestCell_85 h v ar p1 p2 rec9 x3 x4 x5) else (fX1_bestCell_78 h v ar p1 p2 rec9 x5 r7))))))))))
def fX1_bestCell_9 (h : Nat) (v : kV) (ar : kR) (p1 : Int32) (p2 : Int32) : Nat → Int32 → Int32 → Int32 → Option Int32
  | 0 => fun _ _ _ => none
  | n + 1 => fX1_bestCell_9b h v ar p1 p2 (fX1_bestCell_9 h v ar p1 p2 n)
def fX1_bestCell (h : Nat) (v : kV) (ar : kR) (p1 : Int32) (p2 : Int32) : Option Int32 :=
  fX1_bestCell_9 h v ar p1 p2 300 (-9 : Int32) (0 : Int32) (0 : Int32)
def fX1_run_126 (h : Nat) (p2 : Int32) (x5 : Int32) (v : kV) (ar : kR) : Option (kV × kR) :=
  some ((upd v (2+5*h+2) x5), ar)
def fX1_run_120 (h : Nat) (p2 : Int32) (rec30 : Int32 → Int32 → Int32 → Int32 → kV → kR → Option (kV × kR)) (x3 : Int32) (x4 : Int32) (x5 : Int32) (x6 : Int32) (v : kV) (ar : kR) : Option (kV × kR) :=
  rec30 x3 x4 x5 (x6 + (1 : Int32)) v ar
def fX1_run_30b (h : Nat) (p2 : Int32) (rec30 : Int32 → Int32 → Int32 → Int32 → kV → kR → Option (kV × kR)) (x3 : Int32) (x4 : Int32) (x5 : Int32) (x6 : Int32) (v : kV) (ar : kR) : Option (kV × kR) :=
  if (v (2+5*h+0)) ≤ x6 then (fX1_run_126 h p2 x5 v ar) else (kb1 (fX1_bestCell h v ar p2 x3) fun r5 => (if r5 = (-9 : Int32) then (fX1_run_126 h p2 x5 v ar) else (kb2 (fX0_flip h v ar r5) fun v9 ar10 => (if (v9 (14)) < 0 ∨ 7 ≤ (v9 (14)).toNatClampNeg then none else (kb1 (fX0_cuts h (upd v9 (14) ((v9 (14)) + (1 : Int32))) (va_up ar10 (9) (upd (ar10 (9)) (v9 (14)).toNatClampNeg r5))) fun r13 => (if x4 ≤ r13 then (fX1_run_120 h p2 rec30 (x3 ||| ((1 : Int32) <<< (r5 &&& 31))) x4 x5 x6 (upd v9 (14) ((v9 (14)) + (1 : Int32))) (va_up ar10 (9) (upd (ar10 (9)) (v9 (14)).toNatClampNeg r5))) else (kb1 (fX0_cuts h (upd v9 (14) ((v9 (14)) + (1 : Int32))) (va_up ar10 (9) (upd (ar10 (9)) (v9 (14)).toNatClampNeg r5))) fun r16 => (fX1_run_120 h p2 rec30 (x3 ||| ((1 : Int32) <<< (r5 &&& 31))) r16 ((upd v9 (14) ((v9 (14)) + (1 : Int32))) (2+5*h+2)) x6 (upd (upd v9 (14) ((v9 (14)) + (1 : Int32))) (15) ((upd v9 (14) ((v9 (14)) + (1 : Int32))) (14))) (va_up ar10 (9) (upd (ar10 (9)) (v9 (14)).toNatClampNeg r5))))))))))
def fX1_run_30 (h : Nat) (p2 : Int32) : Nat → Int32 → Int32 → Int32 → Int32 → kV → kR → Option (kV × kR)
  | 0 => fun _ _ _ _ _ _ => none
  | n + 1 => fX1_run_30b h p2 (fX1_run_30 h p2 n)
def fX1_run (h : Nat) (v : kV) (ar : kR) (p2 : Int32) : Option (kV × kR) :=
  kb1 (fX0_cuts h (upd (upd v (14) (0 : Int32)) (15) (0 : Int32)) ar) fun r2 => (fX1_run_30 h p2 300 ((upd (upd v (14) (0 : Int32)) (15) (0 : Int32)) (2+5*h+3)) r2 ((upd (upd v (14) (0 : Int32)) (15) (0 : Int32)) (2+5*h+2)) (0 : Int32) (upd (upd v (14) (0 : Int32)) (15) (0 : Int32)) ar)
def fX6_pass (v : kV) (ar : kR) (p1 : Int32) : Option (Int32 × kV × kR) :=
  kb1 (fX6_noCircuit v ar) fun r2 => (if (bI r2) = 0 then (kb1 (fX6_isManner p1) fun r5 => (if (bI r5) = 0 then (some ((-2 : Int32), v, ar)) else (kb2 (fX1_run 0 v ar p1) fun v9 ar10 => (some ((v9 (15)), v9, ar10))))) else (some ((-3 : Int32), v, ar)))
def fX6_isAsked_21 (p0 : Int32) (p1 : Int32) : Option Bool :=
  some true
def fX6_isAsked_9 (p0 : Int32) (p1 : Int32) : Option Bool :=
  if p0 < (10 : Int32) then (some false) else (if (17 : Int32) ≤ p0 then (some false) else (fX6_isAsked_21 p0 p1))
def fX6_isAsked (p0 : Int32) (p1 : Int32) : Option Bool :=
  if p0 < 0 then (fX6_isAsked_9 p0 p1) else (if p0 ≤ p1 then (fX6_isAsked_21 p0 p1) else (fX6_isAsked_9 p0 p1))
def fX1_movedAt (v : kV) (ar : kR) (p1 : Int32) : Option Int32 :=
  if p1 < 0 then (some (-9 : Int32)) else (if (v (14)) ≤ p1 then (some (-9 : Int32)) else (if p1 < 0 ∨ 7 ≤ p1.toNatClampNeg then none else (some (ar (9) p1.toNatClampNeg))))
def fX6_tries (v : kV) (ar : kR) (p1 : Int32) (p2 : Int32) : Option (Int32 × kV × kR) :=
  kb1 (fX6_noCircuit v ar) fun r2 => (if (bI r2) = 0 then (kb1 (fX6_isManner p1) fun r5 => (if (bI r5) = 0 then (some ((-2 : Int32), v, ar)) else (kb1 (fX6_isAsked p2 (2 : Int32)) fun r8 => (if (bI r8) = 0 then (some ((-2 : Int32), v, ar)) else (kb2 (fX0_become 1 0 v ar) fun v12 ar13 => (kb2 (fX1_run 1 v12 ar13 p1) fun v16 ar17 => (if p2 = (0 : Int32) then (some ((v16 (14)), v16, ar17)) else (if p2 = (1 : Int32) then (some ((v16 (15)), v16, ar17)) else (if p2 = (2 : Int32) then (kb1 (fX0_cuts 1 v16 ar17) fun r22 => (some (r22, v16, ar17))) else (kb1 (fX1_movedAt v16 ar17 (p2 - (10 : Int32))) fun r24 => (some (r24, v16, ar17)))))))))))) else (some ((-3 : Int32), v, ar)))
def fX6_settle_75 (p1 : Int32) (rec24 : Int32 → Int32 → kV → kR → Option (Int32 × kV × kR)) (x2 : Int32) (s0 : Int32) (v : kV) (ar : kR) : Option (Int32 × kV × kR) :=
  rec24 x2 s0 v ar
def fX6_settle_24b (p1 : Int32) (rec24 : Int32 → Int32 → kV → kR → Option (Int32 × kV × kR)) (x2 : Int32) (x3 : Int32) (v : kV) (ar : kR) : Option (Int32 × kV × kR) :=
  if x3 = 0 then (if (6 : Int32) < x2 then (some (x2, v, ar)) else (kb1 (fX0_cuts 0 v ar) fun r10 => (kb2 (fX1_run 0 v ar p1) fun v13 ar14 => (kb1 (fX0_cuts 0 v13 ar14) fun r16 => (if r16 = r10 then (fX6_settle_75 p1 rec24 (x2 + (1 : Int32)) (1 : Int32) v13 ar14) else (fX6_settle_75 p1 rec24 (x2 + (1 : Int32)) (0 : Int32) v13 ar14)))))) else (some (x2, v, ar))
def fX6_settle_24 (p1 : Int32) : Nat → Int32 → Int32 → kV → kR → Option (Int32 × kV × kR)
  | 0 => fun _ _ _ _ => none
  | n + 1 => fX6_settle_24b p1 (fX6_settle_24 p1 n)
def fX6_settle (v : kV) (ar : kR) (p1 : Int32) : Option (Int32 × kV × kR) :=
  kb1 (fX6_noCircuit v ar) fun r2 => (if (bI r2) = 0 then (kb1 (fX6_isManner p1) fun r5 => (if (bI r5) = 0 then (some ((-2 : Int32), v, ar)) else (fX6_settle_24 p1 300 (0 : Int32) (0 : Int32) v ar))) else (some ((-3 : Int32), v, ar)))
def fX6_isAct_28 (p0 : Int32) (p1 : Int32) : Option Bool :=
  if p1 < 0 then (some false) else (if (7 : Int32) ≤ p1 then (some false) else (if p0 = 0 then (some true) else (some false)))
def fX6_isAct (p0 : Int32) (p1 : Int32) : Option Bool :=
  if p1 = (20 : Int32) then (kb1 (fX6_isManner p0) fun r10 => (some r10)) else (if p1 < (10 : Int32) then (fX6_isAct_28 p0 p1) else (if (17 : Int32) ≤ p1 then (fX6_isAct_28 p0 p1) else (kb1 (fX6_isBulk p0) fun r8 => (some r8))))
def fX6_areActs_2b (q : Nat) (v : kV) (ar : kR) (p1 : Int32) (p2 : Int32) (rec2 : Int32 → Option Bool) (x3 : Int32) : Option Bool :=
  if p2 ≤ x3 then (some true) else (if (p1 + ((2 : Int32) * x3)) < 0 ∨ 60 ≤ (p1 + ((2 : Int32) * x3)).toNatClampNeg then none else (if ((p1 + ((2 : Int32) * x3)) + (1 : Int32)) < 0 ∨ 60 ≤ ((p1 + ((2 : Int32) * x3)) + (1 : Int32)).toNatClampNeg then none else (kb1 (fX6_isAct (ar (13+q) (p1 + ((2 : Int32) * x3)).toNatClampNeg) (ar (13+q) ((p1 + ((2 : Int32) * x3)) + (1 : Int32)).toNatClampNeg)) fun r5 => (if (bI r5) = 0 then (some false) else (rec2 (x3 + (1 : Int32)))))))
def fX6_areActs_2 (q : Nat) (v : kV) (ar : kR) (p1 : Int32) (p2 : Int32) : Nat → Int32 → Option Bool
  | 0 => fun _ => none
  | n + 1 => fX6_areActs_2b q v ar p1 p2 (fX6_areActs_2 q v ar p1 p2 n)
def fX6_areActs (q : Nat) (v : kV) (ar : kR) (p1 : Int32) (p2 : Int32) : Option Bool :=
  fX6_areActs_2 q v ar p1 p2 300 (0 : Int32)
def fX6_isDone_56 (p1 : Int32) (p2 : Int32) (x3 : Int32) (x4 : Int32) (v : kV) (ar : kR) : Option (Bool × kV × kR) :=
  if x3 = 0 then (if x4 < 0 ∨ 7 ≤ x4.toNatClampNeg then none else (kb2 (fX0_set 1 v ar x4 (ar (4*1+0) x4.toNatClampNeg) p1) fun v9 ar10 => (some (true, v9, ar10)))) else (kb2 (fX0_flip 1 v ar x4) fun v13 ar14 => (some (true, v13, ar14)))
def fX6_isDone_24 (p1 : Int32) (p2 : Int32) (x3 : Int32) (s0 : Int32) (v : kV) (ar : kR) : Option (Bool × kV × kR) :=
  if (v (2+5*1+0)) ≤ s0 then (some (false, v, ar)) else (if x3 = 0 then (fX6_isDone_56 p1 p2 x3 s0 v ar) else (kb1 (fX0_isFixed 1 v ar s0) fun r16 => (if (bI r16) = 0 then (fX6_isDone_56 p1 p2 x3 s0 v ar) else (some (false, v, ar)))))
def fX6_isDone_11 (p1 : Int32) (p2 : Int32) (s0 : Int32) (v : kV) (ar : kR) : Option (Bool × kV × kR) :=
  if s0 = 0 then (fX6_isDone_24 p1 p2 s0 (p2 - (10 : Int32)) v ar) else (fX6_isDone_24 p1 p2 s0 p2 v ar)
def fX6_isDone (v : kV) (ar : kR) (p1 : Int32) (p2 : Int32) : Option (Bool × kV × kR) :=
  if (10 : Int32) ≤ p2 then (fX6_isDone_11 p1 p2 (0 : Int32) v ar) else (fX6_isDone_11 p1 p2 (1 : Int32) v ar)
def fX6_firstWrong_85 (q : Nat) (p2 : Int32) (p3 : Int32) (rec14 : Int32 → kV → kR → Option (Int32 × kV × kR)) (x4 : Int32) (v : kV) (ar : kR) : Option (Int32 × kV × kR) :=
  rec14 (x4 + (1 : Int32)) v ar
def fX6_firstWrong_14b (q : Nat) (p2 : Int32) (p3 : Int32) (rec14 : Int32 → kV → kR → Option (Int32 × kV × kR)) (x4 : Int32) (v : kV) (ar : kR) : Option (Int32 × kV × kR) :=
  if p3 ≤ x4 then (some ((-9 : Int32), v, ar)) else (if (p2 + ((2 : Int32) * x4)) < 0 ∨ 60 ≤ (p2 + ((2 : Int32) * x4)).toNatClampNeg then none else (if ((p2 + ((2 : Int32) * x4)) + (1 : Int32)) < 0 ∨ 60 ≤ ((p2 + ((2 : Int32) * x4)) + (1 : Int32)).toNatClampNeg then none else (if (ar (13+q) ((p2 + ((2 : Int32) * x4)) + (1 : Int32)).toNatClampNeg) = (20 : Int32) then (kb2 (fX1_run 1 v ar (ar (13+q) (p2 + ((2 : Int32) * x4)).toNatClampNeg)) fun v16 ar17 => (fX6_firstWrong_85 q p2 p3 rec14 x4 v16 ar17)) else (kb3 (fX6_isDone v ar (ar (13+q) (p2 + ((2 : Int32) * x4)).toNatClampNeg) (ar (13+q) ((p2 + ((2 : Int32) * x4)) + (1 : Int32)).toNatClampNeg)) fun r10 v11 ar12 => (if (bI r10) = 0 then (some (x4, v11, ar12)) else (fX6_firstWrong_85 q p2 p3 rec14 x4 v11 ar12))))))
def fX6_firstWrong_14 (q : Nat) (p2 : Int32) (p3 : Int32) : Nat → Int32 → kV → kR → Option (Int32 × kV × kR)
  | 0 => fun _ _ _ => none
  | n + 1 => fX6_firstWrong_14b q p2 p3 (fX6_firstWrong_14 q p2 p3 n)
def fX6_firstWrong (q : Nat) (v : kV) (ar : kR) (p2 : Int32) (p3 : Int32) : Option (Int32 × kV × kR) :=
  kb2 (fX0_become 1 0 v ar) fun v3 ar4 => (fX6_firstWrong_14 q p2 p3 300 (0 : Int32) v3 ar4)
def fX6_afterDay (v : kV) (ar : kR) (p1 : Int32) : Option Int32 :=
  if p1 = (0 : Int32) then (kb1 (fX0_cuts 1 v ar) fun r3 => (some r3)) else (if p1 = (1 : Int32) then (kb1 (fX6_isCell v ar (p1 - (10 : Int32))) fun r6 => (if (bI r6) = 0 then (some (-9 : Int32)) else (kb1 (fX0_gain 1 v ar (p1 - (10 : Int32))) fun r9 => (some (r9 + (10 : Int32)))))) else (if p1 = (2 : Int32) then (some (v (2+5*1+2))) else (if p1 = (3 : Int32) then (kb1 (fX0_left 1 v ar) fun r13 => (kb1 (fX0_weightOf 1 v ar r13) fun r15 => (some r15))) else (if p1 = (4 : Int32) then (kb1 (fX0_left 1 v ar) fun r18 => (kb1 (fX0_shareOf 1 v ar r18) fun r20 => (some r20))) else (kb1 (fX6_isCell v ar (p1 - (10 : Int32))) fun r22 => (if (bI r22) = 0 then (some (-9 : Int32)) else (kb1 (fX0_gain 1 v ar (p1 - (10 : Int32))) fun r25 => (some (r25 + (10 : Int32))))))))))
def fX6_day_41 (p1 : Int32) (p2 : Int32) (p3 : Int32) (p4 : Int32) (p5 : Int32) (v : kV) (ar : kR) : Option (Int32 × kV × kR) :=
  kb3 (fX6_refused v ar (-2 : Int32)) fun r8 v9 ar10 => (some (r8, v9, ar10))
def fX6_day_85 (p1 : Int32) (p2 : Int32) (p3 : Int32) (p4 : Int32) (p5 : Int32) (x7 : Int32) (v : kV) (ar : kR) : Option (Int32 × kV × kR) :=
  if x7 = 0 then (kb1 (fX6_noCircuit v ar) fun r23 => (if (bI r23) = 0 then (kb1 (fX6_areActs p1.toNatClampNeg v ar p3 p4) fun r26 => (if (bI r26) = 0 then (kb3 (fX6_refused v ar (-2 : Int32)) fun r37 v38 ar39 => (some (r37, v38, ar39))) else (kb3 (fX6_firstWrong p1.toNatClampNeg (upd v (1) (0 : Int32)) ar p3 p4) fun r29 v30 ar31 => (if p5 = (1 : Int32) then (some (r29, v30, ar31)) else (if r29 = (-9 : Int32) then (kb1 (fX6_afterDay v30 ar31 p5) fun r35 => (some (r35, v30, ar31))) else (some (((-100 : Int32) - r29), v30, ar31))))))) else (kb3 (fX6_refused v ar (-3 : Int32)) fun r41 v42 ar43 => (some (r41, v42, ar43))))) else (kb3 (fX6_failed v ar x7) fun r45 v46 ar47 => (some (r45, v46, ar47)))
def fX6_day (v : kV) (ar : kR) (p1 : Int32) (p2 : Int32) (p3 : Int32) (p4 : Int32) (p5 : Int32) : Option (Int32 × kV × kR) :=
  kb1 (fX6_isSheet p1) fun r2 => (if (bI r2) = 0 then (kb3 (fX6_refused v ar (-1 : Int32)) fun r52 v53 ar54 => (some (r52, v53, ar54))) else (kb1 (fX6_isLane p2) fun r5 => (if (bI r5) = 0 then (fX6_day_41 p1 p2 p3 p4 p5 v ar) else (if p4 < 0 then (fX6_day_41 p1 p2 p3 p4 p5 v ar) else (if (20 : Int32) < p4 then (fX6_day_41 p1 p2 p3 p4 p5 v ar) else (kb1 (fX6_isAsked p5 (4 : Int32)) fun r14 => (if (bI r14) = 0 then (fX6_day_41 p1 p2 p3 p4 p5 v ar) else (if p1 < 0 ∨ 4 ≤ p1.toNatClampNeg then none else (kb1 (fX4_faultAs p1.toNatClampNeg v ar p2) fun r19 => (if r19 = 0 then (kb1 (fX4_has p1.toNatClampNeg v ar p3 ((2 : Int32) * p4)) fun r49 => (if (bI r49) = 0 then (fX6_day_85 p1 p2 p3 p4 p5 (3 : Int32) v ar) else (fX6_day_85 p1 p2 p3 p4 p5 r19 v ar))) else (fX6_day_85 p1 p2 p3 p4 p5 r19 v ar)))))))))))
def fX0_keepsFixed (h : Nat) (v : kV) (ar : kR) (p1 : Int32) : Option Bool :=
  if (p1 &&& (v (2+5*h+3))) = ((v (2+5*h+2)) &&& (v (2+5*h+3))) then (some true) else (some false)
def fX0_leastCut_64 (h : Nat) (v : kV) (ar : kR) (rec8 : Int32 → Int32 → Int32 → Option Int32) (x1 : Int32) (x2 : Int32) (x3 : Int32) : Option Int32 :=
  rec8 x1 x2 (x3 + (1 : Int32))
def fX0_leastCut_8b (h : Nat) (v : kV) (ar : kR) (rec8 : Int32 → Int32 → Int32 → Option Int32) (x1 : Int32) (x2 : Int32) (x3 : Int32) : Option Int32 :=
  kb1 (fX0_all h v ar) fun r2 => (if r2 < x3 then (some x1) else (kb1 (fX0_keepsFixed h v ar x3) fun r5 => (if (bI r5) = 0 then (fX0_leastCut_64 h v ar rec8 x1 x2 x3) else (kb1 (fX0_cutsBy h v ar x3) fun r8 => (if x2 ≤ r8 then (fX0_leastCut_64 h v ar rec8 x1 x2 x3) else (kb1 (fX0_isWithin h v ar x3) fun r11 => (if (bI r11) = 0 then (fX0_leastCut_64 h v ar rec8 x1 x2 x3) else (kb1 (fX0_all h v ar) fun r14 => (kb1 (fX0_isWithin h v ar (r14 &&& (x3 ^^^ (-1 : Int32)))) fun r16 => (if (bI r16) = 0 then (fX0_leastCut_64 h v ar rec8 x1 x2 x3) else (kb1 (fX0_cutsBy h v ar x3) fun r19 => (fX0_leastCut_64 h v ar rec8 x3 r19 x3))))))))))))
def fX0_leastCut_8 (h : Nat) (v : kV) (ar : kR) : Nat → Int32 → Int32 → Int32 → Option Int32
  | 0 => fun _ _ _ => none
  | n + 1 => fX0_leastCut_8b h v ar (fX0_leastCut_8 h v ar n)
def fX0_leastCut (h : Nat) (v : kV) (ar : kR) : Option Int32 :=
  fX0_leastCut_8 h v ar 300 (-9 : Int32) (7 : Int32) (0 : Int32)
def fX6_least (v : kV) (ar : kR) (p1 : Int32) : Option Int32 :=
  kb1 (fX6_noCircuit v ar) fun r2 => (if (bI r2) = 0 then (if p1 < 0 then (some (-2 : Int32)) else (if p1 ≤ (1 : Int32) then (kb1 (fX0_leastCut 0 v ar) fun r7 => (if r7 = (-9 : Int32) then (some r7) else (if p1 = (1 : Int32) then (some r7) else (kb1 (fX0_cutsBy 0 v ar r7) fun r11 => (some r11))))) else (some (-2 : Int32)))) else (some (-3 : Int32)))
def fX6_apart_74 (v : kV) (ar : kR) (p1 : Int32) (p2 : Int32) (rec29 : Int32 → Int32 → Option Int32) (x3 : Int32) (x4 : Int32) : Option Int32 :=
  rec29 x3 (x4 + (1 : Int32))
def fX6_apart_29b (v : kV) (ar : kR) (p1 : Int32) (p2 : Int32) (rec29 : Int32 → Int32 → Option Int32) (x3 : Int32) (x4 : Int32) : Option Int32 :=
  kb1 (fX0_all 0 v ar) fun r9 => (if r9 < x4 then (some x3) else (if ((x4 >>> (p1 &&& 31)) &&& (1 : Int32)) = 0 then (if ((x4 >>> (p2 &&& 31)) &&& (1 : Int32)) = (1 : Int32) then (kb1 (fX0_cutsBy 0 v ar x4) fun r14 => (fX6_apart_74 v ar p1 p2 rec29 (if r14 < x3 then r14 else x3) x4)) else (fX6_apart_74 v ar p1 p2 rec29 x3 x4)) else (fX6_apart_74 v ar p1 p2 rec29 x3 x4)))
def fX6_apart_29 (v : kV) (ar : kR) (p1 : Int32) (p2 : Int32) : Nat → Int32 → Int32 → Option Int32
  | 0 => fun _ _ => none
  | n + 1 => fX6_apart_29b v ar p1 p2 (fX6_apart_29 v ar p1 p2 n)
def fX6_apart (v : kV) (ar : kR) (p1 : Int32) (p2 : Int32) : Option Int32 :=
  kb1 (fX6_isCell v ar p1) fun r2 => (if (bI r2) = 0 then (some (-1 : Int32)) else (kb1 (fX6_isCell v ar p2) fun r5 => (if (bI r5) = 0 then (some (-1 : Int32)) else (if p1 = p2 then (some (-1 : Int32)) else (fX6_apart_29 v ar p1 p2 300 (6 : Int32) (0 : Int32))))))
def fX6_closest_106 (v : kV) (ar : kR) (p1 : Int32) (rec36 : Int32 → Int32 → Int32 → Int32 → Option Int32) (rec54 : Int32 → Int32 → Int32 → Int32 → Int32 → Option Int32) (x2 : Int32) (x3 : Int32) (x4 : Int32) (x5 : Int32) (x6 : Int32) : Option Int32 :=
  rec54 x2 x3 x4 x5 (x6 + (1 : Int32))
def fX6_closest_54b (v : kV) (ar : kR) (p1 : Int32) (rec36 : Int32 → Int32 → Int32 → Int32 → Option Int32) (rec54 : Int32 → Int32 → Int32 → Int32 → Int32 → Option Int32) (x2 : Int32) (x3 : Int32) (x4 : Int32) (x5 : Int32) (x6 : Int32) : Option Int32 :=
  if (v (2+5*0+0)) ≤ x6 then (rec36 x2 x3 x4 (x5 + (1 : Int32))) else (kb1 (fX0_netsOf 0 v ar x5) fun r9 => (kb1 (fX0_netsOf 0 v ar x6) fun r11 => (kb1 (fJ6_bitCount_0f7a4 (r9 &&& r11)) fun r13 => (if r13 ≤ x2 then (fX6_closest_106 v ar p1 rec36 rec54 x2 x3 x4 x5 x6) else (fX6_closest_106 v ar p1 rec36 rec54 r13 x5 x6 x5 x6)))))
def fX6_closest_54 (v : kV) (ar : kR) (p1 : Int32) (rec36 : Int32 → Int32 → Int32 → Int32 → Option Int32) : Nat → Int32 → Int32 → Int32 → Int32 → Int32 → Option Int32
  | 0 => fun _ _ _ _ _ => none
  | n + 1 => fX6_closest_54b v ar p1 rec36 (fX6_closest_54 v ar p1 rec36 n)
def fX6_closest_36b (v : kV) (ar : kR) (p1 : Int32) (rec36 : Int32 → Int32 → Int32 → Int32 → Option Int32) (x2 : Int32) (x3 : Int32) (x4 : Int32) (x5 : Int32) : Option Int32 :=
  if (v (2+5*0+0)) ≤ x5 then (if p1 = 0 then (some x2) else (if p1 = (1 : Int32) then (some x3) else (some x4))) else (fX6_closest_54 v ar p1 rec36 300 x2 x3 x4 x5 (x5 + (1 : Int32)))
def fX6_closest_36 (v : kV) (ar : kR) (p1 : Int32) : Nat → Int32 → Int32 → Int32 → Int32 → Option Int32
  | 0 => fun _ _ _ _ => none
  | n + 1 => fX6_closest_36b v ar p1 (fX6_closest_36 v ar p1 n)
def fX6_closest (v : kV) (ar : kR) (p1 : Int32) : Option Int32 :=
  if (2 : Int32) ≤ (v (2+5*0+0)) then (if p1 < 0 then (some (-2 : Int32)) else (if p1 ≤ (2 : Int32) then (fX6_closest_36 v ar p1 300 (-1 : Int32) (0 : Int32) (0 : Int32) (0 : Int32)) else (some (-2 : Int32)))) else (some (-3 : Int32))
def fX6_isKind (p0 : Int32) : Option Bool :=
  if p0 < 0 then (some false) else (if (2 : Int32) < p0 then (some false) else (some true))
def fJ7_fill_53178_5b (k : Nat) (p1 : Int32) (rec5 : Int32 → Int32 → kV → kR → Option (kV × kR)) (x2 : Int32) (x3 : Int32) (v : kV) (ar : kR) : Option (kV × kR) :=
  if x3 ≤ x2 then (some (v, ar)) else (if x2 < 0 ∨ xLen k ≤ x2.toNatClampNeg then none else (rec5 (x2 + (1 : Int32)) x3 v (va_up ar (k) (upd (ar (k)) x2.toNatClampNeg p1))))
def fJ7_fill_53178_5 (k : Nat) (p1 : Int32) : Nat → Int32 → Int32 → kV → kR → Option (kV × kR)
  | 0 => fun _ _ _ _ => none
  | n + 1 => fJ7_fill_53178_5b k p1 (fJ7_fill_53178_5 k p1 n)
def fJ7_fill_53178 (k : Nat) (v : kV) (ar : kR) (p1 : Int32) : Option (kV × kR) :=
  fJ7_fill_53178_5 k p1 300 (0 : Int32) (Int32.ofNat (xLen k)) v ar
def fX2_renew (v : kV) (ar : kR) (p1 : Int32) (p2 : Int32) : Option (kV × kR) :=
  kb2 (fJ7_fill_53178 10 (upd (upd (upd v (16) (1 : Int32)) (17) p1) (18) p2) ar (-9 : Int32)) fun v3 ar4 => (some (v3, ar4))
def fX6_rack_27 (p1 : Int32) (p2 : Int32) (v : kV) (ar : kR) : Option (Int32 × kV × kR) :=
  kb3 (fX6_refused v ar (-2 : Int32)) fun r8 v9 ar10 => (some (r8, v9, ar10))
def fX6_rack (v : kV) (ar : kR) (p1 : Int32) (p2 : Int32) : Option (Int32 × kV × kR) :=
  kb1 (fX6_noCircuit v ar) fun r2 => (if (bI r2) = 0 then (kb1 (fX6_isKind p1) fun r5 => (if (bI r5) = 0 then (fX6_rack_27 p1 p2 v ar) else (if p2 ≤ (9 : Int32) then (if 0 ≤ p2 then (kb2 (fX2_renew (upd v (1) (0 : Int32)) ar p1 p2) fun v15 ar16 => (some (p2, v15, ar16))) else (kb3 (fX6_failed v ar (4 : Int32)) fun r18 v19 ar20 => (some (r18, v19, ar20)))) else (fX6_rack_27 p1 p2 v ar)))) else (kb3 (fX6_refused v ar (-3 : Int32)) fun r22 v23 ar24 => (some (r22, v23, ar24))))
def fX2_faultAt (v : kV) (ar : kR) (p1 : Int32) : Option Int32 :=
  if (v (16)) = 0 then (some (1 : Int32)) else (if p1 < 0 then (some (3 : Int32)) else (if (v (18)) ≤ p1 then (some (3 : Int32)) else (some (0 : Int32))))
def fX6_isOfKind (v : kV) (ar : kR) (p1 : Int32) (p2 : Int32) : Option Bool :=
  if p1 < 0 ∨ 7 ≤ p1.toNatClampNeg then none else (if (ar (4*0+0) p1.toNatClampNeg) < p2 then (some false) else (some true))
def fX6_stow_44 (p1 : Int32) (p2 : Int32) (x3 : Int32) (v : kV) (ar : kR) : Option (Int32 × kV × kR) :=
  if x3 = 0 then (if p1 < 0 ∨ 9 ≤ p1.toNatClampNeg then none else (some ((1 : Int32), (upd v (1) (0 : Int32)), (va_up ar (10) (upd (ar (10)) p1.toNatClampNeg p2))))) else (kb3 (fX6_failed v ar x3) fun r10 v11 ar12 => (some (r10, v11, ar12)))
def fX6_stow (v : kV) (ar : kR) (p1 : Int32) (p2 : Int32) : Option (Int32 × kV × kR) :=
  kb1 (fX6_isCell v ar p2) fun r2 => (if (bI r2) = 0 then (kb3 (fX6_refused v ar (-1 : Int32)) fun r17 v18 ar19 => (some (r17, v18, ar19))) else (kb1 (fX2_faultAt v ar p1) fun r5 => (if r5 = 0 then (kb1 (fX6_isOfKind v ar p2 (v (17))) fun r14 => (if (bI r14) = 0 then (fX6_stow_44 p1 p2 (5 : Int32) v ar) else (fX6_stow_44 p1 p2 r5 v ar))) else (fX6_stow_44 p1 p2 r5 v ar))))
def fX6_stowed (v : kV) (ar : kR) (p1 : Int32) : Option (Int32 × kV × kR) :=
  kb1 (fX2_faultAt v ar p1) fun r2 => (if r2 = 0 then (if p1 < 0 ∨ 9 ≤ p1.toNatClampNeg then none else (some ((ar (10) p1.toNatClampNeg), (upd v (1) (0 : Int32)), ar))) else (kb3 (fX6_failed v ar r2) fun r6 v7 ar8 => (some (r6, v7, ar8))))
def fX3_add (v : kV) (ar : kR) (p1 : Int32) (p2 : Int32) : Option (Int32 × kV × kR) :=
  if (v (19)) < 0 ∨ 8 ≤ (v (19)).toNatClampNeg then none else (if (v (19)) < 0 ∨ 8 ≤ (v (19)).toNatClampNeg then none else (some ((v (19)), (upd v (19) ((v (19)) + (1 : Int32))), (va_up (va_up ar (11) (upd (ar (11)) (v (19)).toNatClampNeg p1)) (12) (upd ((va_up ar (11) (upd (ar (11)) (v (19)).toNatClampNeg p1)) (12)) (v (19)).toNatClampNeg p2)))))
def fX6_reading (v : kV) (ar : kR) (p1 : Int32) (p2 : Int32) : Option (Int32 × kV × kR) :=
  kb1 (fX6_isCell v ar p1) fun r2 => (if (bI r2) = 0 then (some ((-1 : Int32), v, ar)) else (if p2 < 0 then (some ((-2 : Int32), v, ar)) else (if p2 ≤ (1065353216 : Int32) then (if (v (19)) < (8 : Int32) then (kb3 (fX3_add v ar p1 p2) fun r8 v9 ar10 => (some (r8, v9, ar10))) else (some ((-4 : Int32), v, ar))) else (some ((-2 : Int32), v, ar)))))
def fX6_back (v : kV) (ar : kR) (p1 : Int32) : Option (Int32 × kV × kR) :=
  if p1 < 0 then (some ((-2 : Int32), v, ar)) else (if p1 ≤ (v (19)) then (some (((upd v (19) ((v (19)) - p1)) (19)), (upd v (19) ((v (19)) - p1)), ar)) else (some ((-2 : Int32), v, ar)))
def fX3_areSoBy_2b (h : Nat) (v : kV) (ar : kR) (rec2 : Int32 → Option Bool) (x2 : Int32) : Option Bool :=
  if (v (19)) ≤ x2 then (some true) else (if x2 < 0 ∨ 8 ≤ x2.toNatClampNeg then none else (kb1 (fX0_shareOf h v ar ((1 : Int32) <<< ((ar (11) x2.toNatClampNeg) &&& 31))) fun r4 => (if x2 < 0 ∨ 8 ≤ x2.toNatClampNeg then none else (if r4 = (ar (12) x2.toNatClampNeg) then (rec2 (x2 + (1 : Int32))) else (some false)))))
def fX3_areSoBy_2 (h : Nat) (v : kV) (ar : kR) : Nat → Int32 → Option Bool
  | 0 => fun _ => none
  | n + 1 => fX3_areSoBy_2b h v ar (fX3_areSoBy_2 h v ar n)
def fX3_areSoBy (h : Nat) (v : kV) (ar : kR) : Option Bool :=
  fX3_areSoBy_2 h v ar 300 (0 : Int32)
def fX6_kinds_68 (p1 : Int32) (rec25 : Int32 → Int32 → kV → kR → Option (Int32 × kV × kR)) (x2 : Int32) (x3 : Int32) (v : kV) (ar : kR) : Option (Int32 × kV × kR) :=
  rec25 x2 (x3 + (1 : Int32)) v ar
def fX6_kinds_25b (p1 : Int32) (rec25 : Int32 → Int32 → kV → kR → Option (Int32 × kV × kR)) (x2 : Int32) (x3 : Int32) (v : kV) (ar : kR) : Option (Int32 × kV × kR) :=
  if (2 : Int32) < x3 then (some (x2, v, ar)) else (if p1 < 0 ∨ 7 ≤ p1.toNatClampNeg then none else (kb2 (fX0_set 1 v ar p1 x3 (ar (4*0+1) p1.toNatClampNeg)) fun v12 ar13 => (kb1 (fX3_areSoBy 1 v12 ar13) fun r15 => (if (bI r15) = 0 then (fX6_kinds_68 p1 rec25 x2 x3 v12 ar13) else (fX6_kinds_68 p1 rec25 (x2 ||| ((1 : Int32) <<< (x3 &&& 31))) x3 v12 ar13)))))
def fX6_kinds_25 (p1 : Int32) : Nat → Int32 → Int32 → kV → kR → Option (Int32 × kV × kR)
  | 0 => fun _ _ _ _ => none
  | n + 1 => fX6_kinds_25b p1 (fX6_kinds_25 p1 n)
def fX6_kinds (v : kV) (ar : kR) (p1 : Int32) : Option (Int32 × kV × kR) :=
  kb1 (fX6_isCell v ar p1) fun r2 => (if (bI r2) = 0 then (some ((-1 : Int32), v, ar)) else (kb2 (fX0_become 1 0 v ar) fun v6 ar7 => (fX6_kinds_25 p1 300 (0 : Int32) (0 : Int32) v6 ar7)))
def fX6_bulks_69 (p1 : Int32) (rec25 : Int32 → Int32 → kV → kR → Option (Int32 × kV × kR)) (x2 : Int32) (x3 : Int32) (v : kV) (ar : kR) : Option (Int32 × kV × kR) :=
  rec25 x2 (x3 + (1 : Int32)) v ar
def fX6_bulks_25b (p1 : Int32) (rec25 : Int32 → Int32 → kV → kR → Option (Int32 × kV × kR)) (x2 : Int32) (x3 : Int32) (v : kV) (ar : kR) : Option (Int32 × kV × kR) :=
  if (9 : Int32) < x3 then (some (x2, v, ar)) else (if p1 < 0 ∨ 7 ≤ p1.toNatClampNeg then none else (kb2 (fX0_set 1 v ar p1 (ar (4*0+0) p1.toNatClampNeg) x3) fun v12 ar13 => (kb1 (fX3_areSoBy 1 v12 ar13) fun r15 => (if (bI r15) = 0 then (fX6_bulks_69 p1 rec25 x2 x3 v12 ar13) else (fX6_bulks_69 p1 rec25 (x2 ||| ((1 : Int32) <<< (x3 &&& 31))) x3 v12 ar13)))))
def fX6_bulks_25 (p1 : Int32) : Nat → Int32 → Int32 → kV → kR → Option (Int32 × kV × kR)
  | 0 => fun _ _ _ _ => none
  | n + 1 => fX6_bulks_25b p1 (fX6_bulks_25 p1 n)
def fX6_bulks (v : kV) (ar : kR) (p1 : Int32) : Option (Int32 × kV × kR) :=
  kb1 (fX6_isCell v ar p1) fun r2 => (if (bI r2) = 0 then (some ((-1 : Int32), v, ar)) else (kb2 (fX0_become 1 0 v ar) fun v6 ar7 => (fX6_bulks_25 p1 300 (0 : Int32) (1 : Int32) v6 ar7)))
def fX6_odds_26 (v : kV) (ar : kR) (p1 : Int32) (p2 : Int32) : Option Int64 :=
  some (-9223372036854775808 : Int64)
def fX6_odds_125 (v : kV) (ar : kR) (p1 : Int32) (p2 : Int32) (x3 : Int32) (x4 : Int32) : Option Int64 :=
  if p2 = 0 then (some (x3.toInt64)) else (some (x4.toInt64))
def fX6_odds_90b (v : kV) (ar : kR) (p1 : Int32) (p2 : Int32) (rec90 : Int32 → Int32 → Int32 → Option Int64) (x3 : Int32) (x4 : Int32) (x5 : Int32) : Option Int64 :=
  if (7 : Int32) ≤ x5 then (fX6_odds_125 v ar p1 p2 x3 x4) else (if x4 ≤ (1 : Int32) then (fX6_odds_125 v ar p1 p2 x3 x4) else (if (2 : Int32) = 0 then none else (if (x3 - x3 / (2 : Int32) * (2 : Int32)) = 0 then (if (2 : Int32) = 0 then none else (if (2 : Int32) = 0 then none else (rec90 (x3 / (2 : Int32)) (x4 / (2 : Int32)) (x5 + (1 : Int32))))) else (fX6_odds_125 v ar p1 p2 x3 x4))))
def fX6_odds_90 (v : kV) (ar : kR) (p1 : Int32) (p2 : Int32) : Nat → Int32 → Int32 → Int32 → Option Int64
  | 0 => fun _ _ _ => none
  | n + 1 => fX6_odds_90b v ar p1 p2 (fX6_odds_90 v ar p1 p2 n)
def fX6_odds_81 (v : kV) (ar : kR) (p1 : Int32) (p2 : Int32) (rec38 : Int32 → Int32 → Int32 → Option Int64) (x3 : Int32) (x4 : Int32) (x5 : Int32) : Option Int64 :=
  rec38 x3 x4 (x5 + (1 : Int32))
def fX6_odds_38b (v : kV) (ar : kR) (p1 : Int32) (p2 : Int32) (rec38 : Int32 → Int32 → Int32 → Option Int64) (x3 : Int32) (x4 : Int32) (x5 : Int32) : Option Int64 :=
  kb1 (fX0_all 0 v ar) fun r9 => (if r9 < x5 then (fX6_odds_90 v ar p1 p2 300 x3 x4 (0 : Int32)) else (kb1 (fX0_keepsFixed 0 v ar x5) fun r19 => (if (bI r19) = 0 then (fX6_odds_81 v ar p1 p2 rec38 x3 x4 x5) else (kb1 (fX0_cutsBy 0 v ar x5) fun r22 => (if p1 < r22 then (fX6_odds_81 v ar p1 p2 rec38 x3 (x4 + (1 : Int32)) x5) else (fX6_odds_81 v ar p1 p2 rec38 (x3 + (1 : Int32)) (x4 + (1 : Int32)) x5))))))
def fX6_odds_38 (v : kV) (ar : kR) (p1 : Int32) (p2 : Int32) : Nat → Int32 → Int32 → Int32 → Option Int64
  | 0 => fun _ _ _ => none
  | n + 1 => fX6_odds_38b v ar p1 p2 (fX6_odds_38 v ar p1 p2 n)
def fX6_odds (v : kV) (ar : kR) (p1 : Int32) (p2 : Int32) : Option Int64 :=
  kb1 (fX6_noCircuit v ar) fun r2 => (if (bI r2) = 0 then (if p1 < 0 then (fX6_odds_26 v ar p1 p2) else (if (6 : Int32) < p1 then (fX6_odds_26 v ar p1 p2) else (if p2 < 0 then (fX6_odds_26 v ar p1 p2) else (if p2 ≤ (1 : Int32) then (fX6_odds_38 v ar p1 p2 300 (0 : Int32) (0 : Int32) (0 : Int32)) else (fX6_odds_26 v ar p1 p2))))) else (fX6_odds_26 v ar p1 p2))
def fX4_renew (q : Nat) (v : kV) (ar : kR) (p1 : Int32) (p2 : Int32) : Option (kV × kR) :=
  kb2 (fJ7_fill_53178 (13+q) (upd (upd v (20+2*q) p1) (21+2*q) p2) ar (0 : Int32)) fun v3 ar4 => (some (v3, ar4))
def fX6_sheet_26 (p1 : Int32) (p2 : Int32) (p3 : Int32) (v : kV) (ar : kR) : Option (Int32 × kV × kR) :=
  kb3 (fX6_refused v ar (-2 : Int32)) fun r8 v9 ar10 => (some (r8, v9, ar10))
def fX6_sheet (v : kV) (ar : kR) (p1 : Int32) (p2 : Int32) (p3 : Int32) : Option (Int32 × kV × kR) :=
  kb1 (fX6_isSheet p1) fun r2 => (if (bI r2) = 0 then (kb3 (fX6_refused v ar (-1 : Int32)) fun r24 v25 ar26 => (some (r24, v25, ar26))) else (kb1 (fX6_isLane p2) fun r5 => (if (bI r5) = 0 then (fX6_sheet_26 p1 p2 p3 v ar) else (if p3 ≤ (60 : Int32) then (if 0 ≤ p3 then (if p1 < 0 ∨ 4 ≤ p1.toNatClampNeg then none else (kb2 (fX4_renew p1.toNatClampNeg (upd v (1) (0 : Int32)) ar p2 p3) fun v17 ar18 => (some ((1 : Int32), v17, ar18)))) else (kb3 (fX6_failed v ar (4 : Int32)) fun r20 v21 ar22 => (some (r20, v21, ar22)))) else (fX6_sheet_26 p1 p2 p3 v ar)))))
def fX6_lose_27 (p1 : Int32) (s0 : Int32) (v : kV) (ar : kR) : Option (Int32 × kV × kR) :=
  if p1 < 0 ∨ 4 ≤ p1.toNatClampNeg then none else (some (s0, (upd v (20+2*p1.toNatClampNeg) (-1 : Int32)), ar))
def fX6_lose (v : kV) (ar : kR) (p1 : Int32) : Option (Int32 × kV × kR) :=
  kb1 (fX6_isSheet p1) fun r2 => (if (bI r2) = 0 then (some ((-1 : Int32), v, ar)) else (if p1 < 0 ∨ 4 ≤ p1.toNatClampNeg then none else (if (v (20+2*p1.toNatClampNeg)) = (-1 : Int32) then (fX6_lose_27 p1 (0 : Int32) v ar) else (fX6_lose_27 p1 (1 : Int32) v ar))))
def fX6_cutToLane (p0 : Int32) (p1 : Int32) : Option Int32 :=
  if p1 = (0 : Int32) then (some (p0.toInt8.toInt32)) else (if p1 = (1 : Int32) then (some (p0.toInt16.toInt32)) else (some p0))
def fX6_put_49 (p1 : Int32) (p2 : Int32) (p3 : Int32) (v : kV) (ar : kR) : Option (Int32 × kV × kR) :=
  kb3 (fX6_failed v ar (3 : Int32)) fun r9 v10 ar11 => (some (r9, v10, ar11))
def fX6_put (v : kV) (ar : kR) (p1 : Int32) (p2 : Int32) (p3 : Int32) : Option (Int32 × kV × kR) :=
  kb1 (fX6_isSheet p1) fun r2 => (if (bI r2) = 0 then (kb3 (fX6_refused v ar (-1 : Int32)) fun r21 v22 ar23 => (some (r21, v22, ar23))) else (if p1 < 0 ∨ 4 ≤ p1.toNatClampNeg then none else (if (v (20+2*p1.toNatClampNeg)) = (-1 : Int32) then (kb3 (fX6_failed v ar (1 : Int32)) fun r17 v18 ar19 => (some (r17, v18, ar19))) else (if p2 < 0 then (fX6_put_49 p1 p2 p3 v ar) else (if p2 < (v (21+2*p1.toNatClampNeg)) then (kb1 (fX6_cutToLane p3 ((upd v (1) (0 : Int32)) (20+2*p1.toNatClampNeg))) fun r14 => (if p2 < 0 ∨ 60 ≤ p2.toNatClampNeg then none else (some ((1 : Int32), (upd v (1) (0 : Int32)), (va_up ar (13+p1.toNatClampNeg) (upd (ar (13+p1.toNatClampNeg)) p2.toNatClampNeg r14)))))) else (fX6_put_49 p1 p2 p3 v ar))))))
def fX6_cell_14 (p1 : Int32) (p2 : Int32) (p3 : Int32) (v : kV) (ar : kR) : Option (Int64 × kV × kR) :=
  some ((-9223372036854775808 : Int64), (upd v (1) (0 : Int32)), ar)
def fX6_cell_66 (p1 : Int32) (p2 : Int32) (p3 : Int32) (v : kV) (ar : kR) : Option (Int64 × kV × kR) :=
  if (v (1)) = 0 then (if p2 < 0 ∨ 60 ≤ p2.toNatClampNeg then none else (some (((ar (13+p1.toNatClampNeg) p2.toNatClampNeg).toInt64), v, ar))) else (some ((-9223372036854775808 : Int64), v, ar))
def fX6_cell_61 (p1 : Int32) (p2 : Int32) (p3 : Int32) (v : kV) (ar : kR) : Option (Int64 × kV × kR) :=
  fX6_cell_66 p1 p2 p3 (upd v (1) (3 : Int32)) ar
def fX6_cell (v : kV) (ar : kR) (p1 : Int32) (p2 : Int32) (p3 : Int32) : Option (Int64 × kV × kR) :=
  kb1 (fX6_isSheet p1) fun r2 => (if (bI r2) = 0 then (fX6_cell_14 p1 p2 p3 v ar) else (kb1 (fX6_isLane p3) fun r5 => (if (bI r5) = 0 then (fX6_cell_14 p1 p2 p3 v ar) else (if p1 < 0 ∨ 4 ≤ p1.toNatClampNeg then none else (kb1 (fX4_faultAs p1.toNatClampNeg v ar p3) fun r10 => (if ((upd v (1) r10) (1)) = 0 then (if p2 < 0 then (fX6_cell_61 p1 p2 p3 (upd v (1) r10) ar) else (if p2 < ((upd v (1) r10) (21+2*p1.toNatClampNeg)) then (fX6_cell_66 p1 p2 p3 (upd v (1) r10) ar) else (fX6_cell_61 p1 p2 p3 (upd v (1) r10) ar))) else (fX6_cell_66 p1 p2 p3 (upd v (1) r10) ar)))))))
def fX6_copy_14 (p1 : Int32) (p2 : Int32) (p3 : Int32) (p4 : Int32) (p5 : Int32) (v : kV) (ar : kR) : Option (Int32 × kV × kR) :=
  kb3 (fX6_refused v ar (-1 : Int32)) fun r5 v6 ar7 => (some (r5, v6, ar7))
def fX6_copy_54 (p1 : Int32) (p2 : Int32) (p3 : Int32) (p4 : Int32) (p5 : Int32) (v : kV) (ar : kR) : Option (Int32 × kV × kR) :=
  kb3 (fX6_failed v ar (1 : Int32)) fun r17 v18 ar19 => (some (r17, v18, ar19))
def fX6_copy_102 (p1 : Int32) (p2 : Int32) (p3 : Int32) (p4 : Int32) (p5 : Int32) (v : kV) (ar : kR) : Option (Int32 × kV × kR) :=
  kb3 (fX6_failed v ar (3 : Int32)) fun r26 v27 ar28 => (some (r26, v27, ar28))
def fX6_copy (v : kV) (ar : kR) (p1 : Int32) (p2 : Int32) (p3 : Int32) (p4 : Int32) (p5 : Int32) : Option (Int32 × kV × kR) :=
  kb1 (fX6_isSheet p1) fun r2 => (if (bI r2) = 0 then (fX6_copy_14 p1 p2 p3 p4 p5 v ar) else (kb1 (fX6_isSheet p3) fun r9 => (if (bI r9) = 0 then (fX6_copy_14 p1 p2 p3 p4 p5 v ar) else (if p1 < 0 ∨ 4 ≤ p1.toNatClampNeg then none else (if p3 < 0 ∨ 4 ≤ p3.toNatClampNeg then none else (if (v (20+2*p1.toNatClampNeg)) = (-1 : Int32) then (fX6_copy_54 p1 p2 p3 p4 p5 v ar) else (if (v (20+2*p3.toNatClampNeg)) = (-1 : Int32) then (fX6_copy_54 p1 p2 p3 p4 p5 v ar) else (if (v (20+2*p1.toNatClampNeg)) = (v (20+2*p3.toNatClampNeg)) then (kb1 (fX4_has p1.toNatClampNeg v ar p2 p5) fun r23 => (if (bI r23) = 0 then (fX6_copy_102 p1 p2 p3 p4 p5 v ar) else (kb1 (fX4_has p3.toNatClampNeg v ar p4 p5) fun r30 => (if (bI r30) = 0 then (fX6_copy_102 p1 p2 p3 p4 p5 v ar) else (if p2 < 0 ∨ p4 < 0 ∨ p5 < 0 ∨ 60 < p2.toNatClampNeg + p5.toNatClampNeg ∨ 60 < p4.toNatClampNeg + p5.toNatClampNeg then none else (some (p5, (upd v (1) (0 : Int32)), (va_up ar (13+p3.toNatClampNeg) (va_cpy (ar (13+p1.toNatClampNeg)) (ar (13+p3.toNatClampNeg)) p2.toNatClampNeg p4.toNatClampNeg p5.toNatClampNeg))))))))) else (kb3 (fX6_failed v ar (2 : Int32)) fun r34 v35 ar36 => (some (r34, v35, ar36)))))))))))
def fX6_leaveInTrace (v : kV) (ar : kR) (p1 : Int32) : Option (kV × kR) :=
  some ((upd v (0) (((31 : Int32) * (v (0))) + p1)), ar)
def fX6_plainTold (v : kV) (ar : kR) (p1 : Int32) : Option (Int32 × kV × kR) :=
  kb2 (fX6_leaveInTrace v ar (1 : Int32)) fun v3 ar4 => (if p1 < 0 ∨ 7 ≤ p1.toNatClampNeg then none else (some ((ar4 (4*0+1) p1.toNatClampNeg), v3, ar4)))
def fX6_bulkyTold (v : kV) (ar : kR) (p1 : Int32) : Option (Int32 × kV × kR) :=
  kb2 (fX6_leaveInTrace v ar (2 : Int32)) fun v3 ar4 => (kb3 (fX6_plainTold v3 ar4 p1) fun r6 v7 ar8 => (some ((r6 + (100 : Int32)), v7, ar8)))
def fX6_doubleTold (v : kV) (ar : kR) (p1 : Int32) : Option (Int32 × kV × kR) :=
  kb2 (fX6_leaveInTrace v ar (3 : Int32)) fun v3 ar4 => (kb3 (fX6_bulkyTold v3 ar4 p1) fun r6 v7 ar8 => (kb3 (fX6_plainTold v7 ar8 p1) fun r10 v11 ar12 => (some ((r6 + r10), v11, ar12))))
def fX6_tell (v : kV) (ar : kR) (p1 : Int32) : Option (Int32 × kV × kR) :=
  kb1 (fX6_isCell v ar p1) fun r2 => (if (bI r2) = 0 then (some ((-1 : Int32), v, ar)) else (if p1 < 0 ∨ 7 ≤ p1.toNatClampNeg then none else (if (ar (4*0+0) p1.toNatClampNeg) = (1 : Int32) then (kb3 (fX6_bulkyTold v ar p1) fun r7 v8 ar9 => (some (r7, v8, ar9))) else (if (ar (4*0+0) p1.toNatClampNeg) = (2 : Int32) then (kb3 (fX6_doubleTold v ar p1) fun r12 v13 ar14 => (some (r12, v13, ar14))) else (kb3 (fX6_plainTold v ar p1) fun r16 v17 ar18 => (some (r16, v17, ar18)))))))
def fX6_probe (v : kV) (ar : kR) (p1 : Int32) : Option (Int32 × kV × kR) :=
  kb1 (fX6_isCell v ar p1) fun r2 => (if (bI r2) = 0 then (some ((-1 : Int32), v, ar)) else (if p1 < 0 ∨ 7 ≤ p1.toNatClampNeg then none else (if (ar (4*0+0) p1.toNatClampNeg) = (2 : Int32) then (kb2 (fX6_leaveInTrace v ar (5 : Int32)) fun v16 ar17 => (some ((20 : Int32), v16, ar17))) else (kb2 (fX6_leaveInTrace v ar (4 : Int32)) fun v8 ar9 => (kb1 (fX0_netsOf 0 v8 ar9 p1) fun r11 => (kb1 (fJ6_bitCount_0f7a4 r11) fun r13 => (some (r13, v8, ar9))))))))
def fX6_as (v : kV) (ar : kR) (p1 : Int32) (p2 : Int32) : Option (Int32 × kV × kR) :=
  kb1 (fX6_isCell v ar p1) fun r2 => (if (bI r2) = 0 then (kb3 (fX6_refused v ar (-1 : Int32)) fun r19 v20 ar21 => (some (r19, v20, ar21))) else (kb1 (fX6_isKind p2) fun r5 => (if (bI r5) = 0 then (kb3 (fX6_refused v ar (-2 : Int32)) fun r15 v16 ar17 => (some (r15, v16, ar17))) else (kb1 (fX6_isOfKind v ar p1 p2) fun r8 => (if (bI r8) = 0 then (kb3 (fX6_failed v ar (2 : Int32)) fun r11 v12 ar13 => (some (r11, v12, ar13))) else (some ((1 : Int32), (upd v (1) (0 : Int32)), ar)))))))
def fX6_trace (v : kV) (ar : kR) : Option Int32 :=
  some (v (0))
def fX6_fault (v : kV) (ar : kR) : Option Int32 :=
  some (v (1))
def fX6_many (v : kV) (ar : kR) (p1 : Int32) : Option Int32 :=
  if p1 = (0 : Int32) then (some (v (2+5*0+0))) else (if p1 = (1 : Int32) then (some (v (2+5*0+1))) else (if p1 = (2 : Int32) then (kb1 (fX0_cuts 0 v ar) fun r5 => (some r5)) else (if p1 = (3 : Int32) then (if (v (16)) = 0 then (some (0 : Int32)) else (some (v (18)))) else (if p1 = (4 : Int32) then (some (v (19))) else (some (-2 : Int32))))))
