def fX7_within (p0 : Int32) (p1 : Int32) (p2 : Int32) : Option Bool :=
  if p0 < p1 then (some false) else (if p2 < p0 then (some false) else (some true))
def fX7_isSheet (p0 : Int32) : Option Bool :=
  kb1 (fX7_within p0 (0 : Int32) (3 : Int32)) fun r2 => (some r2)
def fX7_isSort (p0 : Int32) : Option Bool :=
  kb1 (fX7_within p0 (0 : Int32) (2 : Int32)) fun r2 => (some r2)
def fX7_against_70 (v : kV) (ar : kR) (p1 : Int32) (p2 : Int32) (p3 : Int32) (p4 : Int32) : Option Int32 :=
  some (3 : Int32)
def fX7_against_23 (v : kV) (ar : kR) (p1 : Int32) (p2 : Int32) (p3 : Int32) (p4 : Int32) : Option Int32 :=
  if p1 < 0 ∨ 4 ≤ p1.toNatClampNeg then none else (if (ar (0) p1.toNatClampNeg) = (-9 : Int32) then (some (1 : Int32)) else (if 0 ≤ p4 then (if p3 < 0 then (fX7_against_70 v ar p1 p2 p3 p4) else (if p1 < 0 ∨ 4 ≤ p1.toNatClampNeg then none else (if (ar (1) p1.toNatClampNeg) < p3 then (fX7_against_70 v ar p1 p2 p3 p4) else (if p1 < 0 ∨ 4 ≤ p1.toNatClampNeg then none else (if p4 ≤ ((ar (1) p1.toNatClampNeg) - p3) then (some (0 : Int32)) else (fX7_against_70 v ar p1 p2 p3 p4)))))) else (some (4 : Int32))))
def fX7_against (v : kV) (ar : kR) (p1 : Int32) (p2 : Int32) (p3 : Int32) (p4 : Int32) : Option Int32 :=
  if p1 < 0 ∨ 4 ≤ p1.toNatClampNeg then none else (if (ar (0) p1.toNatClampNeg) = (-9 : Int32) then (fX7_against_23 v ar p1 p2 p3 p4) else (if p1 < 0 ∨ 4 ≤ p1.toNatClampNeg then none else (if (ar (0) p1.toNatClampNeg) = p2 then (fX7_against_23 v ar p1 p2 p3 p4) else (some (2 : Int32)))))
def fX7_fails (v : kV) (ar : kR) (p1 : Int32) : Option (Int32 × kV × kR) :=
  some (((-10 : Int32) - p1), (upd v (0) p1), ar)
def fX7_isSign (v : kV) (ar : kR) (p1 : Int32) (p2 : Int32) : Option (Bool × kV × kR) :=
  if p1 ≤ (v (16)) then (some (false, v, ar)) else (if (v (16)) < 0 ∨ 240 ≤ (v (16)).toNatClampNeg then none else (if (ar (2) (v (16)).toNatClampNeg) = p2 then (some (true, (upd v (16) ((v (16)) + (1 : Int32))), ar)) else (some (false, v, ar))))
def fX7_readCell_265 (p1 : Int32) (s0 : Int32) (s1 : Int32) (v : kV) (ar : kR) : Option (Bool × kV × kR) :=
  some (true, (upd (upd v (20) (s1 ||| s0)) (17) (((upd v (20) (s1 ||| s0)) (17)) + (1 : Int32))), ar)
def fX7_readCell_255 (p1 : Int32) (s0 : Int32) (v : kV) (ar : kR) : Option (Bool × kV × kR) :=
  fX7_readCell_265 p1 ((1 : Int32) <<< ((v (17)) &&& 31)) s0 v ar
def fX7_readCell_234 (p1 : Int32) (x2 : Int32) (s0 : Int32) (s1 : Int32) (v : kV) (ar : kR) : Option (Bool × kV × kR) :=
  if x2 = (76 : Int32) then (fX7_readCell_255 p1 ((upd v (19) (s1 ||| s0)) (20)) (upd v (19) (s1 ||| s0)) ar) else (if x2 = (82 : Int32) then (fX7_readCell_255 p1 ((upd v (19) (s1 ||| s0)) (20)) (upd v (19) (s1 ||| s0)) ar) else (fX7_readCell_265 p1 (0 : Int32) ((upd v (19) (s1 ||| s0)) (20)) (upd v (19) (s1 ||| s0)) ar))
def fX7_readCell_224 (p1 : Int32) (x2 : Int32) (s0 : Int32) (v : kV) (ar : kR) : Option (Bool × kV × kR) :=
  fX7_readCell_234 p1 x2 ((1 : Int32) <<< ((v (17)) &&& 31)) s0 v ar
def fX7_readCell_197 (p1 : Int32) (x2 : Int32) (v : kV) (ar : kR) : Option (Bool × kV × kR) :=
  if x2 = (114 : Int32) then (fX7_readCell_224 p1 x2 ((upd v (16) ((v (16)) + (1 : Int32))) (19)) (upd v (16) ((v (16)) + (1 : Int32))) ar) else (if x2 = (82 : Int32) then (fX7_readCell_224 p1 x2 ((upd v (16) ((v (16)) + (1 : Int32))) (19)) (upd v (16) ((v (16)) + (1 : Int32))) ar) else (fX7_readCell_234 p1 x2 (0 : Int32) ((upd v (16) ((v (16)) + (1 : Int32))) (19)) (upd v (16) ((v (16)) + (1 : Int32))) ar))
def fX7_readCell_170 (p1 : Int32) (s0 : Int32) (v : kV) (ar : kR) : Option (Bool × kV × kR) :=
  if s0 = (108 : Int32) then (fX7_readCell_197 p1 s0 v ar) else (if s0 = (114 : Int32) then (fX7_readCell_197 p1 s0 v ar) else (if s0 = (76 : Int32) then (fX7_readCell_197 p1 s0 v ar) else (if s0 = (82 : Int32) then (fX7_readCell_197 p1 s0 v ar) else (some (false, v, ar)))))
def fX7_readCell_62 (p1 : Int32) (s0 : Int32) (s1 : Int32) (v : kV) (ar : kR) : Option (Bool × kV × kR) :=
  if s1 < 0 ∨ 7 ≤ s1.toNatClampNeg then none else (if (v (17)) < 0 ∨ 7 ≤ (v (17)).toNatClampNeg then none else (if ((va_up ar (7) (upd (ar (7)) s1.toNatClampNeg s0)) (7) (v (17)).toNatClampNeg) = (-9 : Int32) then (some (false, v, (va_up ar (7) (upd (ar (7)) s1.toNatClampNeg s0)))) else (if p1 ≤ ((upd v (16) ((v (16)) + (1 : Int32))) (16)) then (some (false, (upd v (16) ((v (16)) + (1 : Int32))), (va_up ar (7) (upd (ar (7)) s1.toNatClampNeg s0)))) else (if ((upd v (16) ((v (16)) + (1 : Int32))) (16)) < 0 ∨ 240 ≤ ((upd v (16) ((v (16)) + (1 : Int32))) (16)).toNatClampNeg then none else (kb1 (fX7_within ((va_up ar (7) (upd (ar (7)) s1.toNatClampNeg s0)) (2) ((upd v (16) ((v (16)) + (1 : Int32))) (16)).toNatClampNeg) (49 : Int32) (57 : Int32)) fun r11 => (if (bI r11) = 0 then (some (false, (upd v (16) ((v (16)) + (1 : Int32))), (va_up ar (7) (upd (ar (7)) s1.toNatClampNeg s0)))) else (if ((upd v (16) ((v (16)) + (1 : Int32))) (16)) < 0 ∨ 240 ≤ ((upd v (16) ((v (16)) + (1 : Int32))) (16)).toNatClampNeg then none else (if ((upd v (16) ((v (16)) + (1 : Int32))) (17)) < 0 ∨ 7 ≤ ((upd v (16) ((v (16)) + (1 : Int32))) (17)).toNatClampNeg then none else (if p1 ≤ ((upd (upd v (16) ((v (16)) + (1 : Int32))) (16) (((upd v (16) ((v (16)) + (1 : Int32))) (16)) + (1 : Int32))) (16)) then (fX7_readCell_170 p1 (0 : Int32) (upd (upd v (16) ((v (16)) + (1 : Int32))) (16) (((upd v (16) ((v (16)) + (1 : Int32))) (16)) + (1 : Int32))) (va_up (va_up ar (7) (upd (ar (7)) s1.toNatClampNeg s0)) (8) (upd ((va_up ar (7) (upd (ar (7)) s1.toNatClampNeg s0)) (8)) ((upd v (16) ((v (16)) + (1 : Int32))) (17)).toNatClampNeg (((va_up ar (7) (upd (ar (7)) s1.toNatClampNeg s0)) (2) ((upd v (16) ((v (16)) + (1 : Int32))) (16)).toNatClampNeg) - (48 : Int32))))) else (if ((upd (upd v (16) ((v (16)) + (1 : Int32))) (16) (((upd v (16) ((v (16)) + (1 : Int32))) (16)) + (1 : Int32))) (16)) < 0 ∨ 240 ≤ ((upd (upd v (16) ((v (16)) + (1 : Int32))) (16) (((upd v (16) ((v (16)) + (1 : Int32))) (16)) + (1 : Int32))) (16)).toNatClampNeg then none else (fX7_readCell_170 p1 ((va_up (va_up ar (7) (upd (ar (7)) s1.toNatClampNeg s0)) (8) (upd ((va_up ar (7) (upd (ar (7)) s1.toNatClampNeg s0)) (8)) ((upd v (16) ((v (16)) + (1 : Int32))) (17)).toNatClampNeg (((va_up ar (7) (upd (ar (7)) s1.toNatClampNeg s0)) (2) ((upd v (16) ((v (16)) + (1 : Int32))) (16)).toNatClampNeg) - (48 : Int32)))) (2) ((upd (upd v (16) ((v (16)) + (1 : Int32))) (16) (((upd v (16) ((v (16)) + (1 : Int32))) (16)) + (1 : Int32))) (16)).toNatClampNeg) (upd (upd v (16) ((v (16)) + (1 : Int32))) (16) (((upd v (16) ((v (16)) + (1 : Int32))) (16)) + (1 : Int32))) (va_up (va_up ar (7) (upd (ar (7)) s1.toNatClampNeg s0)) (8) (upd ((va_up ar (7) (upd (ar (7)) s1.toNatClampNeg s0)) (8)) ((upd v (16) ((v (16)) + (1 : Int32))) (17)).toNatClampNeg (((va_up ar (7) (upd (ar (7)) s1.toNatClampNeg s0)) (2) ((upd v (16) ((v (16)) + (1 : Int32))) (16)).toNatClampNeg) - (48 : Int32)))))))))))))))
def fX7_readCell_21 (p1 : Int32) (s0 : Int32) (v : kV) (ar : kR) : Option (Bool × kV × kR) :=
  if s0 = (112 : Int32) then (fX7_readCell_62 p1 (0 : Int32) (v (17)) v ar) else (if s0 = (98 : Int32) then (fX7_readCell_62 p1 (1 : Int32) (v (17)) v ar) else (if s0 = (100 : Int32) then (fX7_readCell_62 p1 (2 : Int32) (v (17)) v ar) else (fX7_readCell_62 p1 (-9 : Int32) (v (17)) v ar)))
def fX7_readCell (v : kV) (ar : kR) (p1 : Int32) : Option (Bool × kV × kR) :=
  if p1 ≤ (v (16)) then (fX7_readCell_21 p1 (0 : Int32) v ar) else (if (v (16)) < 0 ∨ 240 ≤ (v (16)).toNatClampNeg then none else (fX7_readCell_21 p1 (ar (2) (v (16)).toNatClampNeg) v ar))
def fX7_size_4b (p0 : Int32) (rec4 : Int32 → Int32 → Option Int32) (x1 : Int32) (x2 : Int32) : Option Int32 :=
  if x2 ≤ 0 then (some x1) else (rec4 (x1 + (x2 &&& (1 : Int32))) (x2 >>> ((1 : Int32) &&& 31)))
def fX7_size_4 (p0 : Int32) : Nat → Int32 → Int32 → Option Int32
  | 0 => fun _ _ => none
  | n + 1 => fX7_size_4b p0 (fX7_size_4 p0 n)
def fX7_size (p0 : Int32) : Option Int32 :=
  fX7_size_4 p0 300 (0 : Int32) p0
def fX7_isOf (p0 : Int32) (p1 : Int32) : Option Bool :=
  if ((p0 >>> (p1 &&& 31)) &&& (1 : Int32)) = (1 : Int32) then (some true) else (some false)
def fX7_readNetNext_92 (p1 : Int32) (x2 : Int32) (v : kV) (ar : kR) : Option (Bool × kV × kR) :=
  kb1 (fX7_size x2) fun r3 => (if (2 : Int32) ≤ r3 then (if (v (18)) < 0 ∨ 6 ≤ (v (18)).toNatClampNeg then none else (some (true, (upd v (18) ((v (18)) + (1 : Int32))), (va_up ar (9) (upd (ar (9)) (v (18)).toNatClampNeg x2))))) else (some (false, v, ar)))
def fX7_readNetNext_89 (p1 : Int32) (rec4 : Int32 → Int32 → kV → kR → Option (Bool × kV × kR)) (x2 : Int32) (x3 : Int32) (v : kV) (ar : kR) : Option (Bool × kV × kR) :=
  rec4 x2 x3 v ar
def fX7_readNetNext_67 (p1 : Int32) (rec4 : Int32 → Int32 → kV → kR → Option (Bool × kV × kR)) (x2 : Int32) (x4 : Int32) (s0 : Int32) (v : kV) (ar : kR) : Option (Bool × kV × kR) :=
  if s0 = 0 then (fX7_readNetNext_89 p1 rec4 x2 s0 v ar) else (fX7_readNetNext_89 p1 rec4 (x2 ||| ((1 : Int32) <<< (x4 &&& 31))) s0 (upd v (16) ((v (16)) + (1 : Int32))) ar)
def fX7_readNetNext_66 (p1 : Int32) (rec4 : Int32 → Int32 → kV → kR → Option (Bool × kV × kR)) (x2 : Int32) (x4 : Int32) (v : kV) (ar : kR) : Option (Bool × kV × kR) :=
  fX7_readNetNext_67 p1 rec4 x2 x4 (0 : Int32) v ar
def fX7_readNetNext_4b (p1 : Int32) (rec4 : Int32 → Int32 → kV → kR → Option (Bool × kV × kR)) (x2 : Int32) (x3 : Int32) (v : kV) (ar : kR) : Option (Bool × kV × kR) :=
  if x3 = 0 then (fX7_readNetNext_92 p1 x2 v ar) else (kb1 (fX7_size x2) fun r7 => (if (4 : Int32) ≤ r7 then (fX7_readNetNext_92 p1 x2 v ar) else (if p1 ≤ (v (16)) then (fX7_readNetNext_92 p1 x2 v ar) else (if (v (16)) < 0 ∨ 240 ≤ (v (16)).toNatClampNeg then none else (kb1 (fX7_within ((ar (2) (v (16)).toNatClampNeg) - (48 : Int32)) (0 : Int32) ((v (17)) - (1 : Int32))) fun r12 => (if (bI r12) = 0 then (fX7_readNetNext_66 p1 rec4 x2 ((ar (2) (v (16)).toNatClampNeg) - (48 : Int32)) v ar) else (kb1 (fX7_isOf x2 ((ar (2) (v (16)).toNatClampNeg) - (48 : Int32))) fun r16 => (if (bI r16) = 0 then (fX7_readNetNext_67 p1 rec4 x2 ((ar (2) (v (16)).toNatClampNeg) - (48 : Int32)) (1 : Int32) v ar) else (fX7_readNetNext_66 p1 rec4 x2 ((ar (2) (v (16)).toNatClampNeg) - (48 : Int32)) v ar)))))))))
def fX7_readNetNext_4 (p1 : Int32) : Nat → Int32 → Int32 → kV → kR → Option (Bool × kV × kR)
  | 0 => fun _ _ _ _ => none
  | n + 1 => fX7_readNetNext_4b p1 (fX7_readNetNext_4 p1 n)
def fX7_readNetNext (v : kV) (ar : kR) (p1 : Int32) : Option (Bool × kV × kR) :=
  fX7_readNetNext_4 p1 300 (0 : Int32) (1 : Int32) v ar
def fX7_readAll_70 (p1 : Int32) (rec32 : kV → kR → Option (Bool × kV × kR)) (v : kV) (ar : kR) : Option (Bool × kV × kR) :=
  kb3 (fX7_isSign v ar p1 (59 : Int32)) fun r8 v9 ar10 => (if (bI r8) = 0 then (some (false, v9, ar10)) else (kb3 (fX7_readCell v9 ar10 p1) fun r13 v14 ar15 => (if (bI r13) = 0 then (some (false, v14, ar15)) else (rec32 v14 ar15))))
def fX7_readAll_127 (p1 : Int32) (v : kV) (ar : kR) : Option (Bool × kV × kR) :=
  if (v (16)) = p1 then (some (true, v, ar)) else (some (false, v, ar))
def fX7_readAll_90b (p1 : Int32) (rec90 : kV → kR → Option (Bool × kV × kR)) (v : kV) (ar : kR) : Option (Bool × kV × kR) :=
  if (6 : Int32) ≤ (v (18)) then (fX7_readAll_127 p1 v ar) else (if p1 ≤ (v (16)) then (fX7_readAll_127 p1 v ar) else (kb3 (fX7_isSign v ar p1 (44 : Int32)) fun r22 v23 ar24 => (if (bI r22) = 0 then (some (false, v23, ar24)) else (kb3 (fX7_readNetNext v23 ar24 p1) fun r27 v28 ar29 => (if (bI r27) = 0 then (some (false, v28, ar29)) else (rec90 v28 ar29))))))
def fX7_readAll_90 (p1 : Int32) : Nat → kV → kR → Option (Bool × kV × kR)
  | 0 => fun _ _ => none
  | n + 1 => fX7_readAll_90b p1 (fX7_readAll_90 p1 n)
def fX7_readAll_32b (p1 : Int32) (rec32 : kV → kR → Option (Bool × kV × kR)) (v : kV) (ar : kR) : Option (Bool × kV × kR) :=
  if (v (17)) = 0 then (fX7_readAll_70 p1 rec32 v ar) else (if (7 : Int32) ≤ (v (17)) then (fX7_readAll_90 p1 300 v ar) else (if p1 ≤ (v (16)) then (fX7_readAll_90 p1 300 v ar) else (if (v (16)) < 0 ∨ 240 ≤ (v (16)).toNatClampNeg then none else (if (ar (2) (v (16)).toNatClampNeg) = (59 : Int32) then (fX7_readAll_70 p1 rec32 v ar) else (fX7_readAll_90 p1 300 v ar)))))
def fX7_readAll_32 (p1 : Int32) : Nat → kV → kR → Option (Bool × kV × kR)
  | 0 => fun _ _ => none
  | n + 1 => fX7_readAll_32b p1 (fX7_readAll_32 p1 n)
def fX7_readAll (v : kV) (ar : kR) (p1 : Int32) : Option (Bool × kV × kR) :=
  kb3 (fX7_isSign (upd (upd (upd (upd v (17) (0 : Int32)) (18) (0 : Int32)) (19) (0 : Int32)) (20) (0 : Int32)) ar p1 (104 : Int32)) fun r2 v3 ar4 => (if (bI r2) = 0 then (some (false, v3, ar4)) else (fX7_readAll_32 p1 300 v3 ar4))
def fX7_circuit_165b (p1 : Int32) (p2 : Int32) (p3 : Int32) (p4 : Int32) (rec165 : Int32 → kV → kR → Option (Int32 × kV × kR)) (x7 : Int32) (v : kV) (ar : kR) : Option (Int32 × kV × kR) :=
  if (v (6)) ≤ x7 then (some (((upd (upd (upd (upd v (9) (1065353216 : Int32)) (10) (-9 : Int32)) (11) (0 : Int32)) (29) (0 : Int32)) (5)), (upd (upd (upd (upd v (9) (1065353216 : Int32)) (10) (-9 : Int32)) (11) (0 : Int32)) (29) (0 : Int32)), ar)) else (if x7 < 0 ∨ 6 ≤ x7.toNatClampNeg then none else (if x7 < 0 ∨ 6 ≤ x7.toNatClampNeg then none else (rec165 (x7 + (1 : Int32)) v (va_up ar (6) (upd (ar (6)) x7.toNatClampNeg (ar (9) x7.toNatClampNeg))))))
def fX7_circuit_165 (p1 : Int32) (p2 : Int32) (p3 : Int32) (p4 : Int32) : Nat → Int32 → kV → kR → Option (Int32 × kV × kR)
  | 0 => fun _ _ _ => none
  | n + 1 => fX7_circuit_165b p1 p2 p3 p4 (fX7_circuit_165 p1 p2 p3 p4 n)
def fX7_circuit_119b (p1 : Int32) (p2 : Int32) (p3 : Int32) (p4 : Int32) (rec119 : Int32 → kV → kR → Option (Int32 × kV × kR)) (x7 : Int32) (v : kV) (ar : kR) : Option (Int32 × kV × kR) :=
  if (v (5)) ≤ x7 then (fX7_circuit_165 p1 p2 p3 p4 300 (0 : Int32) v ar) else (if x7 < 0 ∨ 7 ≤ x7.toNatClampNeg then none else (if x7 < 0 ∨ 7 ≤ x7.toNatClampNeg then none else (if x7 < 0 ∨ 7 ≤ x7.toNatClampNeg then none else (if x7 < 0 ∨ 7 ≤ x7.toNatClampNeg then none else (rec119 (x7 + (1 : Int32)) v (va_up (va_up ar (4) (upd (ar (4)) x7.toNatClampNeg (ar (7) x7.toNatClampNeg))) (5) (upd ((va_up ar (4) (upd (ar (4)) x7.toNatClampNeg (ar (7) x7.toNatClampNeg))) (5)) x7.toNatClampNeg ((va_up ar (4) (upd (ar (4)) x7.toNatClampNeg (ar (7) x7.toNatClampNeg))) (8) x7.toNatClampNeg))))))))
def fX7_circuit_119 (p1 : Int32) (p2 : Int32) (p3 : Int32) (p4 : Int32) : Nat → Int32 → kV → kR → Option (Int32 × kV × kR)
  | 0 => fun _ _ _ => none
  | n + 1 => fX7_circuit_119b p1 p2 p3 p4 (fX7_circuit_119 p1 p2 p3 p4 n)
def fX7_circuit (v : kV) (ar : kR) (p1 : Int32) (p2 : Int32) (p3 : Int32) (p4 : Int32) : Option (Int32 × kV × kR) :=
  kb1 (fX7_isSheet p1) fun r2 => (if (bI r2) = 0 then (some ((-1 : Int32), (upd v (0) (0 : Int32)), ar)) else (kb1 (fX7_isSort p2) fun r5 => (if (bI r5) = 0 then (some ((-2 : Int32), (upd v (0) (0 : Int32)), ar)) else (kb1 (fX7_against (upd v (0) (0 : Int32)) ar p1 p2 p3 p4) fun r8 => (if r8 = 0 then (kb3 (fX7_readAll (upd (upd v (0) (0 : Int32)) (16) (((60 : Int32) * p1) + p3)) ar ((((60 : Int32) * p1) + p3) + p4)) fun r11 v12 ar13 => (if (bI r11) = 0 then (some (((-100 : Int32) - ((v12 (16)) - (((60 : Int32) * p1) + p3))), v12, ar13)) else (fX7_circuit_119 p1 p2 p3 p4 300 (0 : Int32) (upd (upd (upd (upd v12 (5) (v12 (17))) (6) ((upd v12 (5) (v12 (17))) (18))) (7) ((upd (upd v12 (5) (v12 (17))) (6) ((upd v12 (5) (v12 (17))) (18))) (19))) (8) ((upd (upd (upd v12 (5) (v12 (17))) (6) ((upd v12 (5) (v12 (17))) (18))) (7) ((upd (upd v12 (5) (v12 (17))) (6) ((upd v12 (5) (v12 (17))) (18))) (19))) (20))) ar13))) else (kb3 (fX7_fails (upd v (0) (0 : Int32)) ar r8) fun r24 v25 ar26 => (some (r24, v25, ar26))))))))
def fX7_isCell (v : kV) (ar : kR) (p1 : Int32) : Option Bool :=
  if p1 < 0 then (some false) else (if (v (5)) ≤ p1 then (some false) else (some true))
def fX7_weightOf (v : kV) (ar : kR) (p1 : Int32) : Option Int32 :=
  if p1 < 0 ∨ 7 ≤ p1.toNatClampNeg then none else (if (ar (4) p1.toNatClampNeg) = 0 then (if p1 < 0 ∨ 7 ≤ p1.toNatClampNeg then none else (some (ar (5) p1.toNatClampNeg))) else (if p1 < 0 ∨ 7 ≤ p1.toNatClampNeg then none else (if (ar (4) p1.toNatClampNeg) = (1 : Int32) then (if p1 < 0 ∨ 7 ≤ p1.toNatClampNeg then none else (some ((ar (5) p1.toNatClampNeg) + (1 : Int32)))) else (if p1 < 0 ∨ 7 ≤ p1.toNatClampNeg then none else (some ((2 : Int32) * (ar (5) p1.toNatClampNeg)))))))
def fX7_netsOf_33 (v : kV) (ar : kR) (p1 : Int32) (rec4 : Int32 → Int32 → Option Int32) (x3 : Int32) (s0 : Int32) (s1 : Int32) : Option Int32 :=
  rec4 (s1 ||| s0) (x3 + (1 : Int32))
def fX7_netsOf_4b (v : kV) (ar : kR) (p1 : Int32) (rec4 : Int32 → Int32 → Option Int32) (x2 : Int32) (x3 : Int32) : Option Int32 :=
  if (v (6)) ≤ x3 then (some x2) else (if x3 < 0 ∨ 6 ≤ x3.toNatClampNeg then none else (kb1 (fX7_isOf (ar (6) x3.toNatClampNeg) p1) fun r4 => (if (bI r4) = 0 then (fX7_netsOf_33 v ar p1 rec4 x3 (0 : Int32) x2) else (fX7_netsOf_33 v ar p1 rec4 x3 ((1 : Int32) <<< (x3 &&& 31)) x2))))
def fX7_netsOf_4 (v : kV) (ar : kR) (p1 : Int32) : Nat → Int32 → Int32 → Option Int32
  | 0 => fun _ _ => none
  | n + 1 => fX7_netsOf_4b v ar p1 (fX7_netsOf_4 v ar p1 n)
def fX7_netsOf (v : kV) (ar : kR) (p1 : Int32) : Option Int32 :=
  fX7_netsOf_4 v ar p1 300 (0 : Int32) (0 : Int32)
def fX7_isCut (v : kV) (ar : kR) (p1 : Int32) (p2 : Int32) : Option Bool :=
  if p1 < 0 ∨ 6 ≤ p1.toNatClampNeg then none else (if ((ar (6) p1.toNatClampNeg) &&& p2) = 0 then (some false) else (if p1 < 0 ∨ 6 ≤ p1.toNatClampNeg then none else (if ((ar (6) p1.toNatClampNeg) &&& p2) = (ar (6) p1.toNatClampNeg) then (some false) else (some true))))
def fX7_cutsBy_27 (v : kV) (ar : kR) (p1 : Int32) (rec4 : Int32 → Int32 → Option Int32) (x3 : Int32) (s0 : Int32) (s1 : Int32) : Option Int32 :=
  rec4 (s1 + s0) (x3 + (1 : Int32))
def fX7_cutsBy_4b (v : kV) (ar : kR) (p1 : Int32) (rec4 : Int32 → Int32 → Option Int32) (x2 : Int32) (x3 : Int32) : Option Int32 :=
  if (v (6)) ≤ x3 then (some x2) else (kb1 (fX7_isCut v ar x3 p1) fun r3 => (if (bI r3) = 0 then (fX7_cutsBy_27 v ar p1 rec4 x3 (0 : Int32) x2) else (fX7_cutsBy_27 v ar p1 rec4 x3 (1 : Int32) x2)))
def fX7_cutsBy_4 (v : kV) (ar : kR) (p1 : Int32) : Nat → Int32 → Int32 → Option Int32
  | 0 => fun _ _ => none
  | n + 1 => fX7_cutsBy_4b v ar p1 (fX7_cutsBy_4 v ar p1 n)
def fX7_cutsBy (v : kV) (ar : kR) (p1 : Int32) : Option Int32 :=
  fX7_cutsBy_4 v ar p1 300 (0 : Int32) (0 : Int32)
def fX7_gainOf (v : kV) (ar : kR) (p1 : Int32) (p2 : Int32) : Option Int32 :=
  kb1 (fX7_cutsBy v ar p2) fun r2 => (kb1 (fX7_cutsBy v ar (p2 ^^^ ((1 : Int32) <<< (p1 &&& 31)))) fun r4 => (some (r2 - r4)))
def fX7_all (v : kV) (ar : kR) : Option Int32 :=
  some (((1 : Int32) <<< ((v (5)) &&& 31)) - (1 : Int32))
def fX7_weightOfSet_30 (v : kV) (ar : kR) (p1 : Int32) (rec4 : Int32 → Int32 → Option Int32) (x3 : Int32) (s0 : Int32) (s1 : Int32) : Option Int32 :=
  rec4 (s1 + s0) (x3 + (1 : Int32))
def fX7_weightOfSet_4b (v : kV) (ar : kR) (p1 : Int32) (rec4 : Int32 → Int32 → Option Int32) (x2 : Int32) (x3 : Int32) : Option Int32 :=
  if (v (5)) ≤ x3 then (some x2) else (kb1 (fX7_isOf p1 x3) fun r3 => (if (bI r3) = 0 then (fX7_weightOfSet_30 v ar p1 rec4 x3 (0 : Int32) x2) else (kb1 (fX7_weightOf v ar x3) fun r6 => (fX7_weightOfSet_30 v ar p1 rec4 x3 r6 x2))))
def fX7_weightOfSet_4 (v : kV) (ar : kR) (p1 : Int32) : Nat → Int32 → Int32 → Option Int32
  | 0 => fun _ _ => none
  | n + 1 => fX7_weightOfSet_4b v ar p1 (fX7_weightOfSet_4 v ar p1 n)
def fX7_weightOfSet (v : kV) (ar : kR) (p1 : Int32) : Option Int32 :=
  fX7_weightOfSet_4 v ar p1 300 (0 : Int32) (0 : Int32)
def fX7_floatOf_78 (p0 : Int32) (p1 : Int32) (x2 : Int32) (x5 : Int64) : Option Int32 :=
  some ((((127 : Int32) - x2) <<< ((23 : Int32) &&& 31)) + ((x5 - (8388608 : Int64)).toInt32))
def fX7_floatOf_72 (p0 : Int32) (p1 : Int32) (x2 : Int32) (x5 : Int64) : Option Int32 :=
  fX7_floatOf_78 p0 p1 x2 (x5 + (1 : Int64))
def fX7_floatOf_8b (p0 : Int32) (p1 : Int32) (rec8 : Int32 → Option Int32) (x2 : Int32) : Option Int32 :=
  if p1 ≤ (p0 <<< (x2 &&& 31)) then (if (p1.toInt64) = 0 then none else (if (p1.toInt64) = 0 then none else (if 0 < (lg_cmp ((2 : Int64) * (((p0.toInt64) <<< (((23 : Int32) + x2).toInt64 &&& 63)) - ((p0.toInt64) <<< (((23 : Int32) + x2).toInt64 &&& 63)) / (p1.toInt64) * (p1.toInt64))) (p1.toInt64)) then (fX7_floatOf_72 p0 p1 x2 (((p0.toInt64) <<< (((23 : Int32) + x2).toInt64 &&& 63)) / (p1.toInt64))) else (if (lg_cmp ((2 : Int64) * (((p0.toInt64) <<< (((23 : Int32) + x2).toInt64 &&& 63)) - ((p0.toInt64) <<< (((23 : Int32) + x2).toInt64 &&& 63)) / (p1.toInt64) * (p1.toInt64))) (p1.toInt64)) = 0 then (if (2 : Int64) = 0 then none else (if (lg_cmp ((((p0.toInt64) <<< (((23 : Int32) + x2).toInt64 &&& 63)) / (p1.toInt64)) - (((p0.toInt64) <<< (((23 : Int32) + x2).toInt64 &&& 63)) / (p1.toInt64)) / (2 : Int64) * (2 : Int64)) (1 : Int64)) = 0 then (fX7_floatOf_72 p0 p1 x2 (((p0.toInt64) <<< (((23 : Int32) + x2).toInt64 &&& 63)) / (p1.toInt64))) else (fX7_floatOf_78 p0 p1 x2 (((p0.toInt64) <<< (((23 : Int32) + x2).toInt64 &&& 63)) / (p1.toInt64))))) else (fX7_floatOf_78 p0 p1 x2 (((p0.toInt64) <<< (((23 : Int32) + x2).toInt64 &&& 63)) / (p1.toInt64))))))) else (rec8 (x2 + (1 : Int32)))
def fX7_floatOf_8 (p0 : Int32) (p1 : Int32) : Nat → Int32 → Option Int32
  | 0 => fun _ => none
  | n + 1 => fX7_floatOf_8b p0 p1 (fX7_floatOf_8 p0 p1 n)
def fX7_floatOf (p0 : Int32) (p1 : Int32) : Option Int32 :=
  if p0 = 0 then (some (0 : Int32)) else (fX7_floatOf_8 p0 p1 300 (0 : Int32))
def fX7_ofCell (v : kV) (ar : kR) (p1 : Int32) (p2 : Int32) : Option Int32 :=
  kb1 (fX7_isCell v ar p1) fun r2 => (if (bI r2) = 0 then (some (-1 : Int32)) else (if p2 = (0 : Int32) then (if p1 < 0 ∨ 7 ≤ p1.toNatClampNeg then none else (some (ar (4) p1.toNatClampNeg))) else (if p2 = (1 : Int32) then (if p1 < 0 ∨ 7 ≤ p1.toNatClampNeg then none else (some (ar (5) p1.toNatClampNeg))) else (if p2 = (2 : Int32) then (kb1 (fX7_weightOf v ar p1) fun r10 => (some r10)) else (if p2 = (3 : Int32) then (some (((v (7)) >>> (p1 &&& 31)) &&& (1 : Int32))) else (if p2 = (4 : Int32) then (some (((v (8)) >>> (p1 &&& 31)) &&& (1 : Int32))) else (if p2 = (5 : Int32) then (kb1 (fX7_netsOf v ar p1) fun r15 => (some r15)) else (if p2 = (6 : Int32) then (kb1 (fX7_gainOf v ar p1 (v (7))) fun r18 => (some (r18 + (10 : Int32)))) else (if p2 = (7 : Int32) then (kb1 (fX7_weightOf v ar p1) fun r21 => (kb1 (fX7_all v ar) fun r23 => (kb1 (fX7_weightOfSet v ar r23) fun r25 => (kb1 (fX7_floatOf r21 r25) fun r27 => (some r27))))) else (some (-2 : Int32)))))))))))
def fX7_ofNet (v : kV) (ar : kR) (p1 : Int32) (p2 : Int32) : Option Int32 :=
  if p1 < 0 then (some (-1 : Int32)) else (if p1 < (v (6)) then (if p2 = 0 then (if p1 < 0 ∨ 6 ≤ p1.toNatClampNeg then none else (some (ar (6) p1.toNatClampNeg))) else (if p2 = (1 : Int32) then (if p1 < 0 ∨ 6 ≤ p1.toNatClampNeg then none else (some ((ar (6) p1.toNatClampNeg) &&& (v (7))))) else (if p2 = (2 : Int32) then (kb1 (fX7_isCut v ar p1 (v (7))) fun r7 => (if (bI r7) = 0 then (some (0 : Int32)) else (some (1 : Int32)))) else (some (-2 : Int32))))) else (some (-1 : Int32)))
def fX7_shareOf_18 (v : kV) (ar : kR) (p1 : Int32) (p2 : Int32) (s0 : Int32) : Option Int32 :=
  kb1 (fX7_weightOfSet v ar s0) fun r5 => (kb1 (fX7_all v ar) fun r7 => (kb1 (fX7_weightOfSet v ar r7) fun r9 => (kb1 (fX7_floatOf r5 r9) fun r11 => (some r11))))
def fX7_shareOf (v : kV) (ar : kR) (p1 : Int32) (p2 : Int32) : Option Int32 :=
  if p1 = (1 : Int32) then (fX7_shareOf_18 v ar p1 p2 p2) else (kb1 (fX7_all v ar) fun r3 => (fX7_shareOf_18 v ar p1 p2 (r3 &&& (p2 ^^^ (-1 : Int32)))))
def fX7_isWithin (v : kV) (ar : kR) (p1 : Int32) (p2 : Int32) : Option Bool :=
  kb1 (fX7_shareOf v ar p1 p2) fun r2 => (if (v (9)) < r2 then (some false) else (some true))
def fX7_ofSide_45 (v : kV) (ar : kR) (p1 : Int32) (p2 : Int32) (s0 : Int32) : Option Int32 :=
  if p2 = 0 then (some s0) else (if p2 = (1 : Int32) then (kb1 (fX7_weightOfSet v ar s0) fun r18 => (some r18)) else (if p2 = (2 : Int32) then (kb1 (fX7_shareOf v ar p1 (v (7))) fun r16 => (some r16)) else (if p2 = (3 : Int32) then (kb1 (fX7_isWithin v ar p1 (v (7))) fun r13 => (if (bI r13) = 0 then (some (0 : Int32)) else (some (1 : Int32)))) else (some (-2 : Int32)))))
def fX7_ofSide (v : kV) (ar : kR) (p1 : Int32) (p2 : Int32) : Option Int32 :=
  if (v (5)) = 0 then (some (-3 : Int32)) else (kb1 (fX7_within p1 (0 : Int32) (1 : Int32)) fun r3 => (if (bI r3) = 0 then (some (-2 : Int32)) else (if p1 = (1 : Int32) then (fX7_ofSide_45 v ar p1 p2 (v (7))) else (kb1 (fX7_all v ar) fun r7 => (fX7_ofSide_45 v ar p1 p2 (r7 &&& ((v (7)) ^^^ (-1 : Int32))))))))
def fX7_bulk (v : kV) (ar : kR) (p1 : Int32) (p2 : Int32) : Option (Int32 × kV × kR) :=
  kb1 (fX7_isCell v ar p1) fun r2 => (if (bI r2) = 0 then (some ((-1 : Int32), v, ar)) else (kb1 (fX7_within p2 (1 : Int32) (9 : Int32)) fun r5 => (if (bI r5) = 0 then (some ((-2 : Int32), v, ar)) else (if p1 < 0 ∨ 7 ≤ p1.toNatClampNeg then none else (if p1 < 0 ∨ 7 ≤ p1.toNatClampNeg then none else (some ((ar (5) p1.toNatClampNeg), v, (va_up ar (5) (upd (ar (5)) p1.toNatClampNeg p2)))))))))
def fX7_bound (v : kV) (ar : kR) (p1 : Int32) : Option (Int32 × kV × kR) :=
  if (v (5)) = 0 then (some ((-3 : Int32), v, ar)) else (kb1 (fX7_within p1 (1056964608 : Int32) (1065353216 : Int32)) fun r3 => (if (bI r3) = 0 then (some ((-2 : Int32), v, ar)) else (some ((v (9)), (upd v (9) p1), ar))))
def fX7_move (v : kV) (ar : kR) (p1 : Int32) : Option (Int32 × kV × kR) :=
  kb1 (fX7_isCell v ar p1) fun r2 => (if (bI r2) = 0 then (some ((-1 : Int32), v, ar)) else (kb1 (fX7_isOf (v (8)) p1) fun r5 => (if (bI r5) = 0 then (kb1 (fX7_cutsBy (upd v (7) ((v (7)) ^^^ ((1 : Int32) <<< (p1 &&& 31)))) ar ((upd v (7) ((v (7)) ^^^ ((1 : Int32) <<< (p1 &&& 31)))) (7))) fun r8 => (some (r8, (upd v (7) ((v (7)) ^^^ ((1 : Int32) <<< (p1 &&& 31)))), ar))) else (some ((-3 : Int32), v, ar)))))
def fX7_isBetter (v : kV) (ar : kR) (p1 : Int32) (p2 : Int32) (p3 : Int32) (p4 : Int32) : Option Bool :=
  kb1 (fX7_gainOf v ar p1 p4) fun r2 => (kb1 (fX7_gainOf v ar p2 p4) fun r4 => (if p3 = (2 : Int32) then (kb1 (fX7_weightOf v ar p2) fun r15 => (kb1 (fX7_weightOf v ar p1) fun r17 => (if (r2 * r15) ≤ (r4 * r17) then (some false) else (some true)))) else (if r2 = r4 then (if p3 = (1 : Int32) then (kb1 (fX7_weightOf v ar p1) fun r9 => (kb1 (fX7_weightOf v ar p2) fun r11 => (if r9 ≤ r11 then (some false) else (some true)))) else (some false)) else (if r2 ≤ r4 then (some false) else (some true)))))
def fX7_bestOf_100 (v : kV) (ar : kR) (p1 : Int32) (p2 : Int32) (p3 : Int32) (rec7 : Int32 → Int32 → Option Int32) (x5 : Int32) (s0 : Int32) : Option Int32 :=
  rec7 s0 (x5 + (1 : Int32))
def fX7_bestOf_98 (v : kV) (ar : kR) (p1 : Int32) (p2 : Int32) (p3 : Int32) (rec7 : Int32 → Int32 → Option Int32) (x4 : Int32) (x5 : Int32) : Option Int32 :=
  fX7_bestOf_100 v ar p1 p2 p3 rec7 x5 x4
def fX7_bestOf_93 (v : kV) (ar : kR) (p1 : Int32) (p2 : Int32) (p3 : Int32) (rec7 : Int32 → Int32 → Option Int32) (x5 : Int32) : Option Int32 :=
  fX7_bestOf_100 v ar p1 p2 p3 rec7 x5 x5
def fX7_bestOf_66 (v : kV) (ar : kR) (p1 : Int32) (p2 : Int32) (p3 : Int32) (rec7 : Int32 → Int32 → Option Int32) (x4 : Int32) (x5 : Int32) (s0 : Int32) : Option Int32 :=
  if s0 = 0 then (fX7_bestOf_98 v ar p1 p2 p3 rec7 x4 x5) else (if x4 = (-9 : Int32) then (fX7_bestOf_93 v ar p1 p2 p3 rec7 x5) else (kb1 (fX7_isBetter v ar x5 x4 p1 p2) fun r8 => (if (bI r8) = 0 then (fX7_bestOf_98 v ar p1 p2 p3 rec7 x4 x5) else (fX7_bestOf_93 v ar p1 p2 p3 rec7 x5))))
def fX7_bestOf_65 (v : kV) (ar : kR) (p1 : Int32) (p2 : Int32) (p3 : Int32) (rec7 : Int32 → Int32 → Option Int32) (x4 : Int32) (x5 : Int32) : Option Int32 :=
  fX7_bestOf_66 v ar p1 p2 p3 rec7 x4 x5 (0 : Int32)
def fX7_bestOf_7b (v : kV) (ar : kR) (p1 : Int32) (p2 : Int32) (p3 : Int32) (rec7 : Int32 → Int32 → Option Int32) (x4 : Int32) (x5 : Int32) : Option Int32 :=
  if (v (5)) ≤ x5 then (some x4) else (kb1 (fX7_isOf p3 x5) fun r3 => (if (bI r3) = 0 then (kb1 (fX7_isOf (v (8)) x5) fun r11 => (if (bI r11) = 0 then (kb1 (fX7_isWithin v ar (((p2 ^^^ ((1 : Int32) <<< (x5 &&& 31))) >>> (x5 &&& 31)) &&& (1 : Int32)) (p2 ^^^ ((1 : Int32) <<< (x5 &&& 31)))) fun r14 => (if (bI r14) = 0 then (fX7_bestOf_65 v ar p1 p2 p3 rec7 x4 x5) else (fX7_bestOf_66 v ar p1 p2 p3 rec7 x4 x5 (1 : Int32)))) else (fX7_bestOf_65 v ar p1 p2 p3 rec7 x4 x5))) else (fX7_bestOf_65 v ar p1 p2 p3 rec7 x4 x5)))
def fX7_bestOf_7 (v : kV) (ar : kR) (p1 : Int32) (p2 : Int32) (p3 : Int32) : Nat → Int32 → Int32 → Option Int32
  | 0 => fun _ _ => none
  | n + 1 => fX7_bestOf_7b v ar p1 p2 p3 (fX7_bestOf_7 v ar p1 p2 p3 n)
def fX7_bestOf (v : kV) (ar : kR) (p1 : Int32) (p2 : Int32) (p3 : Int32) : Option Int32 :=
  fX7_bestOf_7 v ar p1 p2 p3 300 (-9 : Int32) (0 : Int32)
def fX7_findPass_116 (p1 : Int32) (rec44 : Int32 → Int32 → Int32 → Int32 → kV → kR → Option (kV × kR)) (x2 : Int32) (x3 : Int32) (x4 : Int32) (v : kV) (ar : kR) : Option (kV × kR) :=
  kb1 (fX7_bestOf v ar p1 x2 x3) fun r11 => (rec44 x2 x3 x4 r11 v ar)
def fX7_findPass_44b (p1 : Int32) (rec44 : Int32 → Int32 → Int32 → Int32 → kV → kR → Option (kV × kR)) (x2 : Int32) (x3 : Int32) (x4 : Int32) (x5 : Int32) (v : kV) (ar : kR) : Option (kV × kR) :=
  if x5 = (-9 : Int32) then (some (v, ar)) else (if (v (25)) < 0 ∨ 7 ≤ (v (25)).toNatClampNeg then none else (kb1 (fX7_cutsBy (upd v (25) ((v (25)) + (1 : Int32))) (va_up ar (10) (upd (ar (10)) (v (25)).toNatClampNeg x5)) (x2 ^^^ ((1 : Int32) <<< (x5 &&& 31)))) fun r8 => (if x4 ≤ r8 then (fX7_findPass_116 p1 rec44 (x2 ^^^ ((1 : Int32) <<< (x5 &&& 31))) (x3 ||| ((1 : Int32) <<< (x5 &&& 31))) x4 (upd v (25) ((v (25)) + (1 : Int32))) (va_up ar (10) (upd (ar (10)) (v (25)).toNatClampNeg x5))) else (kb1 (fX7_cutsBy (upd v (25) ((v (25)) + (1 : Int32))) (va_up ar (10) (upd (ar (10)) (v (25)).toNatClampNeg x5)) (x2 ^^^ ((1 : Int32) <<< (x5 &&& 31)))) fun r13 => (fX7_findPass_116 p1 rec44 (x2 ^^^ ((1 : Int32) <<< (x5 &&& 31))) (x3 ||| ((1 : Int32) <<< (x5 &&& 31))) r13 (upd (upd (upd v (25) ((v (25)) + (1 : Int32))) (26) ((upd v (25) ((v (25)) + (1 : Int32))) (25))) (27) (x2 ^^^ ((1 : Int32) <<< (x5 &&& 31)))) (va_up ar (10) (upd (ar (10)) (v (25)).toNatClampNeg x5)))))))
def fX7_findPass_44 (p1 : Int32) : Nat → Int32 → Int32 → Int32 → Int32 → kV → kR → Option (kV × kR)
  | 0 => fun _ _ _ _ _ _ => none
  | n + 1 => fX7_findPass_44b p1 (fX7_findPass_44 p1 n)
def fX7_findPass (v : kV) (ar : kR) (p1 : Int32) : Option (kV × kR) :=
  kb1 (fX7_cutsBy v ar (v (7))) fun r2 => (kb1 (fX7_bestOf (upd (upd (upd v (25) (0 : Int32)) (26) (0 : Int32)) (27) ((upd (upd v (25) (0 : Int32)) (26) (0 : Int32)) (7))) ar p1 (v (7)) (0 : Int32)) fun r4 => (fX7_findPass_44 p1 300 (v (7)) (0 : Int32) r2 r4 (upd (upd (upd v (25) (0 : Int32)) (26) (0 : Int32)) (27) ((upd (upd v (25) (0 : Int32)) (26) (0 : Int32)) (7))) ar))
def fX7_pass (v : kV) (ar : kR) (p1 : Int32) : Option (Int32 × kV × kR) :=
  if (v (5)) = 0 then (some ((-3 : Int32), v, ar)) else (kb1 (fX7_within p1 (0 : Int32) (2 : Int32)) fun r3 => (if (bI r3) = 0 then (some ((-2 : Int32), v, ar)) else (kb2 (fX7_findPass v ar p1) fun v7 ar8 => (some (((upd v7 (7) (v7 (27))) (26)), (upd v7 (7) (v7 (27))), ar8)))))
def fX7_tries_42 (p1 : Int32) (p2 : Int32) (v : kV) (ar : kR) : Option (Int32 × kV × kR) :=
  kb2 (fX7_findPass v ar p1) fun v10 ar11 => (if p2 < (10 : Int32) then (if p2 = 0 then (some ((v10 (25)), v10, ar11)) else (if p2 = (1 : Int32) then (some ((v10 (26)), v10, ar11)) else (kb1 (fX7_cutsBy v10 ar11 (v10 (27))) fun r16 => (some (r16, v10, ar11))))) else (if (v10 (25)) ≤ (p2 - (10 : Int32)) then (some ((-9 : Int32), v10, ar11)) else (if (p2 - (10 : Int32)) < 0 ∨ 7 ≤ (p2 - (10 : Int32)).toNatClampNeg then none else (some ((ar11 (10) (p2 - (10 : Int32)).toNatClampNeg), v10, ar11)))))
def fX7_tries (v : kV) (ar : kR) (p1 : Int32) (p2 : Int32) : Option (Int32 × kV × kR) :=
  if (v (5)) = 0 then (some ((-3 : Int32), v, ar)) else (kb1 (fX7_within p1 (0 : Int32) (2 : Int32)) fun r3 => (if (bI r3) = 0 then (some ((-2 : Int32), v, ar)) else (kb1 (fX7_within p2 (0 : Int32) (2 : Int32)) fun r6 => (if (bI r6) = 0 then (kb1 (fX7_within p2 (10 : Int32) (16 : Int32)) fun r20 => (if (bI r20) = 0 then (some ((-2 : Int32), v, ar)) else (fX7_tries_42 p1 p2 v ar))) else (fX7_tries_42 p1 p2 v ar)))))
def fX7_settle_74 (p1 : Int32) (rec26 : Int32 → Int32 → kV → kR → Option (Int32 × kV × kR)) (x2 : Int32) (s0 : Int32) (v : kV) (ar : kR) : Option (Int32 × kV × kR) :=
  rec26 x2 s0 v ar
def fX7_settle_26b (p1 : Int32) (rec26 : Int32 → Int32 → kV → kR → Option (Int32 × kV × kR)) (x2 : Int32) (x3 : Int32) (v : kV) (ar : kR) : Option (Int32 × kV × kR) :=
  if x3 = 0 then (some (x2, v, ar)) else (kb1 (fX7_cutsBy v ar (v (7))) fun r7 => (kb2 (fX7_findPass v ar p1) fun v10 ar11 => (kb1 (fX7_cutsBy (upd v10 (7) (v10 (27))) ar11 ((upd v10 (7) (v10 (27))) (7))) fun r13 => (if r7 ≤ r13 then (fX7_settle_74 p1 rec26 (x2 + (1 : Int32)) (0 : Int32) (upd v10 (7) (v10 (27))) ar11) else (fX7_settle_74 p1 rec26 (x2 + (1 : Int32)) (1 : Int32) (upd v10 (7) (v10 (27))) ar11)))))
def fX7_settle_26 (p1 : Int32) : Nat → Int32 → Int32 → kV → kR → Option (Int32 × kV × kR)
  | 0 => fun _ _ _ _ => none
  | n + 1 => fX7_settle_26b p1 (fX7_settle_26 p1 n)
def fX7_settle (v : kV) (ar : kR) (p1 : Int32) : Option (Int32 × kV × kR) :=
  if (v (5)) = 0 then (some ((-3 : Int32), v, ar)) else (kb1 (fX7_within p1 (0 : Int32) (2 : Int32)) fun r3 => (if (bI r3) = 0 then (some ((-2 : Int32), v, ar)) else (fX7_settle_26 p1 300 (0 : Int32) (1 : Int32) v ar)))
def fX7_isPair (p0 : Int32) (p1 : Int32) : Option Bool :=
  if p1 = (20 : Int32) then (kb1 (fX7_within p0 (0 : Int32) (2 : Int32)) fun r12 => (some r12)) else (kb1 (fX7_within p1 (10 : Int32) (16 : Int32)) fun r3 => (if (bI r3) = 0 then (kb1 (fX7_within p1 (0 : Int32) (6 : Int32)) fun r6 => (if (bI r6) = 0 then (some false) else (if p0 = 0 then (some true) else (some false)))) else (kb1 (fX7_within p0 (1 : Int32) (9 : Int32)) fun r10 => (some r10))))
def fX7_does_63 (p1 : Int32) (p2 : Int32) (x3 : Int32) (v : kV) (ar : kR) : Option (Bool × kV × kR) :=
  if p2 < (10 : Int32) then (some (true, (upd v (7) ((v (7)) ^^^ ((1 : Int32) <<< (x3 &&& 31)))), ar)) else (if x3 < 0 ∨ 7 ≤ x3.toNatClampNeg then none else (some (true, v, (va_up ar (5) (upd (ar (5)) x3.toNatClampNeg p1)))))
def fX7_does_35 (p1 : Int32) (p2 : Int32) (s0 : Int32) (v : kV) (ar : kR) : Option (Bool × kV × kR) :=
  kb1 (fX7_isCell v ar s0) fun r4 => (if (bI r4) = 0 then (some (false, v, ar)) else (if (10 : Int32) ≤ p2 then (fX7_does_63 p1 p2 s0 v ar) else (kb1 (fX7_isOf (v (8)) s0) fun r10 => (if (bI r10) = 0 then (fX7_does_63 p1 p2 s0 v ar) else (some (false, v, ar))))))
def fX7_does (v : kV) (ar : kR) (p1 : Int32) (p2 : Int32) : Option (Bool × kV × kR) :=
  if p2 = (20 : Int32) then (kb2 (fX7_findPass v ar p1) fun v14 ar15 => (some (true, (upd v14 (7) (v14 (27))), ar15))) else (if p2 < (10 : Int32) then (fX7_does_35 p1 p2 p2 v ar) else (fX7_does_35 p1 p2 (p2 - (10 : Int32)) v ar))
def fX7_goDay_2b (p1 : Int32) (p2 : Int32) (rec2 : Int32 → kV → kR → Option (Int32 × kV × kR)) (x3 : Int32) (v : kV) (ar : kR) : Option (Int32 × kV × kR) :=
  if p2 ≤ x3 then (some ((-9 : Int32), v, ar)) else (if (p1 + ((2 : Int32) * x3)) < 0 ∨ 240 ≤ (p1 + ((2 : Int32) * x3)).toNatClampNeg then none else (if ((p1 + ((2 : Int32) * x3)) + (1 : Int32)) < 0 ∨ 240 ≤ ((p1 + ((2 : Int32) * x3)) + (1 : Int32)).toNatClampNeg then none else (kb3 (fX7_does v ar (ar (2) (p1 + ((2 : Int32) * x3)).toNatClampNeg) (ar (2) ((p1 + ((2 : Int32) * x3)) + (1 : Int32)).toNatClampNeg)) fun r5 v6 ar7 => (if (bI r5) = 0 then (some (x3, v6, ar7)) else (rec2 (x3 + (1 : Int32)) v6 ar7)))))
def fX7_goDay_2 (p1 : Int32) (p2 : Int32) : Nat → Int32 → kV → kR → Option (Int32 × kV × kR)
  | 0 => fun _ _ _ => none
  | n + 1 => fX7_goDay_2b p1 p2 (fX7_goDay_2 p1 p2 n)
def fX7_goDay (v : kV) (ar : kR) (p1 : Int32) (p2 : Int32) : Option (Int32 × kV × kR) :=
  fX7_goDay_2 p1 p2 300 (0 : Int32) v ar
def fX7_tellDay (v : kV) (ar : kR) (p1 : Int32) : Option Int32 :=
  if p1 < (10 : Int32) then (if p1 = 0 then (kb1 (fX7_cutsBy v ar (v (7))) fun r12 => (some r12)) else (if p1 = (2 : Int32) then (some (v (7))) else (if p1 = (3 : Int32) then (kb1 (fX7_all v ar) fun r8 => (kb1 (fX7_weightOfSet v ar (r8 &&& ((v (7)) ^^^ (-1 : Int32)))) fun r10 => (some r10))) else (kb1 (fX7_shareOf v ar (0 : Int32) (v (7))) fun r6 => (some r6))))) else (kb1 (fX7_isCell v ar (p1 - (10 : Int32))) fun r14 => (if (bI r14) = 0 then (some (-9 : Int32)) else (kb1 (fX7_gainOf v ar (p1 - (10 : Int32)) (v (7))) fun r17 => (some (r17 + (10 : Int32))))))
def fX7_day_216b (p1 : Int32) (p2 : Int32) (p3 : Int32) (p4 : Int32) (p5 : Int32) (rec216 : Int32 → Int32 → Int32 → kV → kR → Option (Int32 × kV × kR)) (x9 : Int32) (x10 : Int32) (x11 : Int32) (v : kV) (ar : kR) : Option (Int32 × kV × kR) :=
  if (v (5)) ≤ x11 then (if p5 = (1 : Int32) then (some (x9, v, ar)) else (if x9 = (-9 : Int32) then (some (x10, v, ar)) else (some (((-100 : Int32) - x9), v, ar)))) else (if x11 < 0 ∨ 7 ≤ x11.toNatClampNeg then none else (if x11 < 0 ∨ 7 ≤ x11.toNatClampNeg then none else (rec216 x9 x10 (x11 + (1 : Int32)) v (va_up ar (5) (upd (ar (5)) x11.toNatClampNeg (ar (11) x11.toNatClampNeg))))))
def fX7_day_216 (p1 : Int32) (p2 : Int32) (p3 : Int32) (p4 : Int32) (p5 : Int32) : Nat → Int32 → Int32 → Int32 → kV → kR → Option (Int32 × kV × kR)
  | 0 => fun _ _ _ _ _ => none
  | n + 1 => fX7_day_216b p1 p2 p3 p4 p5 (fX7_day_216 p1 p2 p3 p4 p5 n)
def fX7_day_160b (p1 : Int32) (p2 : Int32) (p3 : Int32) (p4 : Int32) (p5 : Int32) (rec160 : Int32 → Int32 → Int32 → kV → kR → Option (Int32 × kV × kR)) (x7 : Int32) (x8 : Int32) (x9 : Int32) (v : kV) (ar : kR) : Option (Int32 × kV × kR) :=
  if (v (5)) ≤ x9 then (kb3 (fX7_goDay v ar x7 p4) fun r20 v21 ar22 => (kb1 (fX7_tellDay v21 ar22 p5) fun r24 => (fX7_day_216 p1 p2 p3 p4 p5 300 r20 r24 (0 : Int32) (upd v21 (7) x8) ar22))) else (if x9 < 0 ∨ 7 ≤ x9.toNatClampNeg then none else (if x9 < 0 ∨ 7 ≤ x9.toNatClampNeg then none else (rec160 x7 x8 (x9 + (1 : Int32)) v (va_up ar (11) (upd (ar (11)) x9.toNatClampNeg (ar (5) x9.toNatClampNeg))))))
def fX7_day_160 (p1 : Int32) (p2 : Int32) (p3 : Int32) (p4 : Int32) (p5 : Int32) : Nat → Int32 → Int32 → Int32 → kV → kR → Option (Int32 × kV × kR)
  | 0 => fun _ _ _ _ _ => none
  | n + 1 => fX7_day_160b p1 p2 p3 p4 p5 (fX7_day_160 p1 p2 p3 p4 p5 n)
def fX7_day_103b (p1 : Int32) (p2 : Int32) (p3 : Int32) (p4 : Int32) (p5 : Int32) (rec103 : Int32 → Int32 → kV → kR → Option (Int32 × kV × kR)) (x7 : Int32) (x8 : Int32) (v : kV) (ar : kR) : Option (Int32 × kV × kR) :=
  if p4 ≤ x8 then (fX7_day_160 p1 p2 p3 p4 p5 300 x7 (v (7)) (0 : Int32) v ar) else (if (x7 + ((2 : Int32) * x8)) < 0 ∨ 240 ≤ (x7 + ((2 : Int32) * x8)).toNatClampNeg then none else (if ((x7 + ((2 : Int32) * x8)) + (1 : Int32)) < 0 ∨ 240 ≤ ((x7 + ((2 : Int32) * x8)) + (1 : Int32)).toNatClampNeg then none else (kb1 (fX7_isPair (ar (2) (x7 + ((2 : Int32) * x8)).toNatClampNeg) (ar (2) ((x7 + ((2 : Int32) * x8)) + (1 : Int32)).toNatClampNeg)) fun r35 => (if (bI r35) = 0 then (some ((-2 : Int32), v, ar)) else (rec103 x7 (x8 + (1 : Int32)) v ar)))))
def fX7_day_103 (p1 : Int32) (p2 : Int32) (p3 : Int32) (p4 : Int32) (p5 : Int32) : Nat → Int32 → Int32 → kV → kR → Option (Int32 × kV × kR)
  | 0 => fun _ _ _ _ => none
  | n + 1 => fX7_day_103b p1 p2 p3 p4 p5 (fX7_day_103 p1 p2 p3 p4 p5 n)
def fX7_day_57 (p1 : Int32) (p2 : Int32) (p3 : Int32) (p4 : Int32) (p5 : Int32) (v : kV) (ar : kR) : Option (Int32 × kV × kR) :=
  kb1 (fX7_against v ar p1 p2 p3 ((2 : Int32) * p4)) fun r14 => (if r14 = 0 then (if (v (5)) = 0 then (some ((-3 : Int32), v, ar)) else (fX7_day_103 p1 p2 p3 p4 p5 300 (((60 : Int32) * p1) + p3) (0 : Int32) v ar)) else (kb3 (fX7_fails v ar r14) fun r38 v39 ar40 => (some (r38, v39, ar40))))
def fX7_day (v : kV) (ar : kR) (p1 : Int32) (p2 : Int32) (p3 : Int32) (p4 : Int32) (p5 : Int32) : Option (Int32 × kV × kR) :=
  kb1 (fX7_isSheet p1) fun r2 => (if (bI r2) = 0 then (some ((-1 : Int32), (upd v (0) (0 : Int32)), ar)) else (kb1 (fX7_isSort p2) fun r5 => (if (bI r5) = 0 then (some ((-2 : Int32), (upd v (0) (0 : Int32)), ar)) else (kb1 (fX7_within p4 (0 : Int32) (20 : Int32)) fun r8 => (if (bI r8) = 0 then (some ((-2 : Int32), (upd v (0) (0 : Int32)), ar)) else (kb1 (fX7_within p5 (0 : Int32) (4 : Int32)) fun r11 => (if (bI r11) = 0 then (kb1 (fX7_within p5 (10 : Int32) (16 : Int32)) fun r42 => (if (bI r42) = 0 then (some ((-2 : Int32), (upd v (0) (0 : Int32)), ar)) else (fX7_day_57 p1 p2 p3 p4 p5 (upd v (0) (0 : Int32)) ar))) else (fX7_day_57 p1 p2 p3 p4 p5 (upd v (0) (0 : Int32)) ar))))))))
def fX7_least_107 (v : kV) (ar : kR) (p1 : Int32) (rec27 : Int32 → Int32 → Option Int32) (x3 : Int32) (s0 : Int32) : Option Int32 :=
  rec27 s0 (x3 + (1 : Int32))
def fX7_least_106 (v : kV) (ar : kR) (p1 : Int32) (rec27 : Int32 → Int32 → Option Int32) (x2 : Int32) (x3 : Int32) : Option Int32 :=
  fX7_least_107 v ar p1 rec27 x3 x2
def fX7_least_102 (v : kV) (ar : kR) (p1 : Int32) (rec27 : Int32 → Int32 → Option Int32) (x3 : Int32) : Option Int32 :=
  fX7_least_107 v ar p1 rec27 x3 x3
def fX7_least_76 (v : kV) (ar : kR) (p1 : Int32) (rec27 : Int32 → Int32 → Option Int32) (x2 : Int32) (x3 : Int32) (s0 : Int32) : Option Int32 :=
  if s0 = 0 then (fX7_least_106 v ar p1 rec27 x2 x3) else (if x2 = (-9 : Int32) then (fX7_least_102 v ar p1 rec27 x3) else (kb1 (fX7_cutsBy v ar x3) fun r16 => (kb1 (fX7_cutsBy v ar x2) fun r18 => (if r18 ≤ r16 then (fX7_least_106 v ar p1 rec27 x2 x3) else (fX7_least_102 v ar p1 rec27 x3)))))
def fX7_least_75 (v : kV) (ar : kR) (p1 : Int32) (rec27 : Int32 → Int32 → Option Int32) (x2 : Int32) (x3 : Int32) : Option Int32 :=
  fX7_least_76 v ar p1 rec27 x2 x3 (0 : Int32)
def fX7_least_27b (v : kV) (ar : kR) (p1 : Int32) (rec27 : Int32 → Int32 → Option Int32) (x2 : Int32) (x3 : Int32) : Option Int32 :=
  kb1 (fX7_all v ar) fun r6 => (if r6 < x3 then (if x2 = (-9 : Int32) then (some (-9 : Int32)) else (if p1 = 0 then (kb1 (fX7_cutsBy v ar x2) fun r11 => (some r11)) else (some x2))) else (if (x3 &&& (v (8))) = ((v (7)) &&& (v (8))) then (kb1 (fX7_isWithin v ar (0 : Int32) x3) fun r21 => (if (bI r21) = 0 then (fX7_least_75 v ar p1 rec27 x2 x3) else (kb1 (fX7_isWithin v ar (1 : Int32) x3) fun r24 => (if (bI r24) = 0 then (fX7_least_75 v ar p1 rec27 x2 x3) else (fX7_least_76 v ar p1 rec27 x2 x3 (1 : Int32)))))) else (fX7_least_75 v ar p1 rec27 x2 x3)))
def fX7_least_27 (v : kV) (ar : kR) (p1 : Int32) : Nat → Int32 → Int32 → Option Int32
  | 0 => fun _ _ => none
  | n + 1 => fX7_least_27b v ar p1 (fX7_least_27 v ar p1 n)
def fX7_least (v : kV) (ar : kR) (p1 : Int32) : Option Int32 :=
  if (v (5)) = 0 then (some (-3 : Int32)) else (kb1 (fX7_within p1 (0 : Int32) (1 : Int32)) fun r3 => (if (bI r3) = 0 then (some (-2 : Int32)) else (fX7_least_27 v ar p1 300 (-9 : Int32) (0 : Int32))))
def fX7_apart_88 (v : kV) (ar : kR) (p1 : Int32) (p2 : Int32) (rec29 : Int32 → Int32 → Option Int32) (x4 : Int32) (s0 : Int32) : Option Int32 :=
  rec29 s0 (x4 + (1 : Int32))
def fX7_apart_87 (v : kV) (ar : kR) (p1 : Int32) (p2 : Int32) (rec29 : Int32 → Int32 → Option Int32) (x3 : Int32) (x4 : Int32) : Option Int32 :=
  fX7_apart_88 v ar p1 p2 rec29 x4 x3
def fX7_apart_61 (v : kV) (ar : kR) (p1 : Int32) (p2 : Int32) (rec29 : Int32 → Int32 → Option Int32) (x3 : Int32) (x4 : Int32) (s0 : Int32) : Option Int32 :=
  if s0 = 0 then (fX7_apart_87 v ar p1 p2 rec29 x3 x4) else (kb1 (fX7_cutsBy v ar x4) fun r16 => (if x3 ≤ r16 then (fX7_apart_87 v ar p1 p2 rec29 x3 x4) else (kb1 (fX7_cutsBy v ar x4) fun r19 => (fX7_apart_88 v ar p1 p2 rec29 x4 r19))))
def fX7_apart_60 (v : kV) (ar : kR) (p1 : Int32) (p2 : Int32) (rec29 : Int32 → Int32 → Option Int32) (x3 : Int32) (x4 : Int32) : Option Int32 :=
  fX7_apart_61 v ar p1 p2 rec29 x3 x4 (0 : Int32)
def fX7_apart_29b (v : kV) (ar : kR) (p1 : Int32) (p2 : Int32) (rec29 : Int32 → Int32 → Option Int32) (x3 : Int32) (x4 : Int32) : Option Int32 :=
  kb1 (fX7_all v ar) fun r9 => (if r9 < x4 then (some x3) else (kb1 (fX7_isOf x4 p1) fun r12 => (if (bI r12) = 0 then (kb1 (fX7_isOf x4 p2) fun r21 => (if (bI r21) = 0 then (fX7_apart_60 v ar p1 p2 rec29 x3 x4) else (fX7_apart_61 v ar p1 p2 rec29 x3 x4 (1 : Int32)))) else (fX7_apart_60 v ar p1 p2 rec29 x3 x4))))
def fX7_apart_29 (v : kV) (ar : kR) (p1 : Int32) (p2 : Int32) : Nat → Int32 → Int32 → Option Int32
  | 0 => fun _ _ => none
  | n + 1 => fX7_apart_29b v ar p1 p2 (fX7_apart_29 v ar p1 p2 n)
def fX7_apart (v : kV) (ar : kR) (p1 : Int32) (p2 : Int32) : Option Int32 :=
  kb1 (fX7_isCell v ar p1) fun r2 => (if (bI r2) = 0 then (some (-1 : Int32)) else (kb1 (fX7_isCell v ar p2) fun r5 => (if (bI r5) = 0 then (some (-1 : Int32)) else (if p1 = p2 then (some (-1 : Int32)) else (fX7_apart_29 v ar p1 p2 300 (6 : Int32) (0 : Int32))))))
def fX7_closest_92 (v : kV) (ar : kR) (p1 : Int32) (rec34 : Int32 → Int32 → Int32 → Int32 → Option Int32) (rec49 : Int32 → Int32 → Int32 → Int32 → Int32 → Option Int32) (x2 : Int32) (x3 : Int32) (x4 : Int32) (x5 : Int32) (x6 : Int32) : Option Int32 :=
  rec49 x2 x3 x4 x5 (x6 + (1 : Int32))
def fX7_closest_49b (v : kV) (ar : kR) (p1 : Int32) (rec34 : Int32 → Int32 → Int32 → Int32 → Option Int32) (rec49 : Int32 → Int32 → Int32 → Int32 → Int32 → Option Int32) (x2 : Int32) (x3 : Int32) (x4 : Int32) (x5 : Int32) (x6 : Int32) : Option Int32 :=
  if (v (5)) ≤ x6 then (rec34 x2 x3 x4 (x5 + (1 : Int32))) else (kb1 (fX7_netsOf v ar x5) fun r10 => (kb1 (fX7_netsOf v ar x6) fun r12 => (kb1 (fX7_size (r10 &&& r12)) fun r14 => (if r14 ≤ x2 then (fX7_closest_92 v ar p1 rec34 rec49 x2 x3 x4 x5 x6) else (fX7_closest_92 v ar p1 rec34 rec49 r14 x5 x6 x5 x6)))))
def fX7_closest_49 (v : kV) (ar : kR) (p1 : Int32) (rec34 : Int32 → Int32 → Int32 → Int32 → Option Int32) : Nat → Int32 → Int32 → Int32 → Int32 → Int32 → Option Int32
  | 0 => fun _ _ _ _ _ => none
  | n + 1 => fX7_closest_49b v ar p1 rec34 (fX7_closest_49 v ar p1 rec34 n)
def fX7_closest_34b (v : kV) (ar : kR) (p1 : Int32) (rec34 : Int32 → Int32 → Int32 → Int32 → Option Int32) (x2 : Int32) (x3 : Int32) (x4 : Int32) (x5 : Int32) : Option Int32 :=
  if (v (5)) ≤ x5 then (if p1 = 0 then (some x2) else (if p1 = (1 : Int32) then (some x3) else (some x4))) else (fX7_closest_49 v ar p1 rec34 300 x2 x3 x4 x5 (x5 + (1 : Int32)))
def fX7_closest_34 (v : kV) (ar : kR) (p1 : Int32) : Nat → Int32 → Int32 → Int32 → Int32 → Option Int32
  | 0 => fun _ _ _ _ => none
  | n + 1 => fX7_closest_34b v ar p1 (fX7_closest_34 v ar p1 n)
def fX7_closest (v : kV) (ar : kR) (p1 : Int32) : Option Int32 :=
  if (2 : Int32) ≤ (v (5)) then (kb1 (fX7_within p1 (0 : Int32) (2 : Int32)) fun r3 => (if (bI r3) = 0 then (some (-2 : Int32)) else (fX7_closest_34 v ar p1 300 (-9 : Int32) (0 : Int32) (0 : Int32) (0 : Int32)))) else (some (-3 : Int32))
def fX7_rack_55b (p1 : Int32) (p2 : Int32) (rec55 : Int32 → kV → kR → Option (Int32 × kV × kR)) (x3 : Int32) (v : kV) (ar : kR) : Option (Int32 × kV × kR) :=
  if (9 : Int32) ≤ x3 then (some (p2, v, ar)) else (if x3 < 0 ∨ 9 ≤ x3.toNatClampNeg then none else (rec55 (x3 + (1 : Int32)) v (va_up ar (3) (upd (ar (3)) x3.toNatClampNeg (-9 : Int32)))))
def fX7_rack_55 (p1 : Int32) (p2 : Int32) : Nat → Int32 → kV → kR → Option (Int32 × kV × kR)
  | 0 => fun _ _ _ => none
  | n + 1 => fX7_rack_55b p1 p2 (fX7_rack_55 p1 p2 n)
def fX7_rack (v : kV) (ar : kR) (p1 : Int32) (p2 : Int32) : Option (Int32 × kV × kR) :=
  if ((upd v (0) (0 : Int32)) (5)) = 0 then (some ((-3 : Int32), (upd v (0) (0 : Int32)), ar)) else (kb1 (fX7_within p1 (0 : Int32) (2 : Int32)) fun r3 => (if (bI r3) = 0 then (some ((-2 : Int32), (upd v (0) (0 : Int32)), ar)) else (if p2 ≤ (9 : Int32) then (if 0 ≤ p2 then (fX7_rack_55 p1 p2 300 (0 : Int32) (upd (upd (upd v (0) (0 : Int32)) (10) p1) (11) p2) ar) else (kb3 (fX7_fails (upd v (0) (0 : Int32)) ar (4 : Int32)) fun r10 v11 ar12 => (some (r10, v11, ar12)))) else (some ((-2 : Int32), (upd v (0) (0 : Int32)), ar)))))
def fX7_stow_42 (p1 : Int32) (p2 : Int32) (v : kV) (ar : kR) : Option (Int32 × kV × kR) :=
  kb3 (fX7_fails v ar (3 : Int32)) fun r7 v8 ar9 => (some (r7, v8, ar9))
def fX7_stow (v : kV) (ar : kR) (p1 : Int32) (p2 : Int32) : Option (Int32 × kV × kR) :=
  kb1 (fX7_isCell (upd v (0) (0 : Int32)) ar p2) fun r2 => (if (bI r2) = 0 then (some ((-1 : Int32), (upd v (0) (0 : Int32)), ar)) else (if ((upd v (0) (0 : Int32)) (10)) = (-9 : Int32) then (kb3 (fX7_fails (upd v (0) (0 : Int32)) ar (1 : Int32)) fun r19 v20 ar21 => (some (r19, v20, ar21))) else (if p1 < 0 then (fX7_stow_42 p1 p2 (upd v (0) (0 : Int32)) ar) else (if p1 < ((upd v (0) (0 : Int32)) (11)) then (if p2 < 0 ∨ 7 ≤ p2.toNatClampNeg then none else (if ((upd v (0) (0 : Int32)) (10)) ≤ (ar (4) p2.toNatClampNeg) then (if p1 < 0 ∨ 9 ≤ p1.toNatClampNeg then none else (some ((1 : Int32), (upd v (0) (0 : Int32)), (va_up ar (3) (upd (ar (3)) p1.toNatClampNeg p2))))) else (kb3 (fX7_fails (upd v (0) (0 : Int32)) ar (5 : Int32)) fun r15 v16 ar17 => (some (r15, v16, ar17))))) else (fX7_stow_42 p1 p2 (upd v (0) (0 : Int32)) ar)))))
def fX7_stowed_32 (p1 : Int32) (v : kV) (ar : kR) : Option (Int32 × kV × kR) :=
  kb3 (fX7_fails v ar (3 : Int32)) fun r4 v5 ar6 => (some (r4, v5, ar6))
def fX7_stowed (v : kV) (ar : kR) (p1 : Int32) : Option (Int32 × kV × kR) :=
  if ((upd v (0) (0 : Int32)) (10)) = (-9 : Int32) then (kb3 (fX7_fails (upd v (0) (0 : Int32)) ar (1 : Int32)) fun r10 v11 ar12 => (some (r10, v11, ar12))) else (if p1 < 0 then (fX7_stowed_32 p1 (upd v (0) (0 : Int32)) ar) else (if p1 < ((upd v (0) (0 : Int32)) (11)) then (if p1 < 0 ∨ 9 ≤ p1.toNatClampNeg then none else (some ((ar (3) p1.toNatClampNeg), (upd v (0) (0 : Int32)), ar))) else (fX7_stowed_32 p1 (upd v (0) (0 : Int32)) ar)))
def fX7_reading (v : kV) (ar : kR) (p1 : Int32) (p2 : Int32) : Option (Int32 × kV × kR) :=
  kb1 (fX7_isCell v ar p1) fun r2 => (if (bI r2) = 0 then (some ((-1 : Int32), v, ar)) else (kb1 (fX7_within p2 (0 : Int32) (1065353216 : Int32)) fun r5 => (if (bI r5) = 0 then (some ((-2 : Int32), v, ar)) else (if (v (29)) = (8 : Int32) then (some ((-4 : Int32), v, ar)) else (if (v (29)) < 0 ∨ 8 ≤ (v (29)).toNatClampNeg then none else (if (v (29)) < 0 ∨ 8 ≤ (v (29)).toNatClampNeg then none else (some ((((upd v (29) ((v (29)) + (1 : Int32))) (29)) - (1 : Int32)), (upd v (29) ((v (29)) + (1 : Int32))), (va_up (va_up ar (12) (upd (ar (12)) (v (29)).toNatClampNeg p1)) (13) (upd ((va_up ar (12) (upd (ar (12)) (v (29)).toNatClampNeg p1)) (13)) (v (29)).toNatClampNeg p2))))))))))
def fX7_back (v : kV) (ar : kR) (p1 : Int32) : Option (Int32 × kV × kR) :=
  kb1 (fX7_within p1 (0 : Int32) (v (29))) fun r2 => (if (bI r2) = 0 then (some ((-2 : Int32), v, ar)) else (some (((upd v (29) ((v (29)) - p1)) (29)), (upd v (29) ((v (29)) - p1)), ar)))
def fX7_areSo_11b (v : kV) (ar : kR) (rec11 : Int32 → Int32 → Option Bool) (x1 : Int32) (x2 : Int32) : Option Bool :=
  if (v (29)) ≤ x2 then (some true) else (if x2 < 0 ∨ 8 ≤ x2.toNatClampNeg then none else (kb1 (fX7_weightOf v ar (ar (12) x2.toNatClampNeg)) fun r8 => (kb1 (fX7_floatOf r8 x1) fun r10 => (if x2 < 0 ∨ 8 ≤ x2.toNatClampNeg then none else (if r10 = (ar (13) x2.toNatClampNeg) then (rec11 x1 (x2 + (1 : Int32))) else (some false))))))
def fX7_areSo_11 (v : kV) (ar : kR) : Nat → Int32 → Int32 → Option Bool
  | 0 => fun _ _ => none
  | n + 1 => fX7_areSo_11b v ar (fX7_areSo_11 v ar n)
def fX7_areSo (v : kV) (ar : kR) : Option Bool :=
  kb1 (fX7_all v ar) fun r2 => (kb1 (fX7_weightOfSet v ar r2) fun r4 => (fX7_areSo_11 v ar 300 r4 (0 : Int32)))
def fX7_kinds_52 (p1 : Int32) (rec22 : Int32 → Int32 → Int32 → kV → kR → Option (Int32 × kV × kR)) (x2 : Int32) (x4 : Int32) (s0 : Int32) (s1 : Int32) (v : kV) (ar : kR) : Option (Int32 × kV × kR) :=
  rec22 x2 (s1 ||| s0) (x4 + (1 : Int32)) v ar
def fX7_kinds_22b (p1 : Int32) (rec22 : Int32 → Int32 → Int32 → kV → kR → Option (Int32 × kV × kR)) (x2 : Int32) (x3 : Int32) (x4 : Int32) (v : kV) (ar : kR) : Option (Int32 × kV × kR) :=
  if (3 : Int32) ≤ x4 then (if p1 < 0 ∨ 7 ≤ p1.toNatClampNeg then none else (some (x3, v, (va_up ar (4) (upd (ar (4)) p1.toNatClampNeg x2))))) else (if p1 < 0 ∨ 7 ≤ p1.toNatClampNeg then none else (kb1 (fX7_areSo v (va_up ar (4) (upd (ar (4)) p1.toNatClampNeg x4))) fun r9 => (if (bI r9) = 0 then (fX7_kinds_52 p1 rec22 x2 x4 (0 : Int32) x3 v (va_up ar (4) (upd (ar (4)) p1.toNatClampNeg x4))) else (fX7_kinds_52 p1 rec22 x2 x4 ((1 : Int32) <<< (x4 &&& 31)) x3 v (va_up ar (4) (upd (ar (4)) p1.toNatClampNeg x4))))))
def fX7_kinds_22 (p1 : Int32) : Nat → Int32 → Int32 → Int32 → kV → kR → Option (Int32 × kV × kR)
  | 0 => fun _ _ _ _ _ => none
  | n + 1 => fX7_kinds_22b p1 (fX7_kinds_22 p1 n)
def fX7_kinds (v : kV) (ar : kR) (p1 : Int32) : Option (Int32 × kV × kR) :=
  kb1 (fX7_isCell v ar p1) fun r2 => (if (bI r2) = 0 then (some ((-1 : Int32), v, ar)) else (if p1 < 0 ∨ 7 ≤ p1.toNatClampNeg then none else (fX7_kinds_22 p1 300 (ar (4) p1.toNatClampNeg) (0 : Int32) (0 : Int32) v ar)))
def fX7_bulks_53 (p1 : Int32) (rec22 : Int32 → Int32 → Int32 → kV → kR → Option (Int32 × kV × kR)) (x2 : Int32) (x4 : Int32) (s0 : Int32) (s1 : Int32) (v : kV) (ar : kR) : Option (Int32 × kV × kR) :=
  rec22 x2 (s1 ||| s0) (x4 + (1 : Int32)) v ar
def fX7_bulks_22b (p1 : Int32) (rec22 : Int32 → Int32 → Int32 → kV → kR → Option (Int32 × kV × kR)) (x2 : Int32) (x3 : Int32) (x4 : Int32) (v : kV) (ar : kR) : Option (Int32 × kV × kR) :=
  if (9 : Int32) < x4 then (if p1 < 0 ∨ 7 ≤ p1.toNatClampNeg then none else (some (x3, v, (va_up ar (5) (upd (ar (5)) p1.toNatClampNeg x2))))) else (if p1 < 0 ∨ 7 ≤ p1.toNatClampNeg then none else (kb1 (fX7_areSo v (va_up ar (5) (upd (ar (5)) p1.toNatClampNeg x4))) fun r9 => (if (bI r9) = 0 then (fX7_bulks_53 p1 rec22 x2 x4 (0 : Int32) x3 v (va_up ar (5) (upd (ar (5)) p1.toNatClampNeg x4))) else (fX7_bulks_53 p1 rec22 x2 x4 ((1 : Int32) <<< (x4 &&& 31)) x3 v (va_up ar (5) (upd (ar (5)) p1.toNatClampNeg x4))))))
def fX7_bulks_22 (p1 : Int32) : Nat → Int32 → Int32 → Int32 → kV → kR → Option (Int32 × kV × kR)
  | 0 => fun _ _ _ _ _ => none
  | n + 1 => fX7_bulks_22b p1 (fX7_bulks_22 p1 n)
def fX7_bulks (v : kV) (ar : kR) (p1 : Int32) : Option (Int32 × kV × kR) :=
  kb1 (fX7_isCell v ar p1) fun r2 => (if (bI r2) = 0 then (some ((-1 : Int32), v, ar)) else (if p1 < 0 ∨ 7 ≤ p1.toNatClampNeg then none else (fX7_bulks_22 p1 300 (ar (5) p1.toNatClampNeg) (0 : Int32) (1 : Int32) v ar)))
def fX7_inLeastTerms_6b (p0 : Int64) (p2 : Int64) (p4 : Int32) (rec6 : Int64 → Int64 → Option Int64) (x5 : Int64) (x7 : Int64) : Option Int64 :=
  if (lg_cmp x7 (0 : Int64)) = 0 then (if p4 = 0 then (if x5 = 0 then none else (some (p0 / x5))) else (if x5 = 0 then none else (some (p2 / x5)))) else (if x7 = 0 then none else (rec6 x7 (x5 - x5 / x7 * x7)))
def fX7_inLeastTerms_6 (p0 : Int64) (p2 : Int64) (p4 : Int32) : Nat → Int64 → Int64 → Option Int64
  | 0 => fun _ _ => none
  | n + 1 => fX7_inLeastTerms_6b p0 p2 p4 (fX7_inLeastTerms_6 p0 p2 p4 n)
def fX7_inLeastTerms (p0 : Int64) (p2 : Int64) (p4 : Int32) : Option Int64 :=
  fX7_inLeastTerms_6 p0 p2 p4 300 p0 p2
def fX7_odds_26 (v : kV) (ar : kR) (p1 : Int32) (p2 : Int32) : Option Int64 :=
  some (-9223372036854775808 : Int64)
def fX7_odds_87 (v : kV) (ar : kR) (p1 : Int32) (p2 : Int32) (rec38 : Int32 → Int32 → Int32 → Option Int64) (x3 : Int32) (x4 : Int32) (x5 : Int32) : Option Int64 :=
  rec38 x3 x4 (x5 + (1 : Int32))
def fX7_odds_85 (v : kV) (ar : kR) (p1 : Int32) (p2 : Int32) (rec38 : Int32 → Int32 → Int32 → Option Int64) (x4 : Int32) (x5 : Int32) (s0 : Int32) (s1 : Int32) : Option Int64 :=
  fX7_odds_87 v ar p1 p2 rec38 (s1 + s0) x4 x5
def fX7_odds_38b (v : kV) (ar : kR) (p1 : Int32) (p2 : Int32) (rec38 : Int32 → Int32 → Int32 → Option Int64) (x3 : Int32) (x4 : Int32) (x5 : Int32) : Option Int64 :=
  kb1 (fX7_all v ar) fun r9 => (if r9 < x5 then (kb1 (fX7_inLeastTerms (x3.toInt64) (x4.toInt64) p2) fun r12 => (some r12)) else (if (x5 &&& (v (8))) = ((v (7)) &&& (v (8))) then (kb1 (fX7_cutsBy v ar x5) fun r15 => (if p1 < r15 then (fX7_odds_85 v ar p1 p2 rec38 (x4 + (1 : Int32)) x5 (0 : Int32) x3) else (fX7_odds_85 v ar p1 p2 rec38 (x4 + (1 : Int32)) x5 (1 : Int32) x3))) else (fX7_odds_87 v ar p1 p2 rec38 x3 x4 x5)))
def fX7_odds_38 (v : kV) (ar : kR) (p1 : Int32) (p2 : Int32) : Nat → Int32 → Int32 → Int32 → Option Int64
  | 0 => fun _ _ _ => none
  | n + 1 => fX7_odds_38b v ar p1 p2 (fX7_odds_38 v ar p1 p2 n)
def fX7_odds (v : kV) (ar : kR) (p1 : Int32) (p2 : Int32) : Option Int64 :=
  if (v (5)) = 0 then (fX7_odds_26 v ar p1 p2) else (kb1 (fX7_within p1 (0 : Int32) (6 : Int32)) fun r3 => (if (bI r3) = 0 then (fX7_odds_26 v ar p1 p2) else (kb1 (fX7_within p2 (0 : Int32) (1 : Int32)) fun r6 => (if (bI r6) = 0 then (fX7_odds_26 v ar p1 p2) else (fX7_odds_38 v ar p1 p2 300 (0 : Int32) (0 : Int32) (0 : Int32))))))
def fX7_sheet_57b (p1 : Int32) (p2 : Int32) (p3 : Int32) (rec57 : Int32 → kV → kR → Option (Int32 × kV × kR)) (x4 : Int32) (v : kV) (ar : kR) : Option (Int32 × kV × kR) :=
  if (60 : Int32) ≤ x4 then (some ((1 : Int32), v, ar)) else (if (((60 : Int32) * p1) + x4) < 0 ∨ 240 ≤ (((60 : Int32) * p1) + x4).toNatClampNeg then none else (rec57 (x4 + (1 : Int32)) v (va_up ar (2) (upd (ar (2)) (((60 : Int32) * p1) + x4).toNatClampNeg (0 : Int32)))))
def fX7_sheet_57 (p1 : Int32) (p2 : Int32) (p3 : Int32) : Nat → Int32 → kV → kR → Option (Int32 × kV × kR)
  | 0 => fun _ _ _ => none
  | n + 1 => fX7_sheet_57b p1 p2 p3 (fX7_sheet_57 p1 p2 p3 n)
def fX7_sheet (v : kV) (ar : kR) (p1 : Int32) (p2 : Int32) (p3 : Int32) : Option (Int32 × kV × kR) :=
  kb1 (fX7_isSheet p1) fun r2 => (if (bI r2) = 0 then (some ((-1 : Int32), (upd v (0) (0 : Int32)), ar)) else (kb1 (fX7_isSort p2) fun r5 => (if (bI r5) = 0 then (some ((-2 : Int32), (upd v (0) (0 : Int32)), ar)) else (if p3 ≤ (60 : Int32) then (if 0 ≤ p3 then (if p1 < 0 ∨ 4 ≤ p1.toNatClampNeg then none else (if p1 < 0 ∨ 4 ≤ p1.toNatClampNeg then none else (fX7_sheet_57 p1 p2 p3 300 (0 : Int32) (upd v (0) (0 : Int32)) (va_up (va_up ar (0) (upd (ar (0)) p1.toNatClampNeg p2)) (1) (upd ((va_up ar (0) (upd (ar (0)) p1.toNatClampNeg p2)) (1)) p1.toNatClampNeg p3))))) else (kb3 (fX7_fails (upd v (0) (0 : Int32)) ar (4 : Int32)) fun r14 v15 ar16 => (some (r14, v15, ar16)))) else (some ((-2 : Int32), (upd v (0) (0 : Int32)), ar))))))
def fX7_lose_25 (p1 : Int32) (s0 : Int32) (v : kV) (ar : kR) : Option (Int32 × kV × kR) :=
  if p1 < 0 ∨ 4 ≤ p1.toNatClampNeg then none else (some (s0, v, (va_up ar (0) (upd (ar (0)) p1.toNatClampNeg (-9 : Int32)))))
def fX7_lose (v : kV) (ar : kR) (p1 : Int32) : Option (Int32 × kV × kR) :=
  kb1 (fX7_isSheet p1) fun r2 => (if (bI r2) = 0 then (some ((-1 : Int32), v, ar)) else (if p1 < 0 ∨ 4 ≤ p1.toNatClampNeg then none else (if (ar (0) p1.toNatClampNeg) = (-9 : Int32) then (fX7_lose_25 p1 (0 : Int32) v ar) else (fX7_lose_25 p1 (1 : Int32) v ar))))
def fX7_put_93 (p1 : Int32) (p2 : Int32) (p3 : Int32) (s0 : Int32) (s1 : Int32) (v : kV) (ar : kR) : Option (Int32 × kV × kR) :=
  if s1 < 0 ∨ 240 ≤ s1.toNatClampNeg then none else (some ((1 : Int32), v, (va_up ar (2) (upd (ar (2)) s1.toNatClampNeg s0))))
def fX7_put (v : kV) (ar : kR) (p1 : Int32) (p2 : Int32) (p3 : Int32) : Option (Int32 × kV × kR) :=
  kb1 (fX7_isSheet p1) fun r2 => (if (bI r2) = 0 then (some ((-1 : Int32), (upd v (0) (0 : Int32)), ar)) else (if p1 < 0 ∨ 4 ≤ p1.toNatClampNeg then none else (if (ar (0) p1.toNatClampNeg) = (-9 : Int32) then (kb3 (fX7_fails (upd v (0) (0 : Int32)) ar (1 : Int32)) fun r20 v21 ar22 => (some (r20, v21, ar22))) else (if p1 < 0 ∨ 4 ≤ p1.toNatClampNeg then none else (kb1 (fX7_within p2 (0 : Int32) ((ar (1) p1.toNatClampNeg) - (1 : Int32))) fun r8 => (if (bI r8) = 0 then (kb3 (fX7_fails (upd v (0) (0 : Int32)) ar (3 : Int32)) fun r16 v17 ar18 => (some (r16, v17, ar18))) else (if p1 < 0 ∨ 4 ≤ p1.toNatClampNeg then none else (if (ar (0) p1.toNatClampNeg) = 0 then (fX7_put_93 p1 p2 p3 (p3.toInt8.toInt32) (((60 : Int32) * p1) + p2) (upd v (0) (0 : Int32)) ar) else (if p1 < 0 ∨ 4 ≤ p1.toNatClampNeg then none else (if (ar (0) p1.toNatClampNeg) = (1 : Int32) then (fX7_put_93 p1 p2 p3 (p3.toInt16.toInt32) (((60 : Int32) * p1) + p2) (upd v (0) (0 : Int32)) ar) else (fX7_put_93 p1 p2 p3 p3 (((60 : Int32) * p1) + p2) (upd v (0) (0 : Int32)) ar)))))))))))
def fX7_lost (v : kV) (ar : kR) (p1 : Int32) : Option (Int64 × kV × kR) :=
  some ((-9223372036854775808 : Int64), (upd v (0) p1), ar)
def fX7_cell_19 (p1 : Int32) (p2 : Int32) (p3 : Int32) (v : kV) (ar : kR) : Option (Int64 × kV × kR) :=
  some ((-9223372036854775808 : Int64), v, ar)
def fX7_cell_50 (p1 : Int32) (p2 : Int32) (p3 : Int32) (v : kV) (ar : kR) : Option (Int64 × kV × kR) :=
  if p1 < 0 ∨ 4 ≤ p1.toNatClampNeg then none else (if (ar (0) p1.toNatClampNeg) = (-9 : Int32) then (kb3 (fX7_lost v ar (1 : Int32)) fun r21 v22 ar23 => (some (r21, v22, ar23))) else (if p1 < 0 ∨ 4 ≤ p1.toNatClampNeg then none else (kb1 (fX7_within p2 (0 : Int32) ((ar (1) p1.toNatClampNeg) - (1 : Int32))) fun r13 => (if (bI r13) = 0 then (kb3 (fX7_lost v ar (3 : Int32)) fun r17 v18 ar19 => (some (r17, v18, ar19))) else (if (((60 : Int32) * p1) + p2) < 0 ∨ 240 ≤ (((60 : Int32) * p1) + p2).toNatClampNeg then none else (some (((ar (2) (((60 : Int32) * p1) + p2).toNatClampNeg).toInt64), v, ar)))))))
def fX7_cell (v : kV) (ar : kR) (p1 : Int32) (p2 : Int32) (p3 : Int32) : Option (Int64 × kV × kR) :=
  kb1 (fX7_isSheet p1) fun r2 => (if (bI r2) = 0 then (fX7_cell_19 p1 p2 p3 (upd v (0) (0 : Int32)) ar) else (kb1 (fX7_isSort p3) fun r5 => (if (bI r5) = 0 then (fX7_cell_19 p1 p2 p3 (upd v (0) (0 : Int32)) ar) else (if p1 < 0 ∨ 4 ≤ p1.toNatClampNeg then none else (if (ar (0) p1.toNatClampNeg) = (-9 : Int32) then (fX7_cell_50 p1 p2 p3 (upd v (0) (0 : Int32)) ar) else (if p1 < 0 ∨ 4 ≤ p1.toNatClampNeg then none else (if (ar (0) p1.toNatClampNeg) = p3 then (fX7_cell_50 p1 p2 p3 (upd v (0) (0 : Int32)) ar) else (kb3 (fX7_lost (upd v (0) (0 : Int32)) ar (2 : Int32)) fun r27 v28 ar29 => (some (r27, v28, ar29))))))))))
def fX7_copy_43 (p1 : Int32) (p2 : Int32) (p3 : Int32) (p4 : Int32) (p5 : Int32) (v : kV) (ar : kR) : Option (Int32 × kV × kR) :=
  kb3 (fX7_fails v ar (1 : Int32)) fun r10 v11 ar12 => (some (r10, v11, ar12))
def fX7_copy_144 (p1 : Int32) (p2 : Int32) (p3 : Int32) (p4 : Int32) (p5 : Int32) (v : kV) (ar : kR) : Option (Int32 × kV × kR) :=
  kb3 (fX7_fails v ar (3 : Int32)) fun r21 v22 ar23 => (some (r21, v22, ar23))
def fX7_copy_190 (p1 : Int32) (p2 : Int32) (p3 : Int32) (p4 : Int32) (p5 : Int32) (rec166 : Int32 → Int32 → kV → kR → Option (Int32 × kV × kR)) (x7 : Int32) (x8 : Int32) (s0 : Int32) (v : kV) (ar : kR) : Option (Int32 × kV × kR) :=
  if ((((60 : Int32) * p1) + p2) + s0) < 0 ∨ 240 ≤ ((((60 : Int32) * p1) + p2) + s0).toNatClampNeg then none else (if ((((60 : Int32) * p3) + p4) + s0) < 0 ∨ 240 ≤ ((((60 : Int32) * p3) + p4) + s0).toNatClampNeg then none else (rec166 x7 (x8 + (1 : Int32)) v (va_up ar (2) (upd (ar (2)) ((((60 : Int32) * p3) + p4) + s0).toNatClampNeg (ar (2) ((((60 : Int32) * p1) + p2) + s0).toNatClampNeg)))))
def fX7_copy_166b (p1 : Int32) (p2 : Int32) (p3 : Int32) (p4 : Int32) (p5 : Int32) (rec166 : Int32 → Int32 → kV → kR → Option (Int32 × kV × kR)) (x7 : Int32) (x8 : Int32) (v : kV) (ar : kR) : Option (Int32 × kV × kR) :=
  if p5 ≤ x8 then (some (p5, v, ar)) else (if x7 = 0 then (fX7_copy_190 p1 p2 p3 p4 p5 rec166 x7 x8 x8 v ar) else (fX7_copy_190 p1 p2 p3 p4 p5 rec166 x7 x8 ((p5 - (1 : Int32)) - x8) v ar))
def fX7_copy_166 (p1 : Int32) (p2 : Int32) (p3 : Int32) (p4 : Int32) (p5 : Int32) : Nat → Int32 → Int32 → kV → kR → Option (Int32 × kV × kR)
  | 0 => fun _ _ _ _ => none
  | n + 1 => fX7_copy_166b p1 p2 p3 p4 p5 (fX7_copy_166 p1 p2 p3 p4 p5 n)
def fX7_copy_161 (p1 : Int32) (p2 : Int32) (p3 : Int32) (p4 : Int32) (p5 : Int32) (s0 : Int32) (v : kV) (ar : kR) : Option (Int32 × kV × kR) :=
  fX7_copy_166 p1 p2 p3 p4 p5 300 s0 (0 : Int32) v ar
def fX7_copy_110 (p1 : Int32) (p2 : Int32) (p3 : Int32) (p4 : Int32) (p5 : Int32) (s0 : Int32) (v : kV) (ar : kR) : Option (Int32 × kV × kR) :=
  if s0 = 0 then (fX7_copy_144 p1 p2 p3 p4 p5 v ar) else (if p1 < 0 ∨ 4 ≤ p1.toNatClampNeg then none else (if ((ar (1) p1.toNatClampNeg) - p2) < p5 then (fX7_copy_144 p1 p2 p3 p4 p5 v ar) else (if p3 < 0 ∨ 4 ≤ p3.toNatClampNeg then none else (if p5 ≤ ((ar (1) p3.toNatClampNeg) - p4) then (if p4 ≤ p2 then (fX7_copy_161 p1 p2 p3 p4 p5 (0 : Int32) v ar) else (fX7_copy_161 p1 p2 p3 p4 p5 (1 : Int32) v ar)) else (fX7_copy_144 p1 p2 p3 p4 p5 v ar)))))
def fX7_copy_109 (p1 : Int32) (p2 : Int32) (p3 : Int32) (p4 : Int32) (p5 : Int32) (v : kV) (ar : kR) : Option (Int32 × kV × kR) :=
  fX7_copy_110 p1 p2 p3 p4 p5 (0 : Int32) v ar
def fX7_copy (v : kV) (ar : kR) (p1 : Int32) (p2 : Int32) (p3 : Int32) (p4 : Int32) (p5 : Int32) : Option (Int32 × kV × kR) :=
  kb1 (fX7_isSheet p1) fun r2 => (if (bI r2) = 0 then (some ((-1 : Int32), (upd v (0) (0 : Int32)), ar)) else (kb1 (fX7_isSheet p3) fun r5 => (if (bI r5) = 0 then (some ((-1 : Int32), (upd v (0) (0 : Int32)), ar)) else (if p1 < 0 ∨ 4 ≤ p1.toNatClampNeg then none else (if (ar (0) p1.toNatClampNeg) = (-9 : Int32) then (fX7_copy_43 p1 p2 p3 p4 p5 (upd v (0) (0 : Int32)) ar) else (if p3 < 0 ∨ 4 ≤ p3.toNatClampNeg then none else (if (ar (0) p3.toNatClampNeg) = (-9 : Int32) then (fX7_copy_43 p1 p2 p3 p4 p5 (upd v (0) (0 : Int32)) ar) else (if p1 < 0 ∨ 4 ≤ p1.toNatClampNeg then none else (if p3 < 0 ∨ 4 ≤ p3.toNatClampNeg then none else (if (ar (0) p1.toNatClampNeg) = (ar (0) p3.toNatClampNeg) then (if p2 < 0 then (fX7_copy_109 p1 p2 p3 p4 p5 (upd v (0) (0 : Int32)) ar) else (if p4 < 0 then (fX7_copy_109 p1 p2 p3 p4 p5 (upd v (0) (0 : Int32)) ar) else (if p5 < 0 then (fX7_copy_109 p1 p2 p3 p4 p5 (upd v (0) (0 : Int32)) ar) else (if p1 < 0 ∨ 4 ≤ p1.toNatClampNeg then none else (if (ar (1) p1.toNatClampNeg) < p2 then (fX7_copy_109 p1 p2 p3 p4 p5 (upd v (0) (0 : Int32)) ar) else (if p3 < 0 ∨ 4 ≤ p3.toNatClampNeg then none else (if (ar (1) p3.toNatClampNeg) < p4 then (fX7_copy_109 p1 p2 p3 p4 p5 (upd v (0) (0 : Int32)) ar) else (fX7_copy_110 p1 p2 p3 p4 p5 (1 : Int32) (upd v (0) (0 : Int32)) ar)))))))) else (kb3 (fX7_fails (upd v (0) (0 : Int32)) ar (2 : Int32)) fun r40 v41 ar42 => (some (r40, v41, ar42)))))))))))))
def fX7_begins (v : kV) (ar : kR) (p1 : Int32) : Option (kV × kR) :=
  some ((upd v (1) (((31 : Int32) * (v (1))) + p1)), ar)
def fX7_tell (v : kV) (ar : kR) (p1 : Int32) : Option (Int32 × kV × kR) :=
  kb1 (fX7_isCell v ar p1) fun r2 => (if (bI r2) = 0 then (some ((-1 : Int32), v, ar)) else (if p1 < 0 ∨ 7 ≤ p1.toNatClampNeg then none else (if p1 < 0 ∨ 7 ≤ p1.toNatClampNeg then none else (if (ar (4) p1.toNatClampNeg) = (1 : Int32) then (kb2 (fX7_begins v ar (2 : Int32)) fun v9 ar10 => (kb2 (fX7_begins v9 ar10 (1 : Int32)) fun v13 ar14 => (some (((ar (5) p1.toNatClampNeg) + (100 : Int32)), v13, ar14)))) else (if (ar (4) p1.toNatClampNeg) = (2 : Int32) then (kb2 (fX7_begins v ar (3 : Int32)) fun v18 ar19 => (kb2 (fX7_begins v18 ar19 (2 : Int32)) fun v22 ar23 => (kb2 (fX7_begins v22 ar23 (1 : Int32)) fun v26 ar27 => (kb2 (fX7_begins v26 ar27 (1 : Int32)) fun v30 ar31 => (some ((((2 : Int32) * (ar (5) p1.toNatClampNeg)) + (100 : Int32)), v30, ar31)))))) else (kb2 (fX7_begins v ar (1 : Int32)) fun v34 ar35 => (some ((ar (5) p1.toNatClampNeg), v34, ar35))))))))
def fX7_probe_26 (p1 : Int32) (s0 : Int32) (v : kV) (ar : kR) : Option (Int32 × kV × kR) :=
  kb2 (fX7_begins v ar s0) fun v8 ar9 => (if p1 < 0 ∨ 7 ≤ p1.toNatClampNeg then none else (if (ar9 (4) p1.toNatClampNeg) = (2 : Int32) then (some ((20 : Int32), v8, ar9)) else (kb1 (fX7_netsOf v8 ar9 p1) fun r13 => (kb1 (fX7_size r13) fun r15 => (some (r15, v8, ar9))))))
def fX7_probe (v : kV) (ar : kR) (p1 : Int32) : Option (Int32 × kV × kR) :=
  kb1 (fX7_isCell v ar p1) fun r2 => (if (bI r2) = 0 then (some ((-1 : Int32), v, ar)) else (if p1 < 0 ∨ 7 ≤ p1.toNatClampNeg then none else (if (ar (4) p1.toNatClampNeg) = (2 : Int32) then (fX7_probe_26 p1 (5 : Int32) v ar) else (fX7_probe_26 p1 (4 : Int32) v ar))))
def fX7_as (v : kV) (ar : kR) (p1 : Int32) (p2 : Int32) : Option (Int32 × kV × kR) :=
  kb1 (fX7_isCell (upd v (0) (0 : Int32)) ar p1) fun r2 => (if (bI r2) = 0 then (some ((-1 : Int32), (upd v (0) (0 : Int32)), ar)) else (kb1 (fX7_within p2 (0 : Int32) (2 : Int32)) fun r5 => (if (bI r5) = 0 then (some ((-2 : Int32), (upd v (0) (0 : Int32)), ar)) else (if p1 < 0 ∨ 7 ≤ p1.toNatClampNeg then none else (if (ar (4) p1.toNatClampNeg) < p2 then (kb3 (fX7_fails (upd v (0) (0 : Int32)) ar (2 : Int32)) fun r10 v11 ar12 => (some (r10, v11, ar12))) else (some ((1 : Int32), (upd v (0) (0 : Int32)), ar)))))))
def fX7_trace (v : kV) (ar : kR) : Option Int32 :=
  some (v (1))
def fX7_fault (v : kV) (ar : kR) : Option Int32 :=
  some (v (0))
def fX7_many (v : kV) (ar : kR) (p1 : Int32) : Option Int32 :=
  if p1 = (0 : Int32) then (some (v (5))) else (if p1 = (1 : Int32) then (some (v (6))) else (if p1 = (2 : Int32) then (kb1 (fX7_cutsBy v ar (v (7))) fun r5 => (some r5)) else (if p1 = (3 : Int32) then (some (v (11))) else (if p1 = (4 : Int32) then (some (v (29))) else (some (-2 : Int32))))))
