section TW
variable {L B i N M r f : Nat} {C kd bk nt : Nat → Int32} {v mv : kV} {ar mar : kR}
def RdL (L B : Nat) (C : Nat → Int32) (v : kV) (ar : kR) (mv : kV) (mar : kR) (X Y : Option (Bool × kV × kR)) : Prop := ∃ b v2 ar2 mv2 mar2 i2, X = some (b, v2, ar2) ∧ Y = some (b, mv2, mar2) ∧ TE L B v ar mv mar v2 ar2 mv2 mar2 i2 ∧ (b = true → ∃ N M r f kd bk nt, 1 ≤ N ∧ TQ L B C v2 ar2 mv2 mar2 i2 N M r f kd bk nt)
theorem RdL.pre {v2 mv2 : kV} {ar2 mar2 : kR} {X Y : Option (Bool × kV × kR)} (h : TF v ar mv mar v2 ar2 mv2 mar2) (g : RdL L B C v2 ar2 mv2 mar2 X Y) : RdL L B C v ar mv mar X Y := by
  obtain ⟨b, v3, ar3, mv3, mar3, i3, e1, e2, e3, e4⟩ := g
  exact ⟨b, v3, ar3, mv3, mar3, i3, e1, e2, TE.pre h e3, e4⟩
theorem fin_L (q : Nat) (p2 p3 : Int32) (hT : TQ L B C v ar mv mar i N M r f kd bk nt) (hN1 : 1 ≤ N) : RdL L B C v ar mv mar (fX5_isRead_130 q 1 p2 p3 v ar) (fX7_readAll_127 (nI (B+L)) mv mar) := by
  unfold fX5_isRead_130 fX7_readAll_127
  have hL := hT.1
  rw [hT.2.1.1, hT.2.1.2.1, hT.2.1.2.2]
  by_cases h : i = L
  · rw [if_pos (by rw [h]), if_pos (by rw [h])]
    exact ⟨true, _, _, _, _, i, rfl, rfl, hT.te, fun _ => ⟨N, M, r, f, kd, bk, nt, hN1, hT⟩⟩
  · rw [if_neg (fun z => h ((nI_eq (by omega) (by omega)).mp z)), if_neg (fun z => h (by have := (nI_eq (by omega) (by omega)).mp z; omega))]
    exact ⟨false, _, _, _, _, i, rfl, rfl, hT.te, fun z => by cases z⟩
theorem nets_LL (q : Nat) (p2 p3 : Int32) (hN1 : 1 ≤ N) : ∀ (d n n2 M i : Nat) (nt : Nat → Int32) (v : kV) (ar : kR) (mv : kV) (mar : kR), M + d = 6 → d < n → d < n2 → TQ L B C v ar mv mar i N M r f kd bk nt → RdL L B C v ar mv mar (fX5_isRead_97 q 1 p2 p3 n (nI M) v ar) (fX7_readAll_90 (nI (B+L)) n2 mv mar) := by
  intro d
  induction d with
  | zero =>
    intro n n2 M i nt v ar mv mar hd hn hn2 hT
    obtain ⟨n, rfl⟩ : ∃ n', n = n' + 1 := ⟨n - 1, by omega⟩
    obtain ⟨n2, rfl⟩ : ∃ n', n2 = n' + 1 := ⟨n2 - 1, by omega⟩
    show RdL L B C v ar mv mar (fX5_isRead_97b q 1 _ _ _ _ _ _) (fX7_readAll_90b _ _ _ _)
    unfold fX5_isRead_97b fX7_readAll_90b
    rw [hT.2.2.2.2.2.2.2.1.2.1, if_pos (show (6 : Int32) ≤ nI M from nI_le (a := 6) (by omega) (by omega)), if_pos (show (6 : Int32) ≤ nI M from nI_le (a := 6) (by omega) (by omega))]
    exact fin_L q p2 p3 hT hN1
  | succ d ih =>
    intro n n2 M i nt v ar mv mar hd hn hn2 hT
    obtain ⟨n, rfl⟩ : ∃ n', n = n' + 1 := ⟨n - 1, by omega⟩
    obtain ⟨n2, rfl⟩ : ∃ n', n2 = n' + 1 := ⟨n2 - 1, by omega⟩
    have hL := hT.1
    show RdL L B C v ar mv mar (fX5_isRead_97b q 1 _ _ _ _ _ _) (fX7_readAll_90b _ _ _ _)
    unfold fX5_isRead_97b fX7_readAll_90b
    rw [hT.2.2.2.2.2.2.2.1.2.1, if_neg (show ¬ (6 : Int32) ≤ nI M from nI_ge (b := 6) (by omega) (by omega)), if_neg (show ¬ (6 : Int32) ≤ nI M from nI_ge (b := 6) (by omega) (by omega)), tk_x hT (by decide), sg_m hT (by decide), hT.2.1.2.2]
    by_cases hi : i < L
    · rw [if_neg (nI_ge (by omega) (by omega))]
      by_cases hc : cur L C i = 44
      · rw [if_pos hc, if_pos hc, kb3_some, kb3_some, if_neg (by decide), if_neg (by decide)]
        obtain ⟨b, v2, ar2, mv2, mar2, i2, e1, e2, e3, e4⟩ := net_L (hT.step hi) (show M < 6 by omega) hN1
        rw [e1, e2, kb3_some, kb3_some, nI_1]
        cases b
        · rw [if_pos (show bI false = 0 from rfl), if_pos (show bI false = 0 from rfl)]
          exact ⟨false, _, _, _, _, i2, rfl, rfl, TE.pre TF.step e3, fun z => by cases z⟩
        · rw [if_neg (by decide), if_neg (by decide)]
          obtain ⟨nt2, hT2⟩ := e4 rfl
          exact RdL.pre (TF.step.tr e3.1) (ih n n2 (M+1) i2 nt2 v2 ar2 mv2 mar2 (by omega) (by omega) (by omega) hT2)
      · rw [if_neg hc, if_neg hc, kb3_some, kb3_some, if_pos (show bI false = 0 from rfl), if_pos (show bI false = 0 from rfl)]
        unfold fX5_isRead_130
        rw [hT.2.1.1, hT.2.1.2.1, if_neg (fun z => absurd ((nI_eq (by omega) (by omega)).mp z) (by omega))]
        exact ⟨false, _, _, _, _, i, rfl, rfl, hT.te, fun z => by cases z⟩
    · have hc : ¬ cur L C i = 44 := fun z => hi (cur_lt z (by decide))
      rw [if_pos (nI_le (by omega) (by omega)), if_neg hc, kb3_some, if_pos (show bI false = 0 from rfl)]
      exact fin_L q p2 p3 hT hN1
theorem cells_LL (q : Nat) (p2 p3 : Int32) : ∀ (d n n2 N i r f : Nat) (kd bk nt : Nat → Int32) (v : kV) (ar : kR) (mv : kV) (mar : kR), N + d = 7 → 1 ≤ N → d < n → d < n2 → TQ L B C v ar mv mar i N 0 r f kd bk nt → RdL L B C v ar mv mar (fX5_isRead_61 q 1 p2 p3 n (nI N) v ar) (fX7_readAll_32 (nI (B+L)) n2 mv mar) := by
  intro d
  induction d with
  | zero =>
    intro n n2 N i r f kd bk nt v ar mv mar hd hN1 hn hn2 hT
    obtain ⟨n, rfl⟩ : ∃ n', n = n' + 1 := ⟨n - 1, by omega⟩
    obtain ⟨n2, rfl⟩ : ∃ n', n2 = n' + 1 := ⟨n2 - 1, by omega⟩
    show RdL L B C v ar mv mar (fX5_isRead_61b q 1 _ _ _ _ _ _) (fX7_readAll_32b _ _ _ _)
    unfold fX5_isRead_61b fX7_readAll_32b fX5_isRead_94
    rw [hT.2.2.2.2.2.2.2.1.1, if_neg (nI_ne0 (by omega) (by omega)), if_pos (show (7 : Int32) ≤ nI N from nI_le (a := 7) (by omega) (by omega)), if_pos (show (7 : Int32) ≤ nI N from nI_le (a := 7) (by omega) (by omega))]
    exact nets_LL q p2 p3 hN1 6 300 300 0 i nt v ar mv mar (by omega) (by omega) (by omega) hT
  | succ d ih =>
    intro n n2 N i r f kd bk nt v ar mv mar hd hN1 hn hn2 hT
    obtain ⟨n, rfl⟩ : ∃ n', n = n' + 1 := ⟨n - 1, by omega⟩
    obtain ⟨n2, rfl⟩ : ∃ n', n2 = n' + 1 := ⟨n2 - 1, by omega⟩
    have hL := hT.1
    show RdL L B C v ar mv mar (fX5_isRead_61b q 1 _ _ _ _ _ _) (fX7_readAll_32b _ _ _ _)
    unfold fX5_isRead_61b fX7_readAll_32b fX5_isRead_94 fX7_readAll_70
    rw [hT.2.2.2.2.2.2.2.1.1, if_neg (nI_ne0 (by omega) (by omega)), if_neg (show ¬ (7 : Int32) ≤ nI N from nI_ge (b := 7) (by omega) (by omega)), if_neg (show ¬ (7 : Int32) ≤ nI N from nI_ge (b := 7) (by omega) (by omega)), tk_x hT (by decide), sg_m hT (by decide), hT.2.1.2.2]
    have hend := nets_LL (C := C) q p2 p3 hN1 6 300 300 0 i nt v ar mv mar (by omega) (by omega) (by omega) hT
    by_cases hi : i < L
    · rw [if_neg (nI_ge (by omega) (by omega)), if_neg (nI_in (by omega) (by omega)), nI_clamp (by omega), (hT.2.2.1 i hi).2]
      have hcur : cur L C i = C i := by unfold cur; rw [if_pos hi]
      rw [hcur]
      by_cases hc : C i = 59
      · rw [if_pos hc, if_pos hc, if_pos hc, kb3_some, kb3_some, if_neg (by decide), if_neg (by decide)]
        obtain ⟨b, v2, ar2, mv2, mar2, i2, e1, e2, e3, e4⟩ := cell_L (hT.step hi) (show N < 7 by omega)
        rw [e1, e2, kb3_some, kb3_some, nI_1]
        cases b
        · rw [if_pos (show bI false = 0 from rfl), if_pos (show bI false = 0 from rfl)]
          exact ⟨false, _, _, _, _, i2, rfl, rfl, TE.pre TF.step e3, fun z => by cases z⟩
        · rw [if_neg (by decide), if_neg (by decide)]
          obtain ⟨r2, f2, kd2, bk2, hT2⟩ := e4 rfl
          exact RdL.pre (TF.step.tr e3.1) (ih n n2 (N+1) i2 r2 f2 kd2 bk2 nt v2 ar2 mv2 mar2 (by omega) (by omega) (by omega) (by omega) hT2)
      · rw [if_neg hc, if_neg hc, kb3_some, if_pos (show bI false = 0 from rfl)]
        exact hend
    · have hc : ¬ cur L C i = 59 := fun z => hi (cur_lt z (by decide))
      rw [if_pos (nI_le (by omega) (by omega)), if_neg hc, kb3_some, if_pos (show bI false = 0 from rfl)]
      exact hend
theorem read_L {q p : Nat} (hp : p + L ≤ 60) (hB : B + L ≤ 240) (hC : ∀ t, t < L → ar (13+q) (p+t) = C t ∧ mar 2 (B+t) = C t) : RdL L B C v ar (upd mv 16 (nI B)) mar (fX5_isRead q 1 v ar (nI p) (nI L)) (fX7_readAll (upd mv 16 (nI B)) mar (nI (B+L))) := by
  have hT : TQ L B C (upd (upd (upd (upd (upd (upd (upd v 12 (nI L)) 13 0) (2+5*1+0) 0) (2+5*1+1) 0) (2+5*1+2) 0) (2+5*1+3) 0) (2+5*1+4) 1065353216) (va_up ar 8 (va_cpy (ar (13+q)) (ar 8) p 0 L)) (upd (upd (upd (upd (upd mv 16 (nI B)) 17 0) 18 0) 19 0) 20 0) mar 0 0 0 0 0 (fun _ => 0) (fun _ => 0) (fun _ => 0) := by
    refine ⟨⟨by omega, hB, by omega⟩, ⟨?_, ?_, ?_⟩, fun t ht => ⟨?_, (hC t ht).2⟩, ⟨by omega, by omega, by omega, fun c hc => absurd hc (by omega), fun c hc => absurd hc (by omega)⟩, by omega, ⟨?_, ?_, ?_, pk_us, fun c hc => absurd hc (by omega), fun c hc => absurd hc (by omega)⟩, ?_, ⟨?_, ?_, ?_, pk_us⟩, fun c hc => absurd hc (by omega), fun c hc => absurd hc (by omega)⟩
    · rw [pk_un (by omega), pk_un (by omega), pk_un (by omega), pk_un (by omega), pk_un (by omega), pk_un (by omega), pk_us]
    · rw [pk_un (by omega), pk_un (by omega), pk_un (by omega), pk_un (by omega), pk_un (by omega), pk_us]; rfl
    · rw [pk_un (by omega), pk_un (by omega), pk_un (by omega), pk_un (by omega), pk_us]; rfl
    · rw [va_up_self, pk_cpy_in (by omega) (by omega)]; exact (hC t ht).1
    · rw [pk_un (by omega), pk_un (by omega), pk_un (by omega), pk_un (by omega), pk_us]; rfl
    · rw [pk_un (by omega), pk_un (by omega), pk_un (by omega), pk_us]; rfl
    · rw [pk_un (by omega), pk_us]; rfl
    · rw [pk_un (by omega), pk_un (by omega), pk_us]; rfl
    · rw [pk_un (by omega), pk_un (by omega), pk_un (by omega), pk_us]; rfl
    · rw [pk_un (by omega), pk_un (by omega), pk_us]; rfl
    · rw [pk_un (by omega), pk_us]; rfl
  have hF : TF v ar (upd mv 16 (nI B)) mar (upd (upd (upd (upd (upd (upd (upd v 12 (nI L)) 13 0) (2+5*1+0) 0) (2+5*1+1) 0) (2+5*1+2) 0) (2+5*1+3) 0) (2+5*1+4) 1065353216) (va_up ar 8 (va_cpy (ar (13+q)) (ar 8) p 0 L)) (upd (upd (upd (upd (upd mv 16 (nI B)) 17 0) 18 0) 19 0) 20 0) mar := ⟨fun j _ => by rw [pk_un (by omega), pk_un (by omega), pk_un (by omega), pk_un (by omega), pk_un (by omega), pk_un (by omega), pk_un (by omega)], fun j _ => va_up_ne _ _ (by omega), fun j _ => by rw [pk_un (by omega), pk_un (by omega), pk_un (by omega), pk_un (by omega)], fun _ _ => rfl⟩
  refine RdL.pre hF ?_
  unfold fX5_isRead fX7_readAll fX0_clear
  rw [if_neg (show ¬ (nI p < 0 ∨ (0 : Int32) < 0 ∨ nI L < 0 ∨ 60 < (nI p).toNatClampNeg + (nI L).toNatClampNeg ∨ 60 < (0 : Int32).toNatClampNeg + (nI L).toNatClampNeg) by
    rw [nI_clamp (by omega), nI_clamp (by omega), show (0 : Int32).toNatClampNeg = 0 from rfl]
    have a1 := nI_pos (n := p) (by omega)
    have a2 := nI_pos (n := L) (by omega)
    rintro (h | h | h | h | h)
    · exact a1 h
    · exact absurd h (by decide)
    · exact a2 h
    · omega
    · omega), kb2_some, nI_clamp (by omega), nI_clamp (by omega), show (0 : Int32).toNatClampNeg = 0 from rfl]
  generalize (upd (upd (upd (upd (upd (upd (upd v 12 (nI L)) 13 0) (2+5*1+0) 0) (2+5*1+1) 0) (2+5*1+2) 0) (2+5*1+3) 0) (2+5*1+4) 1065353216) = v1 at hT ⊢
  generalize (va_up ar 8 (va_cpy (ar (13+q)) (ar 8) p 0 L)) = ar1 at hT ⊢
  generalize (upd (upd (upd (upd (upd mv 16 (nI B)) 17 0) 18 0) 19 0) 20 0) = mv1 at hT ⊢
  rw [tk_x hT (by decide), sg_m hT (by decide)]
  by_cases h1 : cur L C 0 = 104
  · have hi1 := cur_lt h1 (by decide)
    have hT1 := hT.step hi1
    rw [if_pos h1, if_pos h1, kb3_some, kb3_some, if_neg (by decide), if_neg (by decide)]
    show RdL L B C v1 ar1 mv1 mar _ (fX7_readAll_32b _ _ _ _)
    unfold fX7_readAll_32b fX7_readAll_70
    rw [hT1.2.2.2.2.2.2.2.1.1, if_pos (show nI 0 = 0 from rfl), tk_x hT1 (by decide), sg_m hT1 (by decide)]
    refine RdL.pre (TF.step (B := B) (i := 0)) ?_
    by_cases h2 : cur L C (0+1) = 59
    · have hi2 := cur_lt h2 (by decide)
      have hT2 := hT1.step hi2
      rw [if_pos h2, if_pos h2, kb3_some, kb3_some, if_neg (by decide), if_neg (by decide)]
      obtain ⟨b, v2, ar2, mv2, mar2, i2, e1, e2, e3, e4⟩ := cell_L hT2 (by omega)
      rw [e1, e2, kb3_some, kb3_some]
      refine RdL.pre (TF.step (B := B) (i := 0+1)) ?_
      cases b
      · rw [if_pos (show bI false = 0 from rfl), if_pos (show bI false = 0 from rfl)]
        exact ⟨false, _, _, _, _, i2, rfl, rfl, e3, fun z => by cases z⟩
      · rw [if_neg (by decide), if_neg (by decide)]
        obtain ⟨r2, f2, kd2, bk2, hT3⟩ := e4 rfl
        exact RdL.pre e3.1 (cells_LL q (nI p) (nI L) 6 300 299 1 i2 r2 f2 kd2 bk2 _ v2 ar2 mv2 mar2 (by omega) (by omega) (by omega) (by omega) hT3)
    · rw [if_neg h2, if_neg h2, kb3_some, kb3_some, if_pos (show bI false = 0 from rfl), if_pos (show bI false = 0 from rfl)]
      exact ⟨false, _, _, _, _, 0+1, rfl, rfl, hT1.te, fun z => by cases z⟩
  · rw [if_neg h1, if_neg h1, kb3_some, kb3_some, if_pos (show bI false = 0 from rfl), if_pos (show bI false = 0 from rfl)]
    exact ⟨false, _, _, _, _, 0, rfl, rfl, hT.te, fun z => by cases z⟩
theorem cn_L (p1 p2 p3 p4 : Int32) (hM : M ≤ 6) (h6 : mv 6 = nI M) : ∀ (d n k : Nat) (mar : kR), k + d = M → d < n → ∃ mar2, fX7_circuit_165 p1 p2 p3 p4 n (nI k) mv mar = some (mv 5, upd (upd (upd (upd mv 9 1065353216) 10 (-9)) 11 0) 29 0, mar2) ∧ (∀ j, j ≠ 6 → mar2 j = mar j) ∧ (∀ i, i < k → mar2 6 i = mar 6 i) ∧ ∀ i, k ≤ i → i < M → mar2 6 i = mar 9 i := by
  intro d
  induction d with
  | zero =>
    intro n c mar hc hn
    obtain ⟨n, rfl⟩ : ∃ n', n = n' + 1 := ⟨n - 1, by omega⟩
    refine ⟨mar, ?_, fun _ _ => rfl, fun _ _ => rfl, fun i h1 h2 => absurd h2 (by omega)⟩
    show fX7_circuit_165b _ _ _ _ _ _ _ _ = _
    unfold fX7_circuit_165b
    rw [h6, if_pos (nI_le (by omega) (by omega)), pk_un (show 5 ≠ 29 by omega), pk_un (show 5 ≠ 11 by omega), pk_un (show 5 ≠ 10 by omega), pk_un (show 5 ≠ 9 by omega)]
  | succ d ih =>
    intro n c mar hc hn
    obtain ⟨n, rfl⟩ : ∃ n', n = n' + 1 := ⟨n - 1, by omega⟩
    obtain ⟨mar2, e, q1, q2, q3⟩ := ih n (c + 1) (va_up mar 6 (upd (mar 6) c (mar 9 c))) (by omega) (by omega)
    refine ⟨mar2, ?_, fun j hj => by rw [q1 j hj, va_up_ne _ _ hj], fun i hi => ?_, fun i h1 h2 => ?_⟩
    · show fX7_circuit_165b _ _ _ _ _ _ _ _ = _
      unfold fX7_circuit_165b
      rw [h6, if_neg (nI_ge (by omega) (by omega)), if_neg (nI_in (by omega) (by omega)), if_neg (nI_in (by omega) (by omega)), nI_clamp (by omega), nI_1]
      exact e
    · rw [q2 i (by omega), va_up_self, pk_un (by omega)]
    · by_cases hic : i = c
      · rw [q2 i (by omega), va_up_self, hic, pk_us]
      · rw [q3 i (by omega) h2, va_up_ne _ _ (by omega)]
theorem cc_L (p1 p2 p3 p4 : Int32) (hN : N ≤ 7) (h5 : mv 5 = nI N) : ∀ (d n c : Nat) (mar : kR), c + d = N → d < n → ∃ mar2, fX7_circuit_119 p1 p2 p3 p4 n (nI c) mv mar = fX7_circuit_165 p1 p2 p3 p4 300 0 mv mar2 ∧ (∀ j, j ≠ 4 → j ≠ 5 → mar2 j = mar j) ∧ (∀ i, i < c → mar2 4 i = mar 4 i ∧ mar2 5 i = mar 5 i) ∧ ∀ i, c ≤ i → i < N → mar2 4 i = mar 7 i ∧ mar2 5 i = mar 8 i := by
  intro d
  induction d with
  | zero =>
    intro n c mar hc hn
    obtain ⟨n, rfl⟩ : ∃ n', n = n' + 1 := ⟨n - 1, by omega⟩
    refine ⟨mar, ?_, fun _ _ _ => rfl, fun _ _ => ⟨rfl, rfl⟩, fun i h1 h2 => absurd h2 (by omega)⟩
    show fX7_circuit_119b _ _ _ _ _ _ _ _ = _
    unfold fX7_circuit_119b
    rw [h5, if_pos (nI_le (by omega) (by omega))]
  | succ d ih =>
    intro n c mar hc hn
    obtain ⟨n, rfl⟩ : ∃ n', n = n' + 1 := ⟨n - 1, by omega⟩
    obtain ⟨mar2, e, q1, q2, q3⟩ := ih n (c + 1) (va_up (va_up mar 4 (upd (mar 4) c (mar 7 c))) 5 (upd (mar 5) c (mar 8 c))) (by omega) (by omega)
    refine ⟨mar2, ?_, fun j hj hj2 => by rw [q1 j hj hj2, va_up_ne _ _ hj2, va_up_ne _ _ hj], fun i hi => ?_, fun i h1 h2 => ?_⟩
    · show fX7_circuit_119b _ _ _ _ _ _ _ _ = _
      unfold fX7_circuit_119b
      rw [h5, if_neg (nI_ge (by omega) (by omega))]
      simp only [if_neg (nI_in (show c < 7 by omega) (show 7 < 2 ^ 31 by omega))]
      rw [nI_clamp (by omega), nI_1, va_up_ne _ _ (show 5 ≠ 4 by omega), va_up_ne _ _ (show 8 ≠ 4 by omega)]
      exact e
    · rw [(q2 i (by omega)).1, (q2 i (by omega)).2, va_up_self, pk_un (by omega), va_up_ne _ _ (by omega), va_up_self, pk_un (by omega)]; exact ⟨rfl, rfl⟩
    · by_cases hic : i = c
      · rw [(q2 i (by omega)).1, (q2 i (by omega)).2, va_up_self, hic, pk_us, va_up_ne _ _ (by omega), va_up_self, pk_us]; exact ⟨rfl, rfl⟩
      · rw [(q3 i (by omega) h2).1, (q3 i (by omega) h2).2, va_up_ne _ _ (by omega), va_up_ne _ _ (by omega), va_up_ne _ _ (by omega), va_up_ne _ _ (by omega)]; exact ⟨rfl, rfl⟩
end TW
