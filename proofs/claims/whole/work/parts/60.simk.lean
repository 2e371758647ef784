section TY
variable {L B i N M r f : Nat} {C kd bk nt : Nat → Int32} {v mv : kV} {ar mar : kR}
theorem TQ.mr (h : TQ L B C v ar mv mar i N M r f kd bk nt) {mar2 : kR} (h2 : mar2 2 = mar 2) (h7 : ∀ c, c < N → mar2 7 c = mar 7 c) (h8 : ∀ c, c < N → mar2 8 c = mar 8 c) (h9 : mar2 9 = mar 9) : TQ L B C v ar mv mar2 i N M r f kd bk nt := by
  obtain ⟨a, b, c, d, e, g, hr, m, n1, n2⟩ := h
  exact ⟨a, b, fun t ht => by rw [h2]; exact c t ht, d, e, g, hr, m, fun c hc => by rw [h7 c hc, h8 c hc]; exact n1 c hc, fun k hk => by rw [h9]; exact n2 k hk⟩
theorem TQ.new (h : TQ L B C v ar mv mar i N M r f kd bk nt) (hi : i < L) (hN : N < 7) {k j r2 f2 : Nat} (hk : k < 3) (hj1 : 1 ≤ j) (hj2 : j ≤ 9) (m7 : mar 7 N = nI k) (m8 : mar 8 N = nI j) (hr2 : r2 < 2 ^ (N + 1)) (hf2 : f2 < 2 ^ (N + 1)) : TQ L B C (upd (upd (upd (upd v 13 (nI (i+1))) 9 (nI r2)) 10 (nI f2)) (2+5*1+0) (nI (N+1))) (va_up (va_up (va_up ar (4*1+0) (upd (ar (4*1+0)) N (nI k))) (4*1+1) (upd (ar (4*1+1)) N (nI j))) (4*1+2) (upd (ar (4*1+2)) N (wt (nI k) (nI j)))) (upd (upd (upd (upd mv 16 (nI (B+(i+1)))) 19 (nI r2)) 20 (nI f2)) 17 (nI (N+1))) mar (i+1) (N+1) M r2 f2 (upd kd N (nI k)) (upd bk N (nI j)) nt := by
  obtain ⟨⟨a1, a2, a3⟩, ⟨b1, b2, b3⟩, c, d, e, g, hr, ⟨m1, m2, m3, m4⟩, n1, n2⟩ := h
  refine ⟨⟨a1, a2, by omega⟩, ⟨?_, ?_, ?_⟩, fun t ht => ?_, ⟨by omega, d.2.1, hf2, fun c hc => ?_, fun k hk => ?_⟩, hr2, ⟨pk_us, ?_, ?_, ?_, fun c hc => ?_, fun k hk => ?_⟩, ?_, ⟨pk_us, ?_, ?_, ?_⟩, fun c hc => ?_, n2⟩
  · rw [pk_un (by omega), pk_un (by omega), pk_un (by omega), pk_un (by omega)]; exact b1
  · rw [pk_un (by omega), pk_un (by omega), pk_un (by omega), pk_us]
  · rw [pk_un (by omega), pk_un (by omega), pk_un (by omega), pk_us]
  · rw [va_up_ne _ _ (by omega), va_up_ne _ _ (by omega), va_up_ne _ _ (by omega)]; exact c t ht
  · by_cases hc2 : c = N
    · rw [hc2, pk_us, pk_us]
      exact ⟨by rcases (show k = 0 ∨ k = 1 ∨ k = 2 by omega) with rfl | rfl | rfl <;> simp [show nI 0 = (0 : Int32) from rfl, show nI 1 = (1 : Int32) from rfl, show nI 2 = (2 : Int32) from rfl], j, hj1, hj2, rfl⟩
    · rw [pk_un hc2, pk_un hc2]; exact d.2.2.2.1 c (by omega)
  · obtain ⟨n, g1, g2⟩ := d.2.2.2.2 k hk
    exact ⟨n, Nat.lt_of_lt_of_le g1 (Nat.pow_le_pow_right (by omega) (by omega)), g2⟩
  · rw [pk_un (by omega), pk_un (by omega), pk_un (by omega), pk_un (by omega)]; exact g.2.1
  · rw [pk_un (by omega)]; exact pk_us
  · rw [pk_un (by omega), pk_un (by omega), pk_un (by omega), pk_un (by omega)]; exact g.2.2.2.1
  · rw [va_up_ne _ _ (show 4*1+0 ≠ 4*1+2 by omega), va_up_ne _ _ (show 4*1+0 ≠ 4*1+1 by omega), va_up_self, va_up_ne _ _ (show 4*1+1 ≠ 4*1+2 by omega), va_up_self, va_up_self]
    by_cases hc2 : c = N
    · rw [hc2, pk_us, pk_us, pk_us, pk_us, pk_us]; exact ⟨rfl, rfl, rfl⟩
    · rw [pk_un hc2, pk_un hc2, pk_un hc2, pk_un hc2, pk_un hc2]; exact g.2.2.2.2.1 c (by omega)
  · rw [va_up_ne _ _ (by omega), va_up_ne _ _ (by omega), va_up_ne _ _ (by omega)]; exact g.2.2.2.2.2 k hk
  · rw [pk_un (by omega), pk_un (by omega)]; exact pk_us
  · rw [pk_un (by omega), pk_un (by omega), pk_un (by omega), pk_un (by omega)]; exact m2
  · rw [pk_un (by omega), pk_un (by omega), pk_us]
  · rw [pk_un (by omega), pk_us]
  · by_cases hc2 : c = N
    · rw [hc2, pk_us, pk_us]; exact ⟨m7, m8⟩
    · rw [pk_un hc2, pk_un hc2]; exact n1 c (by omega)
def CL (L B : Nat) (C : Nat → Int32) (v : kV) (ar : kR) (mv : kV) (mar : kR) (N M : Nat) (nt : Nat → Int32) (X Y : Option (Bool × kV × kR)) : Prop := ∃ b v2 ar2 mv2 mar2 i2, X = some (b, v2, ar2) ∧ Y = some (b, mv2, mar2) ∧ TE L B v ar mv mar v2 ar2 mv2 mar2 i2 ∧ (b = true → ∃ r2 f2 kd2 bk2, TQ L B C v2 ar2 mv2 mar2 i2 (N+1) M r2 f2 kd2 bk2 nt)
theorem cellB (hT : TQ L B C v ar mv mar i N M r f kd bk nt) (hi : i < L) (hN : N < 7) {k : Nat} (hk : k < 3) : CL L B C v ar mv mar N M nt (fX5_readsCell_46 1 (nI N) (nI k) (upd v 13 (nI (i+1))) ar) (fX7_readCell_62 (nI (B+L)) (nI k) (nI N) mv mar) := by
  have hT1 := hT.step hi
  have h7 := p2_7 (show N ≤ 7 by omega)
  have h16 := hT.2.1.2.2
  have h17 := hT.2.2.2.2.2.2.2.1.1
  have hk9 := oN_9 k (by omega)
  have hL := hT.1.1
  have hB := hT.1.2.1
  have m2 : ∀ x y z : Nat → Int32, va_up mar 7 x 2 = mar 2 ∧ va_up mar 7 x 8 = mar 8 ∧ va_up (va_up mar 7 y) 8 z 2 = mar 2 := fun x y z => ⟨va_up_ne _ _ (by omega), va_up_ne _ _ (by omega), by rw [va_up_ne _ _ (by omega), va_up_ne _ _ (by omega)]⟩
  have u17 : ∀ x, upd mv 16 x 17 = nI N := fun x => by rw [pk_un (by omega)]; exact h17
  unfold fX5_readsCell_46 fX7_readCell_62
  simp only [h16, h17, u17, nI_1, pk_us, upd_upd, va_up_self, fun x => (m2 x x x).1, fun x => (m2 x x x).2.1, fun y z => (m2 y y z).2.2]
  simp only [if_neg (nI_in hN (show 7 < 2 ^ 31 by omega))]
  simp only [nI_clamp (show N < 2 ^ 31 by omega), pk_us, if_neg hk9]
  have frm : TF v ar mv mar (upd v 13 (nI (i+1))) ar (upd mv 16 (nI (B+(i+1)))) (va_up mar 7 (upd (mar 7) N (nI k))) := ⟨fun j _ => pk_un (by omega), fun _ _ => rfl, fun j _ => pk_un (by omega), fun j _ => va_up_ne _ _ (by omega)⟩
  rcases dg_x hT1 (lo := 1) (hi := 9) (by omega) (by omega) with ⟨hi1, j, hj1, hj2, hCj, ed⟩ | ⟨hno, ed⟩
  · rw [show nI 1 = (1 : Int32) from rfl, show nI 9 = (9 : Int32) from rfl] at ed
    rw [ed, kb3_some, if_neg (oN_99 j (by omega)), if_neg (nI_ge (by omega) (by omega))]
    simp only [if_neg (nI_in (show B+i+1 < 240 by omega) (show 240 < 2 ^ 31 by omega))]
    rw [nI_clamp (show B+i+1 < 2 ^ 31 by omega)]
    have hmj : mar 2 (B+i+1) = nI (48+j) := by
      have := (hT.2.2.1 (i+1) hi1).2
      rw [show B+i+1 = B+(i+1) by omega, this, hCj]
    rw [hmj, within_w, kb1_some, bIf, show (49 : Int32) = nI 49 from rfl, show (57 : Int32) = nI 57 from rfl, wI_in (by omega) (by omega) (by omega), if_pos rfl, show (48 : Int32) = nI 48 from rfl, pk_sub (by omega), show 48 + j - 48 = j by omega]
    have hT2 : TQ L B C (upd v 13 (nI (i+1+1))) ar (upd mv 16 (nI (B+(i+1+1)))) (va_up (va_up mar 7 (upd (mar 7) N (nI k))) 8 (upd (mar 8) N (nI j))) (i+1+1) N M r f kd bk nt := by
      have := (hT1.step hi1).mr (mar2 := va_up (va_up mar 7 (upd (mar 7) N (nI k))) 8 (upd (mar 8) N (nI j))) (by rw [va_up_ne _ _ (by omega), va_up_ne _ _ (by omega)]) (fun c hc => by rw [va_up_ne _ _ (by omega), va_up_self, pk_un (by omega)]) (fun c hc => by rw [va_up_self, pk_un (by omega)]) (by rw [va_up_ne _ _ (by omega), va_up_ne _ _ (by omega)])
      rw [upd_upd, upd_upd] at this
      exact this
    have ec := cd_m hT2 (fun s => fX7_readCell_170 (nI (B+L)) s (upd mv 16 (nI (B+(i+1+1)))) (va_up (va_up mar 7 (upd (mar 7) N (nI k))) 8 (upd (mar 8) N (nI j))))
    simp only [pk_us, (m2 (mar 7) (upd (mar 7) N (nI k)) (upd (mar 8) N (nI j))).2.2] at ec
    rw [show B+i+1+1 = B+(i+1+1) by omega, ec, upd_upd]
    obtain ⟨x1, ⟨x2, x3, x4⟩, x5, x6, x7, x8, x9, ⟨y1, y2, y3, y4⟩, y5, y6⟩ := id hT2
    rw [sd_m (nI (B+L)) (cur L C (i+1+1)) hN x7 x6.2.2.1 x4 y1 y3 y4, sd_x x1.1 x1.2.2 x2 x3 (fun t ht => (x5 t ht).1) hN x7 x6.2.2.1 x9 x8.2.2.1]
    by_cases hs : (cur L C (i+1+1) = 108 ∨ cur L C (i+1+1) = 114 ∨ cur L C (i+1+1) = 76 ∨ cur L C (i+1+1) = 82)
    · have hi2 : i+1+1 < L := by
        rcases hs with h | h | h | h
        · exact cur_lt h (by decide)
        · exact cur_lt h (by decide)
        · exact cur_lt h (by decide)
        · exact cur_lt h (by decide)
      rw [if_pos hs, if_pos hs, kb3_some, if_neg (by decide), set_e (h := 1) (by omega) hN (by rcases (show k = 0 ∨ k = 1 ∨ k = 2 by omega) with rfl | rfl | rfl <;> simp [show nI 0 = (0 : Int32) from rfl, show nI 1 = (1 : Int32) from rfl, show nI 2 = (2 : Int32) from rfl]), kb2_some]
      have hnew := hT2.new hi2 hN (k := k) (j := j) (r2 := sdR (cur L C (i+1+1)) r N) (f2 := sdF (cur L C (i+1+1)) f N) hk hj1 hj2 (by rw [va_up_ne _ _ (by omega), va_up_self, pk_us]) (by rw [va_up_self, pk_us]) (sdR_lt _ x7) (sdF_lt _ x6.2.2.1)
      refine ⟨true, _, _, _, _, i+1+1+1, rfl, rfl, ⟨⟨fun j _ => ?_, fun j _ => ?_, fun j _ => ?_, fun j _ => ?_⟩, hnew.2.1.2.1, hnew.2.1.2.2, hnew.1.2.2⟩, fun _ => ⟨_, _, _, _, hnew⟩⟩
      · rw [pk_un (by omega), pk_un (by omega), pk_un (by omega), pk_un (by omega), pk_un (by omega)]
      · rw [va_up_ne _ _ (by omega), va_up_ne _ _ (by omega), va_up_ne _ _ (by omega)]
      · rw [pk_un (by omega), pk_un (by omega), pk_un (by omega), pk_un (by omega), pk_un (by omega)]
      · rw [va_up_ne _ _ (by omega), va_up_ne _ _ (by omega)]
    · rw [if_neg hs, if_neg hs, kb3_some, if_pos (show bI false = 0 from rfl)]
      exact ⟨false, _, _, _, _, i+1+1, rfl, rfl, ⟨⟨fun j _ => pk_un (by omega), fun _ _ => rfl, fun j _ => pk_un (by omega), fun j _ => by rw [va_up_ne _ _ (by omega), va_up_ne _ _ (by omega)]⟩, pk_us, pk_us, x1.2.2⟩, fun z => by cases z⟩
  · rw [show nI 1 = (1 : Int32) from rfl, show nI 9 = (9 : Int32) from rfl] at ed
    rw [ed, kb3_some, if_pos rfl]
    refine ⟨false, _, _, upd mv 16 (nI (B+(i+1))), va_up mar 7 (upd (mar 7) N (nI k)), i+1, rfl, ?_, ⟨frm, pk_us, pk_us, by omega⟩, fun z => by cases z⟩
    rw [show B+i+1 = B+(i+1) by omega]
    by_cases hi1 : i+1 < L
    · rw [if_neg (nI_ge (by omega) (by omega)), if_neg (nI_in (by omega) (by omega)), nI_clamp (by omega), (hT.2.2.1 (i+1) hi1).2, within_w, kb1_some, bIf, show (49 : Int32) = nI 49 from rfl, show (57 : Int32) = nI 57 from rfl, hno hi1]
      rfl
    · rw [if_pos (nI_le (by omega) (by omega))]
theorem cell_L (hT : TQ L B C v ar mv mar i N M r f kd bk nt) (hN : N < 7) : CL L B C v ar mv mar N M nt (fX5_readsCell 1 v ar) (fX7_readCell mv mar (nI (B+L))) := by
  have h17 := hT.2.2.2.2.2.2.2.1.1
  have e : fX7_readCell mv mar (nI (B+L)) = fX7_readCell_21 (nI (B+L)) (cur L C i) mv mar := cd_m hT (fun s => fX7_readCell_21 (nI (B+L)) s mv mar)
  rw [e]
  unfold fX5_readsCell fX7_readCell_21
  rw [tk_x hT (by decide), h17, hT.2.2.2.2.2.1.1]
  by_cases c1 : cur L C i = 112
  · rw [if_pos c1, if_pos c1, kb3_some, if_neg (by decide)]
    exact cellB hT (cur_lt c1 (by decide)) hN (k := 0) (by omega)
  · rw [if_neg c1, if_neg c1, kb3_some, if_pos (show bI false = 0 from rfl), tk_x hT (by decide)]
    by_cases c2 : cur L C i = 98
    · rw [if_pos c2, if_pos c2, kb3_some, if_neg (by decide)]
      exact cellB hT (cur_lt c2 (by decide)) hN (k := 1) (by omega)
    · rw [if_neg c2, if_neg c2, kb3_some, if_pos (show bI false = 0 from rfl), tk_x hT (by decide)]
      by_cases c3 : cur L C i = 100
      · rw [if_pos c3, if_pos c3, kb3_some, if_neg (by decide)]
        exact cellB hT (cur_lt c3 (by decide)) hN (k := 2) (by omega)
      · rw [if_neg c3, if_neg c3, kb3_some, if_pos (show bI false = 0 from rfl)]
        unfold fX5_readsCell_46 fX7_readCell_62
        rw [if_pos rfl, if_neg (nI_in hN (by omega)), h17, if_neg (nI_in hN (by omega)), nI_clamp (by omega), va_up_self, pk_us, if_pos rfl]
        exact ⟨false, _, _, _, _, i, rfl, rfl, ⟨⟨fun _ _ => rfl, fun _ _ => rfl, fun _ _ => rfl, fun j _ => va_up_ne _ _ (by omega)⟩, hT.2.1.2.1, hT.2.1.2.2, hT.1.2.2⟩, fun z => by cases z⟩
end TY
