theorem kex {α : Type} {A : Option α} (h : A.isSome = true) : ∃ r, A = some r ∧ A = some r := by
  cases A with
  | none => cases h
  | some r => exact ⟨r, rfl, rfl⟩
theorem le_nlt {a b : Int32} (h : a ≤ b) : ¬ b < a := by rw [Int32.lt_iff_toInt_lt]; rw [Int32.le_iff_toInt_le] at h; omega
theorem nle_lt {a b : Int32} (h : ¬ a ≤ b) : b < a := by rw [Int32.lt_iff_toInt_lt]; rw [Int32.le_iff_toInt_le] at h; omega
theorem rng_if {α : Type} (p lo hi : Int32) (A B : α) : (if p < lo then A else if p ≤ hi then B else A) = if wI p lo hi = true then B else A := by
  unfold wI
  by_cases h1 : p < lo
  · rw [if_pos h1, if_pos h1]; rfl
  · rw [if_neg h1, if_neg h1]
    by_cases h3 : p ≤ hi
    · rw [if_pos h3, if_neg (le_nlt h3)]; rfl
    · rw [if_neg h3, if_pos (nle_lt h3)]; rfl
theorem sim_trace : Sim_trace := fun v ar mv mar hR => ⟨v 0, rfl, by show some (mv 1) = some (v 0); rw [hR.2.2.2.2.1]⟩
theorem sim_fault : Sim_fault := fun v ar mv mar hR => ⟨v 1, rfl, by show some (mv 0) = some (v 1); rw [hR.2.2.2.2.2]⟩
theorem sim_many : Sim_many := by
  intro v ar mv mar hR p1
  obtain ⟨⟨N, M, r, f, bd, bd2, kd, bk, nt, hW, hr, hX, hY, hxr, hmr, hbd⟩, hRS, hRK, ⟨n, hn, h19, h29, hrd⟩, ht, hf⟩ := hR
  have hM := hW.2.1
  have e3 : (if v 16 = 0 then some (0 : Int32) else some (v 18)) = some (mv 11) := by
    rcases hRK with ⟨a1, a2, a3⟩ | ⟨a1, -, ⟨k, -, a3, a4⟩, -⟩
    · rw [a1, a3, if_pos rfl]
    · rw [a1, a3, a4, if_neg (by decide)]
  unfold fX6_many fX7_many
  rw [cutsN_x hX hM, kb1_some, cuts_m hY hM, kb1_some, hxr, hmr, hX.1, hX.2.1, hY.1, hY.2.1, h19, h29, e3]
  exact kex (by repeat' (first | rfl | split))
theorem sim_ofCell : Sim_ofCell := by
  intro v ar mv mar hR p1 p2
  obtain ⟨⟨N, M, r, f, bd, bd2, kd, bk, nt, hW, hr, hX, hY, hxr, hmr, hbd⟩, -⟩ := hR
  have hM := hW.2.1
  have hN := hW.1
  have h7 := p2_7 hN
  have hf2 := hW.2.2.1
  unfold fX6_ofCell fX7_ofCell
  rw [isCell_x hX, isCell_m hY, kb1_some, kb1_some, bIf, bIf]
  rcases icl_or hN p1 with h | ⟨h, c, hc, rfl⟩
  · rw [h]; exact ⟨_, rfl, rfl⟩
  · rw [h, if_pos rfl, if_pos rfl]
    have e2 : fX0_sideOf 0 v ar (nI c) = some ((mv 7 >>> (nI c &&& 31)) &&& (1 : Int32)) := by unfold fX0_sideOf; rw [hxr, hmr]
    rw [if_neg (nI_in (by omega) (by omega)), if_neg (nI_in (by omega) (by omega)), if_neg (nI_in (by omega) (by omega)), if_neg (nI_in (by omega) (by omega)), if_neg (nI_in (by omega) (by omega)), nI_clamp (by omega), (hX.2.2.2.2.1 c hc).1, (hX.2.2.2.2.1 c hc).2.1, (hX.2.2.2.2.1 c hc).2.2, (hY.2.2.2.2.1 c hc).1, (hY.2.2.2.2.1 c hc).2, w1_m hY hW hc, kb1_some, kb1_some, all_m hY, kb1_some, wgt_m hY hW, kb1_some, one_share hW hc, kb1_some, e2, kb1_some, fix_x hX, kb1_some, nets_x hX hM, kb1_some, nets_m hY hM, kb1_some, gain_x hX hM, kb1_some, hxr, gain_m hY hM, kb1_some, share_x hX hW, kb1_some, (wt_N hW hc).1, hmr, hY.2.2.1, bit_01 f (by omega) c (by omega), bIf, bI_if]
    exact kex (by repeat' (first | rfl | split))
theorem sim_ofNet : Sim_ofNet := by
  intro v ar mv mar hR p1 p2
  obtain ⟨⟨N, M, r, f, bd, bd2, kd, bk, nt, hW, hr, hX, hY, hxr, hmr, hbd⟩, -⟩ := hR
  have hM := hW.2.1
  unfold fX6_ofNet fX7_ofNet
  rw [hX.2.1, hY.2.1]
  rcases pk_ix p1 (n := M) (by omega) with h | h | ⟨c, hc, rfl⟩
  · rw [if_pos h, if_pos h]; exact ⟨_, rfl, rfl⟩
  · by_cases h0 : p1 < 0
    · rw [if_pos h0, if_pos h0]; exact ⟨_, rfl, rfl⟩
    · have h2 : ¬ p1 < nI M := by rw [Int32.lt_iff_toInt_lt]; rw [Int32.le_iff_toInt_le] at h; omega
      rw [if_neg h0, if_neg h0, if_neg h2, if_neg h2]; exact ⟨_, rfl, rfl⟩
  · rw [if_neg (nI_pos (by omega)), if_neg (nI_pos (by omega)), if_pos (nI_lt hc (by omega)), if_pos (nI_lt hc (by omega)), if_neg (nI_in (by omega) (by omega)), if_neg (nI_in (by omega) (by omega)), if_neg (nI_in (by omega) (by omega)), if_neg (nI_in (by omega) (by omega)), if_neg (nI_in (by omega) (by omega)), nI_clamp (by omega), hX.2.2.2.2.2 c hc, hY.2.2.2.2.2 c hc, isCut_x, kb1_some, isCut_m hY hM hc, kb1_some, hxr, hmr]
    exact kex (by repeat' (first | rfl | split))
theorem sim_ofSide : Sim_ofSide := by
  intro v ar mv mar hR p1 p2
  obtain ⟨⟨N, M, r, f, bd, bd2, kd, bk, nt, hW, hr, hX, hY, hxr, hmr, hbd⟩, -⟩ := hR
  have hN := hW.1
  unfold fX6_ofSide fX7_ofSide
  rw [noc_x hX hN, kb1_some, bIf, noc_m hY hN]
  by_cases h0 : N = 0
  · rw [if_pos h0, if_pos (decide_eq_true h0)]; exact ⟨_, rfl, rfl⟩
  · rw [if_neg h0, if_neg (by simpa using h0), within_w, kb1_some, bIf]
    have hb := hbd (by omega)
    subst hb
    rw [rng_if]
    by_cases h1 : wI p1 0 1 = true
    · rw [if_pos h1, if_pos h1]
      obtain ⟨j, -, hj, rfl⟩ := wI_of (lo := 0) (hi := 1) (by omega) (by omega) h1
      unfold fX6_ofSide_43 fX7_ofSide_45
      rw [left_x hX, kb1_some, all_m hY, kb1_some, wgt_x hX hW, wgt_x hX hW, wgt_m hY hW, wgt_m hY hW, share_x hX hW, share_x hX hW, share_m hY hW, within_x hX hW, within_x hX hW, within_m hY hW, hxr, hmr]
      simp only [kb1_some, bIf, bI_if]
      rcases (show j = 0 ∨ j = 1 by omega) with rfl | rfl
      · simp only [if_pos (show nI 0 = 0 by decide), if_neg (show ¬ nI 0 = (1 : Int32) by decide)]
        exact kex (by repeat' (first | rfl | split))
      · simp only [if_neg (show ¬ nI 1 = 0 by decide), if_pos (show nI 1 = (1 : Int32) by decide)]
        exact kex (by repeat' (first | rfl | split))
    · rw [if_neg h1, if_neg h1]; exact ⟨_, rfl, rfl⟩
theorem sim_bound : Sim_bound := by
  intro v ar mv mar hR p1
  have hR0 := hR
  obtain ⟨⟨N, M, r, f, bd, bd2, kd, bk, nt, hW, hr, hX, hY, hxr, hmr, hbd⟩, b1, b2, b3, b4, b5⟩ := hR
  have hN := hW.1
  unfold fX6_bound fX7_bound
  rw [noc_x hX hN, kb1_some, bIf, noc_m hY hN]
  by_cases h0 : N = 0
  · rw [if_pos h0, if_pos (decide_eq_true h0)]; exact ⟨_, v, ar, mv, mar, rfl, rfl, hR0⟩
  · rw [if_neg h0, if_neg (by simpa using h0), within_w, kb1_some, bIf]
    have hb := hbd (by omega)
    subst hb
    rw [rng_if]
    by_cases h1 : wI p1 1056964608 1065353216 = true
    · rw [if_pos h1, if_pos h1, hX.2.2.2.1, hY.2.2.2.1]
      refine ⟨_, _, _, _, _, rfl, rfl, ⟨N, M, r, f, p1, p1, kd, bk, nt, hW, hr, ?_, ?_, ?_, ?_, fun _ => rfl⟩, ?_, ?_, ?_, ?_, ?_⟩
      · exact ⟨by rw [pk_un (by omega)]; exact hX.1, by rw [pk_un (by omega)]; exact hX.2.1, by rw [pk_un (by omega)]; exact hX.2.2.1, pk_us, hX.2.2.2.2.1, hX.2.2.2.2.2⟩
      · exact ⟨by rw [pk_un (by omega)]; exact hY.1, by rw [pk_un (by omega)]; exact hY.2.1, by rw [pk_un (by omega)]; exact hY.2.2.1, pk_us, hY.2.2.2.2.1, hY.2.2.2.2.2⟩
      · rw [pk_un (by omega)]; exact hxr
      · rw [pk_un (by omega)]; exact hmr
      · exact RS_keep (fun j _ _ => pk_un (by omega)) (fun _ _ _ => rfl) (fun _ _ => rfl) b1
      · exact RK_keep (fun j _ _ => pk_un (by omega)) rfl (fun j _ _ => pk_un (by omega)) rfl b2
      · exact RR_keep (pk_un (by omega)) (pk_un (by omega)) rfl rfl (pk_un (by omega)) rfl rfl b3
      · rw [pk_un (by omega), pk_un (by omega)]; exact b4
      · rw [pk_un (by omega), pk_un (by omega)]; exact b5
    · rw [if_neg h1, if_neg h1]; exact ⟨_, v, ar, mv, mar, rfl, rfl, hR0⟩
/-- another right side -/
theorem Rel_right {v mv : kV} {ar mar : kR} {N M r f : Nat} {bd bd2 : Int32} {kd bk nt : Nat → Int32} (hW : CW N M f kd bk nt) (hr : r < 2 ^ N) (hX : HS 0 v ar N M f bd kd bk nt) (hY : MS mv mar N M f bd2 kd bk nt) (hbd : 1 ≤ N → bd = bd2) (b1 : RS v ar mar) (b2 : RK v ar mv mar) (b3 : RR v ar mv mar) (b4 : v 0 = mv 1) (b5 : v 1 = mv 0) : Rel (upd v (2+5*0+2) (nI r)) ar (upd mv 7 (nI r)) mar :=
  ⟨⟨N, M, r, f, bd, bd2, kd, bk, nt, hW, hr, HS0_keep (fun j _ _ h => pk_un h) (fun _ _ => rfl) hX, MS0_keep (fun j _ _ h => pk_un h) (fun _ _ _ => rfl) hY, pk_us, pk_us, hbd⟩, RS_keep (fun j _ _ => pk_un (by omega)) (fun _ _ _ => rfl) (fun _ _ => rfl) b1, RK_keep (fun j _ _ => pk_un (by omega)) rfl (fun j _ _ => pk_un (by omega)) rfl b2, RR_keep (pk_un (by omega)) (pk_un (by omega)) rfl rfl (pk_un (by omega)) rfl rfl b3, by rw [pk_un (by omega), pk_un (by omega)]; exact b4, by rw [pk_un (by omega), pk_un (by omega)]; exact b5⟩
theorem sim_move : Sim_move := by
  intro v ar mv mar hR p1
  have hR0 := hR
  obtain ⟨⟨N, M, r, f, bd, bd2, kd, bk, nt, hW, hr, hX, hY, hxr, hmr, hbd⟩, b1, b2, b3, b4, b5⟩ := hR
  have hN := hW.1
  have hM := hW.2.1
  have h7 := p2_7 hN
  unfold fX6_move fX7_move
  rw [isCell_x hX, isCell_m hY, kb1_some, kb1_some, bIf, bIf]
  rcases icl_or hN p1 with h | ⟨h, c, hc, rfl⟩
  · rw [h]; exact ⟨_, v, ar, mv, mar, rfl, rfl, hR0⟩
  · rw [h, if_pos rfl, if_pos rfl, fix_x hX, kb1_some, bIf, hY.2.2.1, isOf_m, kb1_some, bIf]
    by_cases h2 : btI (nI f) (nI c) = true
    · rw [if_pos h2, if_pos h2]; exact ⟨_, v, ar, mv, mar, rfl, rfl, hR0⟩
    · rw [if_neg h2, if_neg h2]
      unfold fX0_flip
      rw [kb2_some, hxr, hmr, xor_nat r (by omega) c (by omega)]
      have hX2 : HS 0 (upd v (2+5*0+2) (nI (r ^^^ 2 ^ c))) ar N M f bd kd bk nt := HS0_keep (fun j _ _ h => pk_un h) (fun _ _ => rfl) hX
      have hY2 : MS (upd mv 7 (nI (r ^^^ 2 ^ c))) mar N M f bd2 kd bk nt := MS0_keep (fun j _ _ h => pk_un h) (fun _ _ _ => rfl) hY
      rw [cutsN_x hX2 hM, kb1_some, cuts_m hY2 hM, kb1_some, pk_us, pk_us]
      exact ⟨_, _, _, _, _, rfl, rfl, Rel_right hW (xor_lt hr hc) hX hY hbd b1 b2 b3 b4 b5⟩
theorem sim_bulk : Sim_bulk := by
  intro v ar mv mar hR p1 p2
  have hR0 := hR
  obtain ⟨⟨N, M, r, f, bd, bd2, kd, bk, nt, hW, hr, hX, hY, hxr, hmr, hbd⟩, b1, b2, b3, b4, b5⟩ := hR
  have hN := hW.1
  have hM := hW.2.1
  unfold fX6_bulk fX7_bulk
  rw [isCell_x hX, isCell_m hY, kb1_some, kb1_some, bIf, bIf]
  rcases icl_or hN p1 with h | ⟨h, c, hc, rfl⟩
  · rw [h]; exact ⟨_, v, ar, mv, mar, rfl, rfl, hR0⟩
  · rw [h, if_pos rfl, if_pos rfl, bulkR_x, kb1_some, bIf, within_w, kb1_some, bIf]
    by_cases h2 : wI p2 1 9 = true
    · rw [if_pos h2, if_pos h2]
      obtain ⟨b, hb1, hb2, rfl⟩ := wI_of (lo := 1) (hi := 9) (by omega) (by omega) h2
      rw [if_neg (nI_in (by omega) (by omega)), if_neg (nI_in (by omega) (by omega)), if_neg (nI_in (by omega) (by omega)), if_neg (nI_in (by omega) (by omega)), nI_clamp (by omega), (hX.2.2.2.2.1 c hc).1, (hX.2.2.2.2.1 c hc).2.1, (hY.2.2.2.2.1 c hc).2]
      obtain ⟨ar2, e1, hX2, hk⟩ := set_x (h := 0) (by omega) hX hN hc (k := kd c) (b := nI b) (hW.2.2.2.1 c hc).1
      rw [e1, kb2_some]
      rw [upd_id] at hX2
      have hW2 := CW_set (c := c) hW (hW.2.2.2.1 c hc).1 hb1 hb2
      rw [upd_id] at hW2
      refine ⟨_, _, _, _, _, rfl, rfl, ⟨N, M, r, f, bd, bd2, kd, upd bk c (nI b), nt, hW2, hr, hX2, ?_, hxr, hmr, hbd⟩, ?_, ?_, ?_, b4, b5⟩
      · refine ⟨hY.1, hY.2.1, hY.2.2.1, hY.2.2.2.1, fun i hi => ?_, fun i hi => ?_⟩
        · rw [va_up_ne _ _ (show (4 : Nat) ≠ 5 by omega), va_up_self]
          by_cases hic : i = c
          · subst hic; rw [pk_us, pk_us]; exact ⟨(hY.2.2.2.2.1 i hi).1, rfl⟩
          · rw [pk_un hic, pk_un hic]; exact hY.2.2.2.2.1 i hi
        · rw [va_up_ne _ _ (show (6 : Nat) ≠ 5 by omega)]; exact hY.2.2.2.2.2 i hi
      · exact RS_keep (fun _ _ _ => rfl) (fun j _ _ => hk j (by omega)) (fun j _ => va_up_ne _ _ (by omega)) b1
      · exact RK_keep (fun _ _ _ => rfl) (hk 10 (by omega)) (fun _ _ _ => rfl) (va_up_ne _ _ (by omega)) b2
      · exact RR_keep rfl rfl (hk 11 (by omega)) (hk 12 (by omega)) rfl (va_up_ne _ _ (by omega)) (va_up_ne _ _ (by omega)) b3
    · rw [if_neg h2, if_neg h2]; exact ⟨_, v, ar, mv, mar, rfl, rfl, hR0⟩
