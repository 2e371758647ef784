theorem Rel_trc {v mv : kV} {ar mar : kR} (k : Int32) (h : Rel v ar mv mar) : Rel (upd v 0 ((31 : Int32) * v 0 + k)) ar (upd mv 1 ((31 : Int32) * mv 1 + k)) mar := by
  obtain ⟨a1, a2, a3, a4, a5, a6⟩ := h
  exact ⟨RC_keep (fun j _ _ => pk_un (by omega)) (fun _ _ => rfl) (fun j _ _ => pk_un (by omega)) (fun _ _ _ => rfl) a1, RS_keep (fun j _ _ => pk_un (by omega)) (fun _ _ _ => rfl) (fun _ _ => rfl) a2, RK_keep (fun j _ _ => pk_un (by omega)) rfl (fun j _ _ => pk_un (by omega)) rfl a3, RR_keep (pk_un (by omega)) (pk_un (by omega)) rfl rfl (pk_un (by omega)) rfl rfl a4, by rw [pk_us, pk_us, a5], by rw [pk_un (by omega), pk_un (by omega)]; exact a6⟩
theorem flt_x {v mv : kV} {ar mar : kR} (x : Int32) (h : Rel v ar mv mar) : Rel (upd v 1 x) ar (upd (upd mv 0 (0 : Int32)) 0 x) mar := by rw [upd_upd]; exact Rel_flt x h
theorem dbl_b : ∀ b, b < 10 → (nI b + (100 : Int32)) + nI b = (2 : Int32) * nI b + (100 : Int32) := by decide +kernel
theorem sim_tell : Sim_tell := by
  intro v ar mv mar hR p1
  have hR0 := hR
  obtain ⟨⟨N, M, r, f, bd, bd2, kd, bk, nt, hW, hr, hX, hY, hxr, hmr, hbd⟩, -⟩ := hR
  have hN := hW.1
  unfold fX6_tell fX7_tell
  rw [isCell_x hX, isCell_m hY, kb1_some, kb1_some, bIf, bIf]
  rcases icl_or hN p1 with h | ⟨h, c, hc, rfl⟩
  · rw [h]; exact ⟨_, v, ar, mv, mar, rfl, rfl, hR0⟩
  · rw [h, if_pos rfl, if_pos rfl]
    obtain ⟨hk, b, hb1, hb2, hb⟩ := hW.2.2.2.1 c hc
    unfold fX6_bulkyTold fX6_doubleTold fX6_plainTold fX6_bulkyTold fX6_plainTold fX6_leaveInTrace fX7_begins
    simp only [kb2_some, kb3_some, kb1_some, if_neg (nI_in (show c < 7 by omega) (show 7 < 2 ^ 31 by omega))]
    simp only [nI_clamp (show c < 2 ^ 31 by omega), (hX.2.2.2.2.1 c hc).1, (hX.2.2.2.2.1 c hc).2.1, (hY.2.2.2.2.1 c hc).1, (hY.2.2.2.2.1 c hc).2, hb]
    rw [dbl_b b (by omega)]
    by_cases h1 : kd c = (1 : Int32)
    · rw [if_pos h1, if_pos h1]
      exact ⟨_, _, _, _, _, rfl, rfl, Rel_trc 1 (Rel_trc 2 hR0)⟩
    · rw [if_neg h1, if_neg h1]
      by_cases h2 : kd c = (2 : Int32)
      · rw [if_pos h2, if_pos h2]
        exact ⟨_, _, _, _, _, rfl, rfl, Rel_trc 1 (Rel_trc 1 (Rel_trc 2 (Rel_trc 3 hR0)))⟩
      · rw [if_neg h2, if_neg h2]
        exact ⟨_, _, _, _, _, rfl, rfl, Rel_trc 1 hR0⟩
theorem sim_probe : Sim_probe := by
  intro v ar mv mar hR p1
  have hR0 := hR
  obtain ⟨⟨N, M, r, f, bd, bd2, kd, bk, nt, hW, hr, hX, hY, hxr, hmr, hbd⟩, -⟩ := hR
  have hN := hW.1
  have hM := hW.2.1
  unfold fX6_probe fX7_probe
  rw [isCell_x hX, isCell_m hY, kb1_some, kb1_some, bIf, bIf]
  rcases icl_or hN p1 with h | ⟨h, c, hc, rfl⟩
  · rw [h]; exact ⟨_, v, ar, mv, mar, rfl, rfl, hR0⟩
  · rw [h, if_pos rfl, if_pos rfl]
    unfold fX7_probe_26 fX6_leaveInTrace fX7_begins
    have hX4 : HS 0 (upd v 0 ((31 : Int32) * v 0 + 4)) ar N M f bd kd bk nt := HS0_keep (fun j _ _ _ => pk_un (by omega)) (fun _ _ => rfl) hX
    have hY4 : MS (upd mv 1 ((31 : Int32) * mv 1 + 4)) mar N M f bd2 kd bk nt := MS0_keep (fun j _ _ _ => pk_un (by omega)) (fun _ _ _ => rfl) hY
    obtain ⟨b, hb, e1⟩ := nts_64 nt (nI c) M 0 0 (by omega) (by omega)
    have e1 : ntsD nt (nI c) 0 M 0 = nI b := e1
    obtain ⟨c1, c2, -, -⟩ := pc_all b hb
    simp only [kb2_some, if_neg (nI_in (show c < 7 by omega) (show 7 < 2 ^ 31 by omega))]
    simp only [nI_clamp (show c < 2 ^ 31 by omega), (hX.2.2.2.2.1 c hc).1, (hY.2.2.2.2.1 c hc).1]
    by_cases h2 : kd c = (2 : Int32)
    · rw [if_pos h2, if_pos h2, if_pos h2]
      exact ⟨_, _, _, _, _, rfl, rfl, Rel_trc 5 hR0⟩
    · rw [if_neg h2, if_neg h2, if_neg h2, nets_x hX4 hM, kb1_some, nets_m hY4 hM, kb1_some, e1, c1, c2, kb1_some, kb1_some]
      exact ⟨_, _, _, _, _, rfl, rfl, Rel_trc 4 hR0⟩
theorem ofkind_x {N M f : Nat} {v : kV} {ar : kR} {bd : Int32} {kd bk nt : Nat → Int32} (hN : N ≤ 7) (hX : HS 0 v ar N M f bd kd bk nt) {c : Nat} (hc : c < N) (k : Int32) : fX6_isOfKind v ar (nI c) k = some (!decide (kd c < k)) := by
  unfold fX6_isOfKind
  rw [if_neg (nI_in (by omega) (by omega)), nI_clamp (by omega), (hX.2.2.2.2.1 c hc).1]
  exact bif_n
theorem sim_as : Sim_as := by
  intro v ar mv mar hR p1 p2
  have hR0 := hR
  obtain ⟨⟨N, M, r, f, bd, bd2, kd, bk, nt, hW, hr, hX, hY, hxr, hmr, hbd⟩, -⟩ := hR
  have hN := hW.1
  have hY0 : MS (upd mv 0 0) mar N M f bd2 kd bk nt := MS0_keep (fun j _ _ _ => pk_un (by omega)) (fun _ _ _ => rfl) hY
  unfold fX6_as fX7_as fX6_refused fX6_failed fX7_fails
  rw [isCell_x hX, isCell_m hY0, kb1_some, kb1_some, bIf, bIf, kb3_some, kb3_some, kb3_some, kb3_some]
  rcases icl_or hN p1 with h | ⟨h, c, hc, rfl⟩
  · rw [h]; exact ⟨_, _, _, _, _, rfl, rfl, Rel_flt 0 hR0⟩
  · rw [h, if_pos rfl, if_pos rfl, kind_x, kb1_some, bIf, within_w, kb1_some, bIf]
    by_cases h1 : wI p2 0 2 = true
    · rw [if_pos h1, if_pos h1, ofkind_x hN hX hc, kb1_some, bIf, if_neg (nI_in (by omega) (by omega)), nI_clamp (by omega), (hY.2.2.2.2.1 c hc).1]
      by_cases h2 : kd c < p2
      · rw [decide_eq_true h2, if_pos h2]
        exact ⟨_, _, _, _, _, rfl, rfl, flt_x 2 hR0⟩
      · rw [decide_eq_false h2, if_neg h2]
        exact ⟨_, _, _, _, _, rfl, rfl, Rel_flt 0 hR0⟩
    · rw [if_neg h1, if_neg h1]; exact ⟨_, _, _, _, _, rfl, rfl, Rel_flt 0 hR0⟩
theorem sim_back : Sim_back := by
  intro v ar mv mar hR p1
  have hR0 := hR
  obtain ⟨b0, b1, b2, ⟨n, hn, h19, h29, hrd⟩, b4, b5⟩ := hR
  unfold fX6_back fX7_back
  rw [within_w, kb1_some, bIf, rng_if, h19, h29]
  by_cases h1 : wI p1 0 (nI n) = true
  · rw [if_pos h1, if_pos h1, pk_us, pk_us]
    obtain ⟨j, -, hj, rfl⟩ := wI_of (lo := 0) (hi := n) (by omega) (by omega) h1
    rw [pk_sub hj]
    refine ⟨_, _, _, _, _, rfl, rfl, RC_keep (fun j _ _ => pk_un (by omega)) (fun _ _ => rfl) (fun j _ _ => pk_un (by omega)) (fun _ _ _ => rfl) b0, RS_keep (fun j _ _ => pk_un (by omega)) (fun _ _ _ => rfl) (fun _ _ => rfl) b1, RK_keep (fun j _ _ => pk_un (by omega)) rfl (fun j _ _ => pk_un (by omega)) rfl b2, ⟨n - j, by omega, pk_us, pk_us, fun k hk => ?_⟩, by rw [pk_un (by omega), pk_un (by omega)]; exact b4, by rw [pk_un (by omega), pk_un (by omega)]; exact b5⟩
    rw [pk_un (by omega)]
    exact hrd k (by omega)
  · rw [if_neg h1, if_neg h1]; exact ⟨_, v, ar, mv, mar, rfl, rfl, hR0⟩
theorem sim_reading : Sim_reading := by
  intro v ar mv mar hR p1 p2
  have hR0 := hR
  obtain ⟨b0, b1, b2, ⟨n, hn, h19, h29, hrd⟩, b4, b5⟩ := hR
  have b00 := b0
  obtain ⟨N, M, r, f, bd, bd2, kd, bk, nt, hW, hr, hX, hY, hxr, hmr, hbd⟩ := b00
  have hN := hW.1
  unfold fX6_reading fX7_reading fX3_add
  rw [isCell_x hX, isCell_m hY, kb1_some, kb1_some, bIf, bIf]
  rcases icl_or hN p1 with h | ⟨h, c, hc, rfl⟩
  · rw [h]; exact ⟨_, v, ar, mv, mar, rfl, rfl, hR0⟩
  · rw [h, if_pos rfl, if_pos rfl, within_w, kb1_some, bIf, rng_if, h19, h29]
    by_cases h1 : wI p2 0 1065353216 = true
    · rw [if_pos h1, if_pos h1]
      by_cases h8 : n = 8
      · rw [h8, if_neg (by decide), if_pos (by decide)]; exact ⟨_, v, ar, mv, mar, rfl, rfl, hR0⟩
      · rw [if_pos (show nI n < (8 : Int32) from nI_lt (b := 8) (by omega) (by omega)), if_neg (show ¬ nI n = (8 : Int32) from fun z => h8 ((nI_eq (b := 8) (by omega) (by omega)).mp z)), if_neg (nI_in (by omega) (by omega)), if_neg (nI_in (by omega) (by omega)), if_neg (nI_in (by omega) (by omega)), if_neg (nI_in (by omega) (by omega)), kb3_some, nI_clamp (by omega), nI_1, pk_us, nI_pred, va_up_ne _ _ (show (12 : Nat) ≠ 11 by omega), va_up_ne _ _ (show (13 : Nat) ≠ 12 by omega)]
        refine ⟨_, _, _, _, _, rfl, rfl, RC_keep (fun j _ _ => pk_un (by omega)) (fun j _ => by rw [va_up_ne _ _ (by omega), va_up_ne _ _ (by omega)]) (fun j _ _ => pk_un (by omega)) (fun j _ _ => by rw [va_up_ne _ _ (by omega), va_up_ne _ _ (by omega)]) b0, RS_keep (fun j _ _ => pk_un (by omega)) (fun j _ _ => by rw [va_up_ne _ _ (by omega), va_up_ne _ _ (by omega)]) (fun j _ => by rw [va_up_ne _ _ (by omega), va_up_ne _ _ (by omega)]) b1, RK_keep (fun j _ _ => pk_un (by omega)) (by rw [va_up_ne _ _ (by omega), va_up_ne _ _ (by omega)]) (fun j _ _ => pk_un (by omega)) (by rw [va_up_ne _ _ (by omega), va_up_ne _ _ (by omega)]) b2, ⟨n + 1, by omega, pk_us, pk_us, fun k hk => ?_⟩, by rw [pk_un (by omega), pk_un (by omega)]; exact b4, by rw [pk_un (by omega), pk_un (by omega)]; exact b5⟩
        rw [pk_un (show (2 : Nat) ≠ 19 by omega), va_up_ne _ _ (show (11 : Nat) ≠ 12 by omega), va_up_self, va_up_self, va_up_ne _ _ (show (12 : Nat) ≠ 13 by omega), va_up_self, va_up_self]
        by_cases hkn : k = n
        · subst hkn
          rw [pk_us, pk_us, pk_us, pk_us]
          exact ⟨⟨c, by omega, by rw [show v 2 = nI N from hX.1]; exact nI_lt hc (by omega), rfl, rfl⟩, rfl⟩
        · rw [pk_un hkn, pk_un hkn, pk_un hkn, pk_un hkn]
          exact hrd k (by omega)
    · rw [if_neg h1, if_neg h1]; exact ⟨_, v, ar, mv, mar, rfl, rfl, hR0⟩
-- racks
theorem fill_L (k : Nat) (x : Int32) (hz : xLen k ≤ 60) : ∀ (d n i : Nat) (v : kV) (ar : kR), i + d = xLen k → d < n → ∃ ar2, fJ7_fill_53178_5 k x n (nI i) (Int32.ofNat (xLen k)) v ar = some (v, ar2) ∧ (∀ j, j ≠ k → ar2 j = ar j) ∧ (∀ q, q < i → ar2 k q = ar k q) ∧ ∀ q, i ≤ q → q < xLen k → ar2 k q = x := by
  intro d
  induction d with
  | zero =>
    intro n i v ar hi hn
    obtain ⟨n, rfl⟩ : ∃ n', n = n' + 1 := ⟨n - 1, by omega⟩
    refine ⟨ar, ?_, fun _ _ => rfl, fun _ _ => rfl, fun q h1 h2 => absurd h2 (by omega)⟩
    show fJ7_fill_53178_5b k x _ _ _ _ _ = _
    unfold fJ7_fill_53178_5b
    rw [if_pos (show Int32.ofNat (xLen k) ≤ nI i from nI_le (by omega) (by omega))]
  | succ d ih =>
    intro n i v ar hi hn
    obtain ⟨n, rfl⟩ : ∃ n', n = n' + 1 := ⟨n - 1, by omega⟩
    obtain ⟨ar2, e, p1, p2, p3⟩ := ih n (i + 1) v (va_up ar k (upd (ar k) i x)) (by omega) (by omega)
    refine ⟨ar2, ?_, fun j hj => by rw [p1 j hj, va_up_ne _ _ hj], fun q hq => ?_, fun q h1 h2 => ?_⟩
    · show fJ7_fill_53178_5b k x _ _ _ _ _ = _
      unfold fJ7_fill_53178_5b
      rw [if_neg (show ¬ Int32.ofNat (xLen k) ≤ nI i from nI_ge (by omega) (by omega)), if_neg (nI_in (by omega) (by omega)), nI_clamp (by omega), nI_1]
      exact e
    · rw [p2 q (by omega), va_up_self, pk_un (by omega)]
    · by_cases hq : q = i
      · rw [p2 q (by omega), va_up_self, hq, pk_us]
      · exact p3 q (by omega) h2
theorem fill_x {k : Nat} (hz : xLen k ≤ 60) (x : Int32) (v : kV) (ar : kR) : ∃ ar2, fJ7_fill_53178 k v ar x = some (v, ar2) ∧ (∀ j, j ≠ k → ar2 j = ar j) ∧ ∀ q, q < xLen k → ar2 k q = x := by
  obtain ⟨ar2, e, p1, p2, p3⟩ := fill_L k x hz (xLen k) 300 0 v ar (by omega) (by omega)
  exact ⟨ar2, e, p1, fun q hq => p3 q (by omega) hq⟩
theorem rack_L (p1 p2 : Int32) : ∀ (d n i : Nat) (v : kV) (ar : kR), i + d = 9 → d < n → ∃ ar2, fX7_rack_55 p1 p2 n (nI i) v ar = some (p2, v, ar2) ∧ (∀ j, j ≠ 3 → ar2 j = ar j) ∧ (∀ q, q < i → ar2 3 q = ar 3 q) ∧ ∀ q, i ≤ q → q < 9 → ar2 3 q = -9 := by
  intro d
  induction d with
  | zero =>
    intro n i v ar hi hn
    obtain ⟨n, rfl⟩ : ∃ n', n = n' + 1 := ⟨n - 1, by omega⟩
    refine ⟨ar, ?_, fun _ _ => rfl, fun _ _ => rfl, fun q h1 h2 => absurd h2 (by omega)⟩
    show fX7_rack_55b p1 p2 _ _ _ _ = _
    unfold fX7_rack_55b
    rw [if_pos (show (9 : Int32) ≤ nI i from nI_le (a := 9) (by omega) (by omega))]
  | succ d ih =>
    intro n i v ar hi hn
    obtain ⟨n, rfl⟩ : ∃ n', n = n' + 1 := ⟨n - 1, by omega⟩
    obtain ⟨ar2, e, q1, q2, q3⟩ := ih n (i + 1) v (va_up ar 3 (upd (ar 3) i (-9))) (by omega) (by omega)
    refine ⟨ar2, ?_, fun j hj => by rw [q1 j hj, va_up_ne _ _ hj], fun q hq => ?_, fun q h1 h2 => ?_⟩
    · show fX7_rack_55b p1 p2 _ _ _ _ = _
      unfold fX7_rack_55b
      rw [if_neg (show ¬ (9 : Int32) ≤ nI i from nI_ge (b := 9) (by omega) (by omega)), if_neg (nI_in (by omega) (by omega)), nI_clamp (by omega), nI_1]
      exact e
    · rw [q2 q (by omega), va_up_self, pk_un (by omega)]
    · by_cases hq : q = i
      · rw [q2 q (by omega), va_up_self, hq, pk_us]
      · exact q3 q (by omega) h2
theorem sim_rack : Sim_rack := by
  intro v ar mv mar hR p1 p2
  have hR0 := hR
  have hRF := Rel_flt 0 hR
  obtain ⟨b0, b1, b2, b3, b4, b5⟩ := hRF
  obtain ⟨⟨N, M, r, f, bd, bd2, kd, bk, nt, hW, hr, hX, hY, hxr, hmr, hbd⟩, -⟩ := hR
  have hN := hW.1
  have hY0 : MS (upd mv 0 0) mar N M f bd2 kd bk nt := MS0_keep (fun j _ _ _ => pk_un (by omega)) (fun _ _ _ => rfl) hY
  unfold fX6_rack fX7_rack fX6_rack_27 fX6_refused fX6_failed fX7_fails
  rw [noc_x hX hN, kb1_some, bIf, noc_m hY0 hN, kb3_some, kb3_some, kb3_some, kb3_some]
  by_cases h0 : N = 0
  · rw [if_pos h0, if_pos (decide_eq_true h0)]; exact ⟨_, _, _, _, _, rfl, rfl, Rel_flt 0 hR0⟩
  · rw [if_neg h0, if_neg (by simpa using h0), within_w, kb1_some, bIf, kind_x, kb1_some, bIf]
    by_cases h1 : wI p1 0 2 = true
    · rw [if_pos h1, if_pos h1]
      by_cases h2 : p2 ≤ (9 : Int32)
      · rw [if_pos h2, if_pos h2]
        by_cases h3 : 0 ≤ p2
        · rw [if_pos h3, if_pos h3]
          obtain ⟨k, -, hk, rfl⟩ := wI_of (lo := 0) (hi := 2) (by omega) (by omega) h1
          obtain ⟨z, -, hz, rfl⟩ := wI_of (p := p2) (lo := 0) (hi := 9) (by omega) (by omega) (show (if p2 < 0 then false else if (9 : Int32) < p2 then false else true) = true by rw [if_neg (le_nlt h3), if_neg (le_nlt h2)])
          unfold fX2_renew
          obtain ⟨ar2, e1, g1, g2⟩ := fill_x (k := 10) (by decide) (-9) (upd (upd (upd (upd v 1 0) 16 1) 17 (nI k)) 18 (nI z)) ar
          obtain ⟨mar2, e2, q1, -, q2⟩ := rack_L (nI k) (nI z) 9 300 0 (upd (upd (upd mv 0 0) 10 (nI k)) 11 (nI z)) mar (by omega) (by omega)
          have e2 : fX7_rack_55 (nI k) (nI z) 300 0 (upd (upd (upd mv 0 0) 10 (nI k)) 11 (nI z)) mar = _ := e2
          rw [e1, kb2_some, kb2_some, e2]
          refine ⟨_, _, _, _, _, rfl, rfl, RC_keep (fun j _ _ => by rw [pk_un (by omega), pk_un (by omega), pk_un (by omega)]) (fun j _ => g1 j (by omega)) (fun j _ _ => by rw [pk_un (by omega), pk_un (by omega)]) (fun j _ _ => q1 j (by omega)) b0, RS_keep (fun j _ _ => by rw [pk_un (by omega), pk_un (by omega), pk_un (by omega)]) (fun j _ _ => g1 j (by omega)) (fun j _ => q1 j (by omega)) b1, Or.inr ⟨by rw [pk_un (by omega), pk_un (by omega), pk_us], ⟨k, by omega, by rw [pk_un (by omega), pk_us], by rw [pk_un (by omega), pk_us]⟩, ⟨z, hz, pk_us, pk_us⟩, fun i hi => by rw [g2 i hi, q2 i (by omega) hi]⟩, RR_keep (by rw [pk_un (by omega), pk_un (by omega), pk_un (by omega)]) (by rw [pk_un (by omega), pk_un (by omega), pk_un (by omega)]) (g1 _ (by omega)) (g1 _ (by omega)) (by rw [pk_un (by omega), pk_un (by omega)]) (q1 _ (by omega)) (q1 _ (by omega)) b3, ?_, ?_⟩
          · rw [pk_un (by omega), pk_un (by omega), pk_un (by omega), pk_un (show (1 : Nat) ≠ 11 by omega), pk_un (by omega)]; exact b4
          · rw [pk_un (by omega), pk_un (by omega), pk_un (by omega), pk_un (show (0 : Nat) ≠ 11 by omega), pk_un (show (0 : Nat) ≠ 10 by omega)]; exact b5
        · rw [if_neg h3, if_neg h3]; exact ⟨_, _, _, _, _, rfl, rfl, flt_x 4 hR0⟩
      · rw [if_neg h2, if_neg h2]; exact ⟨_, _, _, _, _, rfl, rfl, Rel_flt 0 hR0⟩
    · rw [if_neg h1, if_neg h1]; exact ⟨_, _, _, _, _, rfl, rfl, Rel_flt 0 hR0⟩
theorem sim_stowed : Sim_stowed := by
  intro v ar mv mar hR p1
  have hR0 := hR
  obtain ⟨b0, b1, b2, b3, b4, b5⟩ := hR
  unfold fX6_stowed fX7_stowed fX2_faultAt fX6_failed fX7_stowed_32 fX7_fails
  rw [pk_un (show (10 : Nat) ≠ 0 by omega), pk_un (show (11 : Nat) ≠ 0 by omega), kb3_some, kb3_some]
  rcases b2 with ⟨a1, a2, a3⟩ | ⟨a1, ⟨k, hk, a2, a2'⟩, ⟨n, hn, a3, a3'⟩, a4⟩
  · rw [a1, a2, if_pos rfl, if_pos rfl, kb1_some, if_neg (by decide), kb3_some]
    exact ⟨_, _, _, _, _, rfl, rfl, flt_x 1 hR0⟩
  · rw [a1, if_neg (by decide), a2', if_neg (oN_9 k (by omega)), a3, a3']
    rcases pk_ix p1 (n := n) (by omega) with h | h | ⟨c, hc, rfl⟩
    · rw [if_pos h, if_pos h, kb1_some, if_neg (by decide), kb3_some]
      exact ⟨_, _, _, _, _, rfl, rfl, flt_x 3 hR0⟩
    · by_cases h0 : p1 < 0
      · rw [if_pos h0, if_pos h0, kb1_some, if_neg (by decide), kb3_some]
        exact ⟨_, _, _, _, _, rfl, rfl, flt_x 3 hR0⟩
      · rw [if_neg h0, if_pos h, if_neg h0, if_neg (le_nlt h), kb1_some, if_neg (by decide), kb3_some]
        exact ⟨_, _, _, _, _, rfl, rfl, flt_x 3 hR0⟩
    · rw [if_neg (nI_pos (by omega)), if_neg (nI_ge hc (by omega)), if_neg (nI_pos (by omega)), if_pos (nI_lt hc (by omega)), kb1_some, if_pos rfl, if_neg (nI_in (by omega) (by omega)), if_neg (nI_in (by omega) (by omega)), nI_clamp (by omega), a4 c (by omega)]
      exact ⟨_, _, _, _, _, rfl, rfl, Rel_flt 0 hR0⟩
theorem sim_stow : Sim_stow := by
  intro v ar mv mar hR p1 p2
  have hR0 := hR
  obtain ⟨b0, b1, b2, b3, b4, b5⟩ := hR
  have b00 := b0
  obtain ⟨N, M, r, f, bd, bd2, kd, bk, nt, hW, hr, hX, hY, hxr, hmr, hbd⟩ := b00
  have hN := hW.1
  have hY0 : MS (upd mv 0 0) mar N M f bd2 kd bk nt := MS0_keep (fun j _ _ _ => pk_un (by omega)) (fun _ _ _ => rfl) hY
  unfold fX6_stow fX7_stow fX2_faultAt fX6_stow_44 fX6_failed fX7_stow_42 fX7_fails fX6_refused
  rw [isCell_x hX, isCell_m hY0, kb1_some, kb1_some, bIf, bIf, pk_un (show (10 : Nat) ≠ 0 by omega), pk_un (show (11 : Nat) ≠ 0 by omega)]
  simp only [kb3_some]
  rcases icl_or hN p2 with h | ⟨h, c2, hc2, rfl⟩
  · rw [h]; exact ⟨_, _, _, _, _, rfl, rfl, Rel_flt 0 hR0⟩
  · rw [h, if_pos rfl, if_pos rfl]
    rcases b2 with ⟨a1, a2, a3⟩ | ⟨a1, ⟨k, hk, a2, a2'⟩, ⟨n, hn, a3, a3'⟩, a4⟩
    · rw [a1, a2, if_pos rfl, if_pos rfl, kb1_some, if_neg (by decide), if_neg (by decide)]
      exact ⟨_, _, _, _, _, rfl, rfl, flt_x 1 hR0⟩
    · rw [a1, if_neg (by decide), a2', if_neg (oN_9 k (by omega)), a3, a3', a2]
      rcases pk_ix p1 (n := n) (by omega) with h | h | ⟨c, hc, rfl⟩
      · rw [if_pos h, if_pos h, kb1_some, if_neg (by decide), if_neg (by decide)]
        exact ⟨_, _, _, _, _, rfl, rfl, flt_x 3 hR0⟩
      · by_cases h0 : p1 < 0
        · rw [if_pos h0, if_pos h0, kb1_some, if_neg (by decide), if_neg (by decide)]
          exact ⟨_, _, _, _, _, rfl, rfl, flt_x 3 hR0⟩
        · rw [if_neg h0, if_pos h, if_neg h0, if_neg (le_nlt h), kb1_some, if_neg (by decide), if_neg (by decide)]
          exact ⟨_, _, _, _, _, rfl, rfl, flt_x 3 hR0⟩
      · rw [if_neg (nI_pos (by omega)), if_neg (nI_ge hc (by omega)), if_neg (nI_pos (by omega)), if_pos (nI_lt hc (by omega)), kb1_some, if_pos rfl, ofkind_x hN hX hc2, kb1_some, bIf]
        simp only [if_neg (nI_in (show c < 9 by omega) (show 9 < 2 ^ 31 by omega)), if_neg (nI_in (show c2 < 7 by omega) (show 7 < 2 ^ 31 by omega))]
        simp only [nI_clamp (show c < 2 ^ 31 by omega), nI_clamp (show c2 < 2 ^ 31 by omega), (hY.2.2.2.2.1 c2 hc2).1]
        by_cases h2 : kd c2 < nI k
        · rw [decide_eq_true h2, if_neg (show ¬ nI k ≤ kd c2 from fun z => absurd h2 (le_nlt z))]
          exact ⟨_, _, _, _, _, rfl, rfl, flt_x 5 hR0⟩
        · have h3 : nI k ≤ kd c2 := by rw [Int32.le_iff_toInt_le]; rw [Int32.lt_iff_toInt_lt] at h2; omega
          rw [decide_eq_false h2, if_pos h3]
          obtain ⟨d0, d1, d2, d3, d4, d5⟩ := Rel_flt 0 hR0
          refine ⟨_, _, _, _, _, rfl, rfl, RC_keep (fun _ _ _ => rfl) (fun j _ => va_up_ne _ _ (by omega)) (fun _ _ _ => rfl) (fun j _ _ => va_up_ne _ _ (by omega)) d0, RS_keep (fun _ _ _ => rfl) (fun j _ _ => va_up_ne _ _ (by omega)) (fun j _ => va_up_ne _ _ (by omega)) d1, Or.inr ⟨?_, ⟨k, hk, ?_, ?_⟩, ⟨n, hn, ?_, ?_⟩, fun i hi => ?_⟩, RR_keep rfl rfl (va_up_ne _ _ (by omega)) (va_up_ne _ _ (by omega)) rfl (va_up_ne _ _ (by omega)) (va_up_ne _ _ (by omega)) d3, d4, d5⟩
          · rw [pk_un (by omega)]; exact a1
          · rw [pk_un (by omega)]; exact a2
          · rw [pk_un (by omega)]; exact a2'
          · rw [pk_un (by omega)]; exact a3
          · rw [pk_un (by omega)]; exact a3'
          · rw [va_up_self, va_up_self]
            by_cases hic : i = c
            · rw [hic, pk_us, pk_us]
            · rw [pk_un hic, pk_un hic]; exact a4 i hi
