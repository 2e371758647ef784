def actB (a b : Int32) : Bool := if b = (20 : Int32) then wI a 0 2 else if wI b 10 16 = true then wI a 1 9 else if wI b 0 6 = true then decide (a = 0) else false
theorem pair_m (a b : Int32) : fX7_isPair a b = some (actB a b) := by
  unfold fX7_isPair actB
  simp only [within_w, kb1_some, bIf, bif_]
  split
  · rfl
  · split
    · rfl
    · split <;> rfl
theorem act_x (a b : Int32) : fX6_isAct a b = some (actB a b) := by
  have e17 : (17 : Int32).toInt = 17 := rfl
  have e16 : (16 : Int32).toInt = 16 := rfl
  have e10 : (10 : Int32).toInt = 10 := rfl
  have e7 : (7 : Int32).toInt = 7 := rfl
  have e6 : (6 : Int32).toInt = 6 := rfl
  have e0 : (0 : Int32).toInt = 0 := rfl
  have h28 : fX6_isAct_28 a b = some (if wI b 0 6 = true then decide (a = 0) else false) := by
    unfold fX6_isAct_28 wI
    rw [bif_]
    by_cases h1 : b < 0
    · rw [if_pos h1, if_pos h1]; rfl
    · rw [if_neg h1, if_neg h1]
      by_cases h2 : (7 : Int32) ≤ b
      · have h3 : (6 : Int32) < b := by rw [Int32.lt_iff_toInt_lt]; rw [Int32.le_iff_toInt_le] at h2; omega
        rw [if_pos h2, if_pos h3]; rfl
      · have h3 : ¬ (6 : Int32) < b := by rw [Int32.lt_iff_toInt_lt]; rw [Int32.le_iff_toInt_le] at h2; omega
        rw [if_neg h2, if_neg h3]; rfl
  unfold fX6_isAct actB
  rw [manner_x, kb1_some, bulkR_x, kb1_some, h28]
  split
  · rfl
  · by_cases h1 : b < (10 : Int32)
    · have hw : wI b 10 16 = false := by unfold wI; rw [if_pos h1]
      rw [if_pos h1, hw]; rfl
    · rw [if_neg h1]
      by_cases h2 : (17 : Int32) ≤ b
      · have h3 : (16 : Int32) < b := by rw [Int32.lt_iff_toInt_lt]; rw [Int32.le_iff_toInt_le] at h2; omega
        have hw : wI b 10 16 = false := by unfold wI; rw [if_neg h1, if_pos h3]
        rw [if_pos h2, hw]; rfl
      · have h3 : ¬ (16 : Int32) < b := by rw [Int32.lt_iff_toInt_lt]; rw [Int32.le_iff_toInt_le] at h2; omega
        have hw : wI b 10 16 = true := by unfold wI; rw [if_neg h1, if_neg h3]
        rw [if_neg h2, hw]; rfl
def DR (v : kV) (ar : kR) (mv : kV) (mar : kR) (N M f : Nat) (bd : Int32) (kd nt : Nat → Int32) (r : Nat) (bk : Nat → Int32) : Prop := CW N M f kd bk nt ∧ r < 2 ^ N ∧ HS 1 v ar N M f bd kd bk nt ∧ MS mv mar N M f bd kd bk nt ∧ v (2+5*1+2) = nI r ∧ mv 7 = nI r
def DF (v : kV) (ar : kR) (mv : kV) (mar : kR) (v2 : kV) (ar2 : kR) (mv2 : kV) (mar2 : kR) : Prop := (∀ j, j ≠ 9 → j ≠ 14 → j ≠ 15 → v2 j = v j) ∧ (∀ j, j < 4 ∨ 7 ≤ j → j ≠ 9 → ar2 j = ar j) ∧ (∀ j, j ≠ 7 → j ≠ 25 → j ≠ 26 → j ≠ 27 → mv2 j = mv j) ∧ ∀ j, j ≠ 5 → j ≠ 10 → mar2 j = mar j
theorem DF.rf {v mv : kV} {ar mar : kR} : DF v ar mv mar v ar mv mar := ⟨fun _ _ _ _ => rfl, fun _ _ _ => rfl, fun _ _ _ _ _ => rfl, fun _ _ _ => rfl⟩
theorem DF.tr {v mv v2 mv2 v3 mv3 : kV} {ar mar ar2 mar2 ar3 mar3 : kR} (h : DF v ar mv mar v2 ar2 mv2 mar2) (g : DF v2 ar2 mv2 mar2 v3 ar3 mv3 mar3) : DF v ar mv mar v3 ar3 mv3 mar3 := ⟨fun j a b c => (g.1 j a b c).trans (h.1 j a b c), fun j a b => (g.2.1 j a b).trans (h.2.1 j a b), fun j a b c d => (g.2.2.1 j a b c d).trans (h.2.2.1 j a b c d), fun j a b => (g.2.2.2 j a b).trans (h.2.2.2 j a b)⟩
section DY
variable {N M f : Nat} {bd : Int32} {kd nt : Nat → Int32}
theorem dayPass {v mv : kV} {ar mar : kR} {r : Nat} {bk : Nat → Int32} (h : DR v ar mv mar N M f bd kd nt r bk) (a : Int32) : ∃ v2 ar2 mv2 mar2 r2, fX1_run 1 v ar a = some (v2, ar2) ∧ fX7_does mv mar a 20 = some (true, mv2, mar2) ∧ DR v2 ar2 mv2 mar2 N M f bd kd nt r2 bk ∧ DF v ar mv mar v2 ar2 mv2 mar2 := by
  obtain ⟨hW, hr, hX, hY, hxr, hmr⟩ := h
  obtain ⟨v2, ar2, e1, p1, p2, p3, p4, p5, p6⟩ := run_x (h := 1) (by omega) hW a hX hxr hr
  obtain ⟨mv2, mar2, e2, q1, q2, q3, q4, q5, q6⟩ := run_m hW a hY hmr hr
  have hok := passS_ok (nt := nt) (w := wN kd bk) (M := M) (bd := bd) (mn := a) hW.1 hW.2.2.1 hr
  refine ⟨v2, ar2, upd mv2 7 (mv2 27), mar2, _, e1, ?_, ⟨hW, hok.2.2.1, HS_keep (h := 1) (by omega) p1 p2 hX, MS0_keep (fun j _ _ a => pk_un a) (fun _ _ _ => rfl) (MS_keep q1 q2 hY), p5, by rw [pk_us]; exact q5⟩, fun j a1 a2 a3 => p1 j a2 a3 a1, fun j _ a2 => p2 j a2, fun j a1 a2 a3 a4 => by rw [pk_un a1]; exact q1 j a2 a3 a4, fun j _ a2 => q2 j a2⟩
  unfold fX7_does
  rw [if_pos rfl, e2, kb2_some]
theorem dayDone {v mv : kV} {ar mar : kR} {r : Nat} {bk : Nat → Int32} (h : DR v ar mv mar N M f bd kd nt r bk) {a b : Int32} (h20 : ¬ b = (20 : Int32)) (hab : actB a b = true) : ∃ z v2 ar2 mv2 mar2 r2 bk2, fX6_isDone v ar a b = some (z, v2, ar2) ∧ fX7_does mv mar a b = some (z, mv2, mar2) ∧ DR v2 ar2 mv2 mar2 N M f bd kd nt r2 bk2 ∧ DF v ar mv mar v2 ar2 mv2 mar2 := by
  have h0 := h
  obtain ⟨hW, hr, hX, hY, hxr, hmr⟩ := h
  have hN := hW.1
  have h7 := p2_7 hN
  unfold actB at hab
  rw [if_neg h20] at hab
  unfold fX6_isDone fX7_does fX6_isDone_11 fX6_isDone_24 fX6_isDone_56 fX7_does_35 fX7_does_63
  rw [if_neg h20]
  by_cases w1 : wI b 10 16 = true
  · rw [if_pos w1] at hab
    obtain ⟨j, hj1, hj2, rfl⟩ := wI_of (lo := 10) (hi := 16) (by omega) (by omega) w1
    obtain ⟨t, ht1, ht2, rfl⟩ := wI_of (lo := 1) (hi := 9) (by omega) (by omega) hab
    simp only [if_pos (show (10 : Int32) ≤ nI j from nI_le (a := 10) hj1 (by omega)), if_neg (show ¬ nI j < (10 : Int32) from nI_nlt (b := 10) hj1 (by omega)), show nI j - (10 : Int32) = nI (j - 10) from pk_sub (a := j) (b := 10) hj1, if_true]
    rw [hX.1, isCell_m hY, kb1_some, bIf]
    by_cases hc : j - 10 < N
    · have hic : icl N (nI (j - 10)) = true := by unfold icl; rw [if_neg (nI_pos (by omega)), if_neg (nI_ge hc (by omega))]
      rw [if_neg (nI_ge hc (by omega)), hic, if_pos rfl, if_neg (nI_in (by omega) (by omega)), if_neg (nI_in (by omega) (by omega)), nI_clamp (by omega), (hX.2.2.2.2.1 _ hc).1]
      obtain ⟨ar2, e1, hX2, g1⟩ := set_x (h := 1) (by omega) hX hN hc (k := kd (j - 10)) (b := nI t) (hW.2.2.2.1 _ hc).1
      rw [upd_id] at hX2
      have hW2 := CW_set (c := j - 10) hW (hW.2.2.2.1 _ hc).1 ht1 ht2
      rw [upd_id] at hW2
      rw [e1, kb2_some]
      exact ⟨_, _, _, _, _, r, _, rfl, rfl, ⟨hW2, hr, hX2, MS_bk hY (j - 10) (nI t), hxr, hmr⟩, fun _ _ _ _ => rfl, fun i a1 a2 => g1 i (by omega), fun _ _ _ _ _ => rfl, fun i a1 _ => va_up_ne _ _ a1⟩
    · have hic : icl N (nI (j - 10)) = false := by unfold icl; rw [if_neg (nI_pos (by omega)), if_pos (nI_le (by omega) (by omega))]
      rw [if_pos (nI_le (by omega) (by omega)), hic]
      exact ⟨_, _, _, _, _, r, bk, rfl, rfl, h0, DF.rf⟩
  · rw [if_neg w1] at hab
    by_cases w2 : wI b 0 6 = true
    · rw [if_pos w2] at hab
      obtain ⟨j, -, hj2, rfl⟩ := wI_of (lo := 0) (hi := 6) (by omega) (by omega) w2
      simp only [if_neg (show ¬ (10 : Int32) ≤ nI j from nI_ge (b := 10) (by omega) (by omega)), if_pos (show nI j < (10 : Int32) from nI_lt (b := 10) (by omega) (by omega)), if_neg (show ¬ (1 : Int32) = 0 by decide)]
      rw [hX.1, isCell_m hY, kb1_some, bIf, fix_x hX, kb1_some, bIf, hY.2.2.1, isOf_m, kb1_some, bIf]
      by_cases hc : j < N
      · have hic : icl N (nI j) = true := by unfold icl; rw [if_neg (nI_pos (by omega)), if_neg (nI_ge hc (by omega))]
        rw [if_neg (nI_ge hc (by omega)), hic, if_pos rfl]
        by_cases hfx : btI (nI f) (nI j) = true
        · rw [if_pos hfx, if_pos hfx]
          exact ⟨_, _, _, _, _, r, bk, rfl, rfl, h0, DF.rf⟩
        · rw [if_neg hfx, if_neg hfx]
          unfold fX0_flip
          rw [kb2_some, hxr, hmr, xor_nat r (by omega) j (by omega)]
          refine ⟨_, _, _, _, _, r ^^^ 2 ^ j, bk, rfl, rfl, ⟨hW, xor_lt hr hc, HS_keep (h := 1) (by omega) (fun i _ _ a => pk_un a) (fun _ _ => rfl) hX, MS0_keep (fun i _ _ a => pk_un a) (fun _ _ _ => rfl) hY, pk_us, pk_us⟩, fun i a1 _ _ => pk_un (by omega), fun _ _ _ => rfl, fun i a1 _ _ _ => pk_un a1, fun _ _ _ => rfl⟩
      · have hic : icl N (nI j) = false := by unfold icl; rw [if_neg (nI_pos (by omega)), if_pos (nI_le (by omega) (by omega))]
        rw [if_pos (nI_le (by omega) (by omega)), hic]
        exact ⟨_, _, _, _, _, r, bk, rfl, rfl, h0, DF.rf⟩
    · rw [if_neg w2] at hab; cases hab
theorem pos2 (i k : Nat) : nI i + ((2 : Int32) * nI k) = nI (i + 2*k) := by rw [show (2 : Int32) = nI 2 from rfl, pk_mul, nI_add]
theorem day_L {q i n0 : Nat} (hq : q < 4) (hi : i + 2*n0 ≤ 60) {A B : Nat → Int32} (hacts : ∀ k, k < n0 → actB (A k) (B k) = true) : ∀ (d n k : Nat) (v : kV) (ar : kR) (mv : kV) (mar : kR) (r : Nat) (bk : Nat → Int32), k + d = n0 → d < n → DR v ar mv mar N M f bd kd nt r bk → (∀ t, t < n0 → ar (13+q) (i+2*t) = A t ∧ ar (13+q) (i+2*t+1) = B t ∧ mar 2 (60*q+i+2*t) = A t ∧ mar 2 (60*q+i+2*t+1) = B t) → ∃ w v2 ar2 mv2 mar2 r2 bk2, fX6_firstWrong_14 q (nI i) (nI n0) n (nI k) v ar = some (oN w, v2, ar2) ∧ fX7_goDay_2 (nI (60*q+i)) (nI n0) n (nI k) mv mar = some (oN w, mv2, mar2) ∧ (∀ t, w = some t → t < n0) ∧ DR v2 ar2 mv2 mar2 N M f bd kd nt r2 bk2 ∧ DF v ar mv mar v2 ar2 mv2 mar2 := by
  intro d
  induction d with
  | zero =>
    intro n k v ar mv mar r bk hk hn hD hS
    obtain ⟨n, rfl⟩ : ∃ n', n = n' + 1 := ⟨n - 1, by omega⟩
    refine ⟨none, v, ar, mv, mar, r, bk, ?_, ?_, (fun t h => by cases h), hD, DF.rf⟩
    · show fX6_firstWrong_14b _ _ _ _ _ _ _ = _
      unfold fX6_firstWrong_14b
      rw [if_pos (nI_le (by omega) (by omega))]; rfl
    · show fX7_goDay_2b _ _ _ _ _ _ = _
      unfold fX7_goDay_2b
      rw [if_pos (nI_le (by omega) (by omega))]; rfl
  | succ d ih =>
    intro n k v ar mv mar r bk hk hn hD hS
    obtain ⟨n, rfl⟩ : ∃ n', n = n' + 1 := ⟨n - 1, by omega⟩
    obtain ⟨s1, s2, s3, s4⟩ := hS k (by omega)
    have hab := hacts k (by omega)
    show ∃ w v2 ar2 mv2 mar2 r2 bk2, fX6_firstWrong_14b _ _ _ _ _ _ _ = _ ∧ fX7_goDay_2b _ _ _ _ _ _ = _ ∧ _
    unfold fX6_firstWrong_14b fX7_goDay_2b fX6_firstWrong_85
    rw [if_neg (nI_ge (by omega) (by omega)), if_neg (nI_ge (by omega) (by omega))]
    simp only [pos2, nI_1]
    rw [if_neg (nI_in (by omega) (by omega)), if_neg (nI_in (by omega) (by omega)), if_neg (nI_in (by omega) (by omega)), if_neg (nI_in (by omega) (by omega)), nI_clamp (by omega), nI_clamp (by omega), nI_clamp (by omega), nI_clamp (by omega), s1, s2, s3, s4]
    have next : ∀ (v2 : kV) (ar2 : kR) (mv2 : kV) (mar2 : kR) (r2 : Nat) (bk2 : Nat → Int32), DR v2 ar2 mv2 mar2 N M f bd kd nt r2 bk2 → DF v ar mv mar v2 ar2 mv2 mar2 → ∃ w v3 ar3 mv3 mar3 r3 bk3, fX6_firstWrong_14 q (nI i) (nI n0) n (nI (k + 1)) v2 ar2 = some (oN w, v3, ar3) ∧ fX7_goDay_2 (nI (60*q+i)) (nI n0) n (nI (k + 1)) mv2 mar2 = some (oN w, mv3, mar3) ∧ (∀ t, w = some t → t < n0) ∧ DR v3 ar3 mv3 mar3 N M f bd kd nt r3 bk3 ∧ DF v ar mv mar v3 ar3 mv3 mar3 := by
      intro v2 ar2 mv2 mar2 r2 bk2 hD2 hF
      obtain ⟨w, v3, ar3, mv3, mar3, r3, bk3, e1, e2, e3, e4, e5⟩ := ih n (k + 1) v2 ar2 mv2 mar2 r2 bk2 (by omega) (by omega) hD2 (fun t ht => by rw [hF.2.1 (13+q) (by omega) (by omega), hF.2.2.2 2 (by omega) (by omega)]; exact hS t ht)
      exact ⟨w, v3, ar3, mv3, mar3, r3, bk3, e1, e2, e3, e4, hF.tr e5⟩
    by_cases h20 : B k = (20 : Int32)
    · obtain ⟨v2, ar2, mv2, mar2, r2, e1, e2, hD2, hF⟩ := dayPass hD (A k)
      rw [if_pos h20, h20, e1, kb2_some, e2, kb3_some, bIf, if_pos rfl]
      exact next v2 ar2 mv2 mar2 r2 bk hD2 hF
    · obtain ⟨z, v2, ar2, mv2, mar2, r2, bk2, e1, e2, hD2, hF⟩ := dayDone hD h20 hab
      rw [if_neg h20, e1, kb3_some, e2, kb3_some, bIf, bIf]
      cases z
      · exact ⟨some k, v2, ar2, mv2, mar2, r2, bk2, rfl, rfl, fun t h => by cases h; omega, hD2, hF⟩
      · exact next v2 ar2 mv2 mar2 r2 bk2 hD2 hF
theorem tell_L {v mv : kV} {ar mar : kR} {r : Nat} {bk : Nat → Int32} (h : DR v ar mv mar N M f bd kd nt r bk) (hv2 : v (2+5*0+0) = nI N) {p : Int32} (hp : (wI p 0 4 || wI p 10 16) = true) : ∃ t, fX7_tellDay mv mar p = some t ∧ (¬ p = (1 : Int32) → fX6_afterDay v ar p = some t) := by
  obtain ⟨hW, hr, hX, hY, hxr, hmr⟩ := h
  have hN := hW.1
  have hM := hW.2.1
  have ec : ∀ p, fX6_isCell v ar p = some (icl N p) := fun p => by
    unfold fX6_isCell icl
    rw [hv2]
    split
    · rfl
    · split <;> rfl
  unfold fX7_tellDay fX6_afterDay
  rw [cuts_m hY hM, kb1_some, all_m hY, kb1_some, wgt_m hY hW, kb1_some, share_m hY hW, kb1_some, isCell_m hY, kb1_some, bIf, gain_m hY hM, kb1_some, cutsN_x hX hM, kb1_some, ec, kb1_some, bIf, gain_x hX hM, kb1_some, left_x hX, kb1_some, kb1_some, wgt_x hX hW, kb1_some, share_x hX hW, kb1_some, hxr, hmr]
  by_cases h1 : wI p 0 4 = true
  · obtain ⟨j, -, hj, rfl⟩ := wI_of (lo := 0) (hi := 4) (by omega) (by omega) h1
    rcases (show j = 0 ∨ j = 1 ∨ j = 2 ∨ j = 3 ∨ j = 4 by omega) with rfl | rfl | rfl | rfl | rfl
    · exact ⟨_, rfl, fun _ => rfl⟩
    · exact ⟨_, rfl, fun z => absurd rfl z⟩
    · exact ⟨_, rfl, fun _ => rfl⟩
    · exact ⟨_, rfl, fun _ => rfl⟩
    · exact ⟨_, rfl, fun _ => rfl⟩
  · have h1f : wI p 0 4 = false := by cases hz : wI p 0 4 <;> simp_all
    rw [h1f, Bool.false_or] at hp
    obtain ⟨j, hj1, hj2, rfl⟩ := wI_of (lo := 10) (hi := 16) (by omega) (by omega) hp
    have hne : ∀ m : Nat, m < 10 → ¬ nI j = nI m := fun m hm z => absurd ((nI_eq (by omega) (by omega)).mp z) (by omega)
    rw [if_neg (show ¬ nI j < (10 : Int32) from nI_nlt (b := 10) hj1 (by omega)), if_neg (show ¬ nI j = (0 : Int32) from hne 0 (by omega)), if_neg (show ¬ nI j = (1 : Int32) from hne 1 (by omega)), if_neg (show ¬ nI j = (2 : Int32) from hne 2 (by omega)), if_neg (show ¬ nI j = (3 : Int32) from hne 3 (by omega)), if_neg (show ¬ nI j = (4 : Int32) from hne 4 (by omega))]
    cases icl N (nI j - 10)
    · exact ⟨_, rfl, fun _ => rfl⟩
    · exact ⟨_, rfl, fun _ => rfl⟩
/-- the model keeps the bulks -/
theorem keep_L {mv : kV} (p1 p2 p3 p4 p5 x7 x8 : Int32) (hN : N ≤ 7) (h5 : mv 5 = nI N) : ∀ (d n c : Nat) (mar : kR), c + d = N → d < n → ∃ mar2, (fX7_day_160 p1 p2 p3 p4 p5 n x7 x8 (nI c) mv mar = kb3 (fX7_goDay mv mar2 x7 p4) fun r20 v21 ar22 => (kb1 (fX7_tellDay v21 ar22 p5) fun r24 => (fX7_day_216 p1 p2 p3 p4 p5 300 r20 r24 (0 : Int32) (upd v21 (7) x8) ar22))) ∧ (∀ j, j ≠ 11 → mar2 j = mar j) ∧ (∀ i, i < c → mar2 11 i = mar 11 i) ∧ ∀ i, c ≤ i → i < N → mar2 11 i = mar 5 i := by
  intro d
  induction d with
  | zero =>
    intro n c mar hc hn
    obtain ⟨n, rfl⟩ : ∃ n', n = n' + 1 := ⟨n - 1, by omega⟩
    refine ⟨mar, ?_, fun _ _ => rfl, fun _ _ => rfl, fun i h1 h2 => absurd h2 (by omega)⟩
    show fX7_day_160b _ _ _ _ _ _ _ _ _ _ _ = _
    unfold fX7_day_160b
    rw [h5, if_pos (nI_le (by omega) (by omega))]
  | succ d ih =>
    intro n c mar hc hn
    obtain ⟨n, rfl⟩ : ∃ n', n = n' + 1 := ⟨n - 1, by omega⟩
    obtain ⟨mar2, e, q1, q2, q3⟩ := ih n (c + 1) (va_up mar 11 (upd (mar 11) c (mar 5 c))) (by omega) (by omega)
    refine ⟨mar2, ?_, fun j hj => by rw [q1 j hj, va_up_ne _ _ hj], fun i hi => ?_, fun i h1 h2 => ?_⟩
    · show fX7_day_160b _ _ _ _ _ _ _ _ _ _ _ = _
      unfold fX7_day_160b
      rw [h5, if_neg (nI_ge (by omega) (by omega)), if_neg (nI_in (by omega) (by omega)), if_neg (nI_in (by omega) (by omega)), nI_clamp (by omega), nI_1]
      exact e
    · rw [q2 i (by omega), va_up_self, pk_un (by omega)]
    · by_cases hic : i = c
      · rw [q2 i (by omega), va_up_self, hic, pk_us]
      · rw [q3 i (by omega) h2, va_up_ne _ _ (by omega)]
theorem rest_L {mv : kV} (p1 p2 p3 p4 p5 x9 x10 : Int32) (hN : N ≤ 7) (h5 : mv 5 = nI N) : ∀ (d n c : Nat) (mar : kR), c + d = N → d < n → ∃ mar2, fX7_day_216 p1 p2 p3 p4 p5 n x9 x10 (nI c) mv mar = some ((if p5 = (1 : Int32) then x9 else if x9 = (-9 : Int32) then x10 else (-100 : Int32) - x9), mv, mar2) ∧ (∀ j, j ≠ 5 → mar2 j = mar j) ∧ (∀ i, i < c → mar2 5 i = mar 5 i) ∧ ∀ i, c ≤ i → i < N → mar2 5 i = mar 11 i := by
  intro d
  induction d with
  | zero =>
    intro n c mar hc hn
    obtain ⟨n, rfl⟩ : ∃ n', n = n' + 1 := ⟨n - 1, by omega⟩
    refine ⟨mar, ?_, fun _ _ => rfl, fun _ _ => rfl, fun i h1 h2 => absurd h2 (by omega)⟩
    show fX7_day_216b _ _ _ _ _ _ _ _ _ _ _ = _
    unfold fX7_day_216b
    rw [h5, if_pos (nI_le (by omega) (by omega))]
    split
    · rfl
    · split <;> rfl
  | succ d ih =>
    intro n c mar hc hn
    obtain ⟨n, rfl⟩ : ∃ n', n = n' + 1 := ⟨n - 1, by omega⟩
    obtain ⟨mar2, e, q1, q2, q3⟩ := ih n (c + 1) (va_up mar 5 (upd (mar 5) c (mar 11 c))) (by omega) (by omega)
    refine ⟨mar2, ?_, fun j hj => by rw [q1 j hj, va_up_ne _ _ hj], fun i hi => ?_, fun i h1 h2 => ?_⟩
    · show fX7_day_216b _ _ _ _ _ _ _ _ _ _ _ = _
      unfold fX7_day_216b
      rw [h5, if_neg (nI_ge (by omega) (by omega)), if_neg (nI_in (by omega) (by omega)), if_neg (nI_in (by omega) (by omega)), nI_clamp (by omega), nI_1]
      exact e
    · rw [q2 i (by omega), va_up_self, pk_un (by omega)]
    · by_cases hic : i = c
      · rw [q2 i (by omega), va_up_self, hic, pk_us]
      · rw [q3 i (by omega) h2, va_up_ne _ _ (by omega)]
/-- are all pairs acts, on both sides -/
theorem acts_L {v mv : kV} {ar mar : kR} {q i n0 : Nat} (hq : q < 4) (hi : i + 2*n0 ≤ 60) {A B : Nat → Int32} (p1 p2 p3 p5 : Int32) (hS : ∀ t, t < n0 → ar (13+q) (i+2*t) = A t ∧ ar (13+q) (i+2*t+1) = B t ∧ mar 2 (60*q+i+2*t) = A t ∧ mar 2 (60*q+i+2*t+1) = B t) : ∀ (d n k : Nat), k + d = n0 → d < n → (∀ t, t < k → actB (A t) (B t) = true) → (fX6_areActs_2 q v ar (nI i) (nI n0) n (nI k) = some false ∧ fX7_day_103 p1 p2 p3 (nI n0) p5 n (nI (60*q+i)) (nI k) mv mar = some (-2, mv, mar)) ∨ (fX6_areActs_2 q v ar (nI i) (nI n0) n (nI k) = some true ∧ (∀ t, t < n0 → actB (A t) (B t) = true) ∧ fX7_day_103 p1 p2 p3 (nI n0) p5 n (nI (60*q+i)) (nI k) mv mar = fX7_day_160 p1 p2 p3 (nI n0) p5 300 (nI (60*q+i)) (mv 7) 0 mv mar) := by
  intro d
  induction d with
  | zero =>
    intro n k hk hn ha
    obtain ⟨n, rfl⟩ : ∃ n', n = n' + 1 := ⟨n - 1, by omega⟩
    refine Or.inr ⟨?_, fun t ht => ha t (by omega), ?_⟩
    · show fX6_areActs_2b _ _ _ _ _ _ _ = _
      unfold fX6_areActs_2b
      rw [if_pos (nI_le (by omega) (by omega))]
    · show fX7_day_103b _ _ _ _ _ _ _ _ _ _ = _
      unfold fX7_day_103b
      rw [if_pos (nI_le (by omega) (by omega))]
  | succ d ih =>
    intro n k hk hn ha
    obtain ⟨n, rfl⟩ : ∃ n', n = n' + 1 := ⟨n - 1, by omega⟩
    obtain ⟨s1, s2, s3, s4⟩ := hS k (by omega)
    show (fX6_areActs_2b _ _ _ _ _ _ _ = _ ∧ fX7_day_103b _ _ _ _ _ _ _ _ _ _ = _) ∨ (fX6_areActs_2b _ _ _ _ _ _ _ = _ ∧ _ ∧ fX7_day_103b _ _ _ _ _ _ _ _ _ _ = _)
    unfold fX6_areActs_2b fX7_day_103b
    rw [if_neg (nI_ge (by omega) (by omega)), if_neg (nI_ge (by omega) (by omega))]
    simp only [pos2, nI_1]
    rw [if_neg (nI_in (by omega) (by omega)), if_neg (nI_in (by omega) (by omega)), if_neg (nI_in (by omega) (by omega)), if_neg (nI_in (by omega) (by omega)), nI_clamp (by omega), nI_clamp (by omega), nI_clamp (by omega), nI_clamp (by omega), s1, s2, s3, s4, act_x, kb1_some, pair_m, kb1_some, bIf, bIf]
    cases hb : actB (A k) (B k)
    · exact Or.inl ⟨rfl, rfl⟩
    · exact ih n (k + 1) (by omega) (by omega) (fun t ht => by
        by_cases htk : t = k
        · rw [htk]; exact hb
        · exact ha t (by omega))
end DY
theorem ag_L {q z : Nat} (hq : q < 4) {v mv : kV} {ar mar : kR} (hd : (v (20+2*q) = -1 ∧ mar 0 q = -9) ∨ ∃ l : Nat, l < 3 ∧ v (20+2*q) = nI l ∧ mar 0 q = nI l) (z2 : mar 1 q = nI z) (p2 p3 p4 : Int32) : ∃ x, fX4_faultAs q v ar p2 = some x ∧ ((¬ x = 0 ∧ fX7_against mv mar (nI q) p2 p3 p4 = some x) ∨ (x = 0 ∧ fX7_against mv mar (nI q) p2 p3 p4 = some (if 0 ≤ p4 then (if hasB z p3 p4 = true then 0 else 3) else 4))) := by
  unfold fX4_faultAs fX7_against fX7_against_23 fX7_against_70
  simp only [if_neg (nI_in (show q < 4 by omega) (show 4 < 2 ^ 31 by omega))]
  simp only [nI_clamp (show q < 2 ^ 31 by omega)]
  rcases hd with ⟨d1, d2⟩ | ⟨l, hl, d1, d2⟩
  · rw [d1, d2, if_pos rfl, if_pos rfl, if_pos rfl]
    exact ⟨1, rfl, Or.inl ⟨by decide, rfl⟩⟩
  · rw [d1, d2, if_neg (lane_no l hl).1, if_neg (lane_no l hl).2, z2]
    by_cases h : nI l = p2
    · rw [if_pos h, if_pos h]
      refine ⟨0, rfl, Or.inr ⟨rfl, ?_⟩⟩
      rw [if_neg (lane_no l hl).2]
      unfold hasB
      by_cases h4 : 0 ≤ p4
      · have h4' : ¬ p4 < 0 := le_nlt h4
        rw [if_pos h4, if_pos h4, if_neg h4']
        by_cases h3 : p3 < 0
        · rw [if_pos h3, if_pos h3]; rfl
        · rw [if_neg h3, if_neg h3]
          by_cases h5 : nI z < p3
          · rw [if_pos h5, if_pos h5]; rfl
          · rw [if_neg h5, if_neg h5]
            by_cases h6 : p4 ≤ nI z - p3
            · rw [if_pos h6, if_neg (le_nlt h6)]; rfl
            · rw [if_neg h6, if_pos (show nI z - p3 < p4 by rw [Int32.lt_iff_toInt_lt]; rw [Int32.le_iff_toInt_le] at h6; omega)]; rfl
      · rw [if_neg h4, if_neg h4]
    · rw [if_neg h, if_neg h]
      exact ⟨2, rfl, Or.inl ⟨by decide, rfl⟩⟩
theorem has_ev {z : Nat} (hz : z ≤ 60) {p : Int32} {n0 : Nat} (hn : n0 ≤ 20) (h : hasB z p (nI (2*n0)) = true) : ∃ i : Nat, p = nI i ∧ i + 2*n0 ≤ z := by
  obtain ⟨i, k, h1, h2, h3⟩ := has_of hz h
  have := (nI_eq (by omega) (by omega)).mp h2
  exact ⟨i, h1, by omega⟩
theorem sim_day : Sim_day := by
  intro v ar mv mar hR p1 p2 p3 p4 p5
  have hR0 := hR
  obtain ⟨⟨N, M, r, f, bd, bd2, kd, bk, nt, hW, hr, hX, hY, hxr, hmr, hbd⟩, b1, b2, b3, b4, b5⟩ := hR
  have hN := hW.1
  have hM := hW.2.1
  unfold fX6_day fX7_day fX6_day_41 fX6_refused
  rw [sheet_x, kb1_some, bIf, isSheet_m, kb1_some, bIf, lane_x, kb1_some, bIf, isSort_m, kb1_some, bIf, asked_x, kb1_some, bIf]
  simp only [kb3_some, within_w, kb1_some, bIf]
  by_cases h1 : wI p1 0 3 = true
  · rw [if_pos h1, if_pos h1]
    by_cases h2 : wI p2 0 2 = true
    · rw [if_pos h2, if_pos h2]
      by_cases h4 : wI p4 0 20 = true
      · rw [if_pos h4]
        obtain ⟨n0, -, hn0, rfl⟩ := wI_of (lo := 0) (hi := 20) (by omega) (by omega) h4
        rw [if_neg (nI_pos (by omega)), if_neg (show ¬ (20 : Int32) < nI n0 from nI_nlt (b := n0) (a := 20) hn0 (by omega))]
        by_cases h5 : (wI p5 0 4 || wI p5 10 16) = true
        · rw [if_pos h5]
          have e9 : ∀ Y Z : Option (Int32 × kV × kR), (if wI p5 0 4 = true then Y else if wI p5 10 16 = true then Y else Z) = Y := fun Y Z => by
            cases z1 : wI p5 0 4
            · rw [z1, Bool.false_or] at h5
              rw [if_neg (by decide), if_pos h5]
            · rfl
          rw [e9]
          obtain ⟨q, -, hq, rfl⟩ := wI_of (lo := 0) (hi := 3) (by omega) (by omega) h1
          obtain ⟨c1, ⟨z, hz, z1, z2⟩, c3⟩ := b1 q (by omega)
          rw [if_neg (nI_in (show q < 4 by omega) (show 4 < 2 ^ 31 by omega))]
          unfold fX7_day_57 fX6_day_85 fX6_refused fX6_failed fX7_fails
          simp only [nI_clamp (show q < 2 ^ 31 by omega), kb3_some]
          obtain ⟨x, a1, a2⟩ := ag_L (q := q) (z := z) (v := v) (ar := ar) (mv := upd mv 0 0) (mar := mar) (by omega) c1 z2 p2 p3 ((2 : Int32) * nI n0)
          rw [a1, kb1_some]
          rcases a2 with ⟨a2, a3⟩ | ⟨rfl, a3⟩
          · rw [a3, kb1_some, if_neg a2, if_neg a2]
            simp only [if_neg a2]
            exact ⟨_, _, _, _, _, rfl, rfl, flt_x x hR0⟩
          · have e2n : (2 : Int32) * nI n0 = nI (2*n0) := by rw [show (2 : Int32) = nI 2 from rfl, pk_mul]
            rw [e2n] at a3
            rw [e2n, a3, kb1_some, if_pos (show (0 : Int32) ≤ nI (2*n0) from nI_le (a := 0) (by omega) (by omega)), if_pos rfl, has_x z1, kb1_some]
            simp only [bIf]
            by_cases hh : hasB z p3 (nI (2*n0)) = true
            · rw [if_pos hh, if_pos hh]
              simp only [if_true]
              obtain ⟨i, rfl, hi⟩ := has_ev hz hn0 hh
              have hY0 : MS (upd mv 0 0) mar N M f bd2 kd bk nt := MS0_keep (fun j _ _ _ => pk_un (by omega)) (fun _ _ _ => rfl) hY
              rw [noc_x hX hN, kb1_some, noc_m hY0 hN, sq_nI]
              by_cases h0 : N = 0
              · rw [if_pos h0, if_pos (decide_eq_true h0)]; exact ⟨_, _, _, _, _, rfl, rfl, Rel_flt 0 hR0⟩
              · rw [if_neg h0, if_neg (by simpa using h0)]
                have hb := hbd (by omega)
                subst hb
                have hS : ∀ t, t < n0 → ar (13+q) (i+2*t) = ar (13+q) (i+2*t) ∧ ar (13+q) (i+2*t+1) = ar (13+q) (i+2*t+1) ∧ mar 2 (60*q+i+2*t) = ar (13+q) (i+2*t) ∧ mar 2 (60*q+i+2*t+1) = ar (13+q) (i+2*t+1) := fun t ht => by
                  rw [c3 _ (by omega), c3 _ (by omega), show 60*q+(i+2*t) = 60*q+i+2*t by omega, show 60*q+(i+2*t+1) = 60*q+i+2*t+1 by omega]
                  exact ⟨rfl, rfl, rfl, rfl⟩
                unfold fX6_areActs
                rcases acts_L (v := v) (mv := upd mv 0 0) (ar := ar) (mar := mar) (q := q) (i := i) (n0 := n0) (A := fun t => ar (13+q) (i+2*t)) (B := fun t => ar (13+q) (i+2*t+1)) (by omega) (by omega) (nI q) p2 (nI i) p5 hS n0 300 0 (by omega) (by omega) (fun t ht => absurd ht (by omega)) with ⟨g1, g2⟩ | ⟨g1, hacts, g2⟩
                · rw [show nI 0 = (0 : Int32) from rfl] at g1 g2
                  rw [g1, kb1_some, g2]; exact ⟨_, _, _, _, _, rfl, rfl, Rel_flt 0 hR0⟩
                · have hXf : HS 0 (upd v 1 0) ar N M f bd kd bk nt := HS0_keep (fun j _ _ _ => pk_un (by omega)) (fun _ _ => rfl) hX
                  obtain ⟨v3, ar3, e3, hX3, hr3, k1, k2⟩ := become_10 (r := r) hN hM hXf (by rw [pk_un (by omega)]; exact hxr)
                  obtain ⟨mar2, m1, m2, m3, m4⟩ := keep_L (N := N) (mv := upd mv 0 0) (nI q) p2 (nI i) (nI n0) p5 (nI (60*q+i)) (upd mv 0 0 7) hN hY0.1 N 300 0 mar (by omega) (by omega)
                  have hD : DR v3 ar3 (upd mv 0 0) mar2 N M f bd kd nt r bk := ⟨hW, hr, hX3, MS0_keep (fun _ _ _ _ => rfl) (fun j _ _ => m2 j (by omega)) hY0, hr3, by rw [pk_un (by omega)]; exact hmr⟩
                  obtain ⟨w, v4, ar4, mv4, mar4, r4, bk4, e4, e5, e6, hD4, hF⟩ := day_L (q := q) (i := i) (n0 := n0) (A := fun t => ar (13+q) (i+2*t)) (B := fun t => ar (13+q) (i+2*t+1)) (by omega) (by omega) hacts n0 300 0 v3 ar3 (upd mv 0 0) mar2 r bk (by omega) (by omega) hD (fun t ht => by rw [k2 _ (by omega), m2 2 (by omega)]; exact hS t ht)
                  obtain ⟨t, e7, e8⟩ := tell_L hD4 (by rw [hF.1 _ (by omega) (by omega) (by omega), k1 _ (by omega)]; exact hXf.1) h5
                  obtain ⟨mar5, n1, n2, n3, n4⟩ := rest_L (N := N) (mv := upd mv4 7 (upd mv 0 0 7)) (nI q) p2 (nI i) (nI n0) p5 (oN w) t hN (by rw [pk_un (by omega)]; exact hD4.2.2.2.1.1) N 300 0 mar4 (by omega) (by omega)
                  have er : ∃ res, fX7_day_103 (nI q) p2 (nI i) (nI n0) p5 300 (nI (60*q+i)) (nI 0) (upd mv 0 0) mar = some (res, upd mv4 7 (upd mv 0 0 7), mar5) ∧ res = if p5 = (1 : Int32) then oN w else if oN w = (-9 : Int32) then t else (-100 : Int32) - oN w := by
                    refine ⟨_, ?_, rfl⟩
                    rw [g2]
                    refine m1.trans ?_
                    unfold fX7_goDay
                    rw [show nI 0 = (0 : Int32) from rfl] at e5
                    rw [e5, kb3_some, e7, kb1_some]
                    exact n1
                  obtain ⟨res, er1, er2⟩ := er
                  rw [show nI 0 = (0 : Int32) from rfl] at er1 e4 g1
                  rw [er1, g1, kb1_some]
                  unfold fX6_firstWrong
                  rw [e3, kb2_some, e4, kb3_some]
                  have hrel : Rel v4 ar4 (upd mv4 7 (upd mv 0 0 7)) mar5 := by
                    obtain ⟨f0, f1, f2, f3, f4, f5⟩ := Rel_flt 0 hR0
                    have vk : ∀ j, j < 7 ∨ 16 ≤ j → v4 j = upd v 1 0 j := fun j hj => by rw [hF.1 j (by omega) (by omega) (by omega), k1 j (by omega)]
                    have ak : ∀ j, j < 4 ∨ 10 ≤ j → ar4 j = ar j := fun j hj => by rw [hF.2.1 j (by omega) (by omega), k2 j (by omega)]
                    have mk : ∀ j, j < 25 ∨ 28 ≤ j → upd mv4 7 (upd mv 0 0 7) j = upd mv 0 0 j := fun j hj => by
                      by_cases h7 : j = 7
                      · rw [h7, pk_us]
                      · rw [pk_un h7, hF.2.2.1 j h7 (by omega) (by omega) (by omega)]
                    have nk : ∀ j, j ≠ 5 → j ≠ 10 → j ≠ 11 → mar5 j = mar j := fun j a b c => by rw [n2 j a, hF.2.2.2 j a b, m2 j c]
                    have n5 : ∀ c, c < N → mar5 5 c = mar 5 c := fun c hc => by rw [n4 c (by omega) hc, hF.2.2.2 11 (by omega) (by omega), m4 c (by omega) hc]
                    refine ⟨⟨N, M, r, f, bd, bd, kd, bk, nt, hW, hr, HS0_keep (fun j _ _ _ => vk j (by omega)) (fun j _ => ak j (by omega)) hXf, ⟨?_, ?_, ?_, ?_, fun c hc => ?_, fun k hk => ?_⟩, ?_, ?_, fun _ => rfl⟩, RS_keep (fun j _ _ => vk j (by omega)) (fun j _ _ => ak j (by omega)) (fun j _ => nk j (by omega) (by omega) (by omega)) f1, RK_keep (fun j _ _ => vk j (by omega)) (ak _ (by omega)) (fun j _ _ => mk j (by omega)) (nk _ (by omega) (by omega) (by omega)) f2, RR_keep (vk _ (by omega)) (vk _ (by omega)) (ak _ (by omega)) (ak _ (by omega)) (mk _ (by omega)) (nk _ (by omega) (by omega) (by omega)) (nk _ (by omega) (by omega) (by omega)) f3, by rw [vk _ (by omega), mk _ (by omega)]; exact f4, by rw [vk _ (by omega), mk _ (by omega)]; exact f5⟩
                    · rw [mk _ (by omega)]; exact hY0.1
                    · rw [mk _ (by omega)]; exact hY0.2.1
                    · rw [mk _ (by omega)]; exact hY0.2.2.1
                    · rw [mk _ (by omega)]; exact hY0.2.2.2.1
                    · rw [nk 4 (by omega) (by omega) (by omega), n5 c hc]; exact hY0.2.2.2.2.1 c hc
                    · rw [nk 6 (by omega) (by omega) (by omega)]; exact hY0.2.2.2.2.2 k hk
                    · rw [vk _ (by omega), pk_un (by omega)]; exact hxr
                    · rw [mk _ (by omega), pk_un (by omega)]; exact hmr
                  rw [if_pos rfl]
                  by_cases hp1 : p5 = (1 : Int32)
                  · rw [if_pos hp1] at er2
                    rw [if_pos hp1, er2]; exact ⟨_, _, _, _, _, rfl, rfl, hrel⟩
                  · rw [if_neg hp1] at er2
                    rw [if_neg hp1]
                    by_cases hw : oN w = (-9 : Int32)
                    · rw [if_pos hw] at er2
                      rw [if_pos hw, er2, e8 hp1, kb1_some]; exact ⟨_, _, _, _, _, rfl, rfl, hrel⟩
                    · rw [if_neg hw] at er2
                      rw [if_neg hw, er2]; exact ⟨_, _, _, _, _, rfl, rfl, hrel⟩
            · rw [if_neg hh, if_neg hh]
              simp only [if_neg (show ¬ (3 : Int32) = 0 by decide)]
              exact ⟨_, _, _, _, _, rfl, rfl, flt_x 3 hR0⟩
        · rw [if_neg h5]
          have h5' : wI p5 0 4 = false ∧ wI p5 10 16 = false := by
            cases y1 : wI p5 0 4 <;> cases y2 : wI p5 10 16 <;> simp_all
          rw [h5'.1, h5'.2]
          exact ⟨_, _, _, _, _, rfl, rfl, Rel_flt 0 hR0⟩
      · rw [if_neg h4]
        have e4 : ∀ Y Z : Option (Int32 × kV × kR), (if p4 < 0 then Y else if (20 : Int32) < p4 then Y else Z) = Y := fun Y Z => by
          unfold wI at h4
          by_cases g1 : p4 < 0
          · rw [if_pos g1]
          · rw [if_neg g1]
            by_cases g2 : (20 : Int32) < p4
            · rw [if_pos g2]
            · rw [if_neg g1, if_neg g2] at h4; exact absurd rfl h4
        rw [e4]
        exact ⟨_, _, _, _, _, rfl, rfl, Rel_flt 0 hR0⟩
    · rw [if_neg h2, if_neg h2]; exact ⟨_, _, _, _, _, rfl, rfl, Rel_flt 0 hR0⟩
  · rw [if_neg h1, if_neg h1]; exact ⟨_, _, _, _, _, rfl, rfl, Rel_flt 0 hR0⟩
