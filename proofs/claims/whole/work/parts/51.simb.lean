theorem become_10 {N M r f : Nat} {v : kV} {ar : kR} {bd : Int32} {kd bk nt : Nat → Int32} (hN : N ≤ 7) (hM : M ≤ 6) (hS : HS 0 v ar N M f bd kd bk nt) (hr : v (2+5*0+2) = nI r) : ∃ v2 ar2, fX0_become 1 0 v ar = some (v2, ar2) ∧ HS 1 v2 ar2 N M f bd kd bk nt ∧ v2 (2+5*1+2) = nI r ∧ (∀ j, j < 7 ∨ 12 ≤ j → v2 j = v j) ∧ ∀ j, j < 4 ∨ 8 ≤ j → ar2 j = ar j := by
  unfold fX0_become
  rw [if_neg (by decide), if_neg (by decide), if_neg (by decide), if_neg (by decide)]
  refine ⟨_, _, rfl, ⟨hS.1, hS.2.1, hS.2.2.1, hS.2.2.2.1, fun c hc => ⟨?_, ?_, ?_⟩, fun k hk => ?_⟩, hr, fun j hj => ?_, fun j hj => ?_⟩
  · exact (sb_cpy0 (f := ar 0) (g := ar 4) (show c < 7 by omega)).trans (hS.2.2.2.2.1 c hc).1
  · exact (sb_cpy0 (f := ar 1) (g := ar 5) (show c < 7 by omega)).trans (hS.2.2.2.2.1 c hc).2.1
  · exact (sb_cpy0 (f := ar 2) (g := ar 6) (show c < 7 by omega)).trans (hS.2.2.2.2.1 c hc).2.2
  · exact (sb_cpy0 (f := ar 3) (g := ar 7) (show k < 6 by omega)).trans (hS.2.2.2.2.2 k hk)
  · rw [pk_un (by omega), pk_un (by omega), pk_un (by omega), pk_un (by omega), pk_un (by omega)]
  · rw [va_up_ne _ _ (by omega), va_up_ne _ _ (by omega), va_up_ne _ _ (by omega), va_up_ne _ _ (by omega)]
theorem become_01 {N M r f : Nat} {v : kV} {ar : kR} {bd : Int32} {kd bk nt : Nat → Int32} (hN : N ≤ 7) (hM : M ≤ 6) (hS : HS 1 v ar N M f bd kd bk nt) (hr : v (2+5*1+2) = nI r) : ∃ v2 ar2, fX0_become 0 1 v ar = some (v2, ar2) ∧ HS 0 v2 ar2 N M f bd kd bk nt ∧ v2 (2+5*0+2) = nI r ∧ (∀ j, j < 2 ∨ 7 ≤ j → v2 j = v j) ∧ ∀ j, 4 ≤ j → ar2 j = ar j := by
  unfold fX0_become
  rw [if_neg (by decide), if_neg (by decide), if_neg (by decide), if_neg (by decide)]
  refine ⟨_, _, rfl, ⟨hS.1, hS.2.1, hS.2.2.1, hS.2.2.2.1, fun c hc => ⟨?_, ?_, ?_⟩, fun k hk => ?_⟩, hr, fun j hj => ?_, fun j hj => ?_⟩
  · exact (sb_cpy0 (f := ar 4) (g := ar 0) (show c < 7 by omega)).trans (hS.2.2.2.2.1 c hc).1
  · exact (sb_cpy0 (f := ar 5) (g := ar 1) (show c < 7 by omega)).trans (hS.2.2.2.2.1 c hc).2.1
  · exact (sb_cpy0 (f := ar 6) (g := ar 2) (show c < 7 by omega)).trans (hS.2.2.2.2.1 c hc).2.2
  · exact (sb_cpy0 (f := ar 7) (g := ar 3) (show k < 6 by omega)).trans (hS.2.2.2.2.2 k hk)
  · rw [pk_un (by omega), pk_un (by omega), pk_un (by omega), pk_un (by omega), pk_un (by omega)]
  · rw [va_up_ne _ _ (by omega), va_up_ne _ _ (by omega), va_up_ne _ _ (by omega), va_up_ne _ _ (by omega)]
/-- behind a pass on both sides -/
theorem pass_rel {v mv : kV} {ar mar : kR} {N M r f : Nat} {bd : Int32} {kd bk nt : Nat → Int32} (hW : CW N M f kd bk nt) (hr : r < 2 ^ N) (hX : HS 0 v ar N M f bd kd bk nt) (hY : MS mv mar N M f bd kd bk nt) (hxr : v (2+5*0+2) = nI r) (hmr : mv 7 = nI r) (b1 : RS v ar mar) (b2 : RK v ar mv mar) (b3 : RR v ar mv mar) (b4 : v 0 = mv 1) (b5 : v 1 = mv 0) (mn : Int32) : ∃ v2 ar2 mv2 mar2, fX1_run 0 v ar mn = some (v2, ar2) ∧ fX7_findPass mv mar mn = some (mv2, mar2) ∧ HS 0 v2 ar2 N M f bd kd bk nt ∧ MS (upd mv2 7 (mv2 27)) mar2 N M f bd kd bk nt ∧ v2 15 = nI (passS nt (wN kd bk) N M f bd mn r).2.1 ∧ mv2 26 = nI (passS nt (wN kd bk) N M f bd mn r).2.1 ∧ v2 (2+5*0+2) = nI (passS nt (wN kd bk) N M f bd mn r).2.2.1 ∧ mv2 27 = nI (passS nt (wN kd bk) N M f bd mn r).2.2.1 ∧ RS v2 ar2 mar2 ∧ RK v2 ar2 (upd mv2 7 (mv2 27)) mar2 ∧ RR v2 ar2 (upd mv2 7 (mv2 27)) mar2 ∧ v2 0 = (upd mv2 7 (mv2 27)) 1 ∧ v2 1 = (upd mv2 7 (mv2 27)) 0 := by
  obtain ⟨v2, ar2, e1, p1, p2, p3, p4, p5, p6⟩ := run_x (h := 0) (by omega) hW mn hX hxr hr
  obtain ⟨mv2, mar2, e2, q1, q2, q3, q4, q5, q6⟩ := run_m hW mn hY hmr hr
  have k1 : ∀ j, j ≠ 4 → j < 14 ∨ 16 ≤ j → v2 j = v j := fun j a1 a2 => p1 j (by omega) (by omega) (by omega)
  have k2 : ∀ j, j ≠ 7 → j < 25 ∨ 28 ≤ j → (upd mv2 7 (mv2 27)) j = mv j := fun j a1 a2 => by rw [pk_un a1]; exact q1 j (by omega) (by omega) (by omega)
  refine ⟨v2, ar2, mv2, mar2, e1, e2, HS_keep (h := 0) (by omega) p1 p2 hX, MS0_keep (fun j _ _ a => pk_un a) (fun _ _ _ => rfl) (MS_keep q1 q2 hY), p4, q4, p5, q5, ?_, ?_, ?_, ?_, ?_⟩
  · exact RS_keep (fun j _ _ => k1 j (by omega) (by omega)) (fun j _ _ => p2 j (by omega)) (fun j _ => q2 j (by omega)) b1
  · exact RK_keep (fun j _ _ => k1 j (by omega) (by omega)) (p2 _ (by omega)) (fun j _ _ => k2 j (by omega) (by omega)) (q2 _ (by omega)) b2
  · exact RR_keep (k1 _ (by omega) (by omega)) (k1 _ (by omega) (by omega)) (p2 _ (by omega)) (p2 _ (by omega)) (k2 _ (by omega) (by omega)) (q2 _ (by omega)) (q2 _ (by omega)) b3
  · rw [k1 _ (by omega) (by omega), k2 _ (by omega) (by omega)]; exact b4
  · rw [k1 _ (by omega) (by omega), k2 _ (by omega) (by omega)]; exact b5
theorem sim_pass : Sim_pass := by
  intro v ar mv mar hR p1
  have hR0 := hR
  obtain ⟨⟨N, M, r, f, bd, bd2, kd, bk, nt, hW, hr, hX, hY, hxr, hmr, hbd⟩, b1, b2, b3, b4, b5⟩ := hR
  have hN := hW.1
  unfold fX6_pass fX7_pass
  rw [noc_x hX hN, kb1_some, bIf, noc_m hY hN]
  by_cases h0 : N = 0
  · rw [if_pos h0, if_pos (decide_eq_true h0)]; exact ⟨_, v, ar, mv, mar, rfl, rfl, hR0⟩
  · rw [if_neg h0, if_neg (by simpa using h0), within_w, kb1_some, bIf, manner_x, kb1_some, bIf]
    have hb := hbd (by omega)
    subst hb
    by_cases h1 : wI p1 0 2 = true
    · rw [if_pos h1, if_pos h1]
      obtain ⟨v2, ar2, mv2, mar2, e1, e2, g1, g2, g3, g4, g5, g6, g7, g8, g9, g10, g11⟩ := pass_rel hW hr hX hY hxr hmr b1 b2 b3 b4 b5 p1
      have hok := passS_ok (nt := nt) (w := wN kd bk) (M := M) (bd := bd) (mn := p1) hN hW.2.2.1 hr
      rw [e1, e2, kb2_some, kb2_some, pk_un (by omega), g3, g4]
      exact ⟨_, _, _, _, _, rfl, rfl, ⟨N, M, _, f, bd, bd, kd, bk, nt, hW, hok.2.2.1, g1, g2, g5, by rw [pk_us]; exact g6, fun _ => rfl⟩, g7, g8, g9, g10, g11⟩
    · rw [if_neg h1, if_neg h1]; exact ⟨_, v, ar, mv, mar, rfl, rfl, hR0⟩
theorem settle_L (mn : Int32) : ∀ (d n k : Nat) (v : kV) (ar : kR) (mv : kV) (mar : kR) (N M r f : Nat) (bd : Int32) (kd bk nt : Nat → Int32), CW N M f kd bk nt → r < 2 ^ N → HS 0 v ar N M f bd kd bk nt → MS mv mar N M f bd kd bk nt → v (2+5*0+2) = nI r → mv 7 = nI r → RS v ar mar → RK v ar mv mar → RR v ar mv mar → v 0 = mv 1 → v 1 = mv 0 → cutD nt (nI r) 0 M = d → k + d ≤ 6 → d + 1 < n → ∃ r2 v2 ar2 mv2 mar2, fX6_settle_24 mn n (nI k) 0 v ar = some (r2, v2, ar2) ∧ fX7_settle_26 mn n (nI k) 1 mv mar = some (r2, mv2, mar2) ∧ Rel v2 ar2 mv2 mar2 := by
  intro d
  induction d using Nat.strongRecOn with
  | ind d ih =>
    intro n k v ar mv mar N M r f bd kd bk nt hW hr hX hY hxr hmr b1 b2 b3 b4 b5 hd hk hn
    have hN := hW.1
    have hM := hW.2.1
    obtain ⟨n, rfl⟩ : ∃ n', n = n' + 1 := ⟨n - 1, by omega⟩
    obtain ⟨n, rfl⟩ : ∃ n', n = n' + 1 := ⟨n - 1, by omega⟩
    obtain ⟨v2, ar2, mv2, mar2, e1, e2, g1, g2, g3, g4, g5, g6, g7, g8, g9, g10, g11⟩ := pass_rel hW hr hX hY hxr hmr b1 b2 b3 b4 b5 mn
    have hok := passS_ok (nt := nt) (w := wN kd bk) (M := M) (bd := bd) (mn := mn) hN hW.2.2.1 hr
    generalize (passS nt (wN kd bk) N M f bd mn r).2.2.1 = r3 at g5 g6 hok
    have hct : cutD nt (nI r3) 0 M ≤ M := cutD_le nt _ M 0
    show ∃ r2 v2 ar2 mv2 mar2, fX6_settle_24b mn _ _ _ _ _ = _ ∧ fX7_settle_26b mn _ _ _ _ _ = _ ∧ _
    unfold fX6_settle_24b fX7_settle_26b fX6_settle_75 fX7_settle_74
    rw [if_pos rfl, if_neg (show ¬ (6 : Int32) < nI k from nI_nlt (a := 6) (b := k) (by omega) (by omega)), if_neg (show ¬ (1 : Int32) = 0 by decide), cutsN_x hX hM, kb1_some, cuts_m hY hM, kb1_some, e1, kb2_some, e2, kb2_some, cutsN_x g1 hM, kb1_some, cuts_m g2 hM, kb1_some, pk_us, g5, g6, hxr, hmr, nI_1, hd]
    rw [g6] at g2 g8 g9 g10 g11
    have hrel : Rel v2 ar2 (upd mv2 7 (nI r3)) mar2 := ⟨⟨N, M, r3, f, bd, bd, kd, bk, nt, hW, hok.2.2.1, g1, g2, g5, pk_us, fun _ => rfl⟩, g7, g8, g9, g10, g11⟩
    by_cases heq : cutD nt (nI r3) 0 M = d
    · rw [heq, if_pos rfl, if_pos (nI_le (Nat.le_refl d) (by omega))]
      refine ⟨nI (k + 1), v2, ar2, _, mar2, ?_, ?_, hrel⟩
      · show fX6_settle_24b mn _ _ _ _ _ = _
        unfold fX6_settle_24b
        rw [if_neg (by decide)]
      · show fX7_settle_26b mn _ _ _ _ _ = _
        unfold fX7_settle_26b
        rw [if_pos rfl]
    · rw [if_neg (fun z => heq ((nI_eq (by omega) (by omega)).mp z)), if_neg (nI_ge (by omega) (by omega))]
      exact ih (cutD nt (nI r3) 0 M) (by omega) (n + 1) (k + 1) v2 ar2 _ mar2 N M r3 f bd kd bk nt hW hok.2.2.1 g1 g2 g5 pk_us g7 g8 g9 g10 g11 rfl (by omega) (by omega)
theorem sim_settle : Sim_settle := by
  intro v ar mv mar hR p1
  have hR0 := hR
  obtain ⟨⟨N, M, r, f, bd, bd2, kd, bk, nt, hW, hr, hX, hY, hxr, hmr, hbd⟩, b1, b2, b3, b4, b5⟩ := hR
  have hN := hW.1
  unfold fX6_settle fX7_settle
  rw [noc_x hX hN, kb1_some, bIf, noc_m hY hN]
  by_cases h0 : N = 0
  · rw [if_pos h0, if_pos (decide_eq_true h0)]; exact ⟨_, v, ar, mv, mar, rfl, rfl, hR0⟩
  · rw [if_neg h0, if_neg (by simpa using h0), within_w, kb1_some, bIf, manner_x, kb1_some, bIf]
    have hb := hbd (by omega)
    subst hb
    by_cases h1 : wI p1 0 2 = true
    · rw [if_pos h1, if_pos h1]
      have hct : cutD nt (nI r) 0 M ≤ M := cutD_le nt _ M 0
      have hM := hW.2.1
      exact settle_L p1 _ 300 0 v ar mv mar N M r f bd kd bk nt hW hr hX hY hxr hmr b1 b2 b3 b4 b5 rfl (by omega) (by omega)
    · rw [if_neg h1, if_neg h1]; exact ⟨_, v, ar, mv, mar, rfl, rfl, hR0⟩
theorem asked_x (p b : Int32) : fX6_isAsked p b = some (wI p 0 b || wI p 10 16) := by
  unfold fX6_isAsked fX6_isAsked_9 fX6_isAsked_21
  have e : (if p < (10 : Int32) then some false else if (17 : Int32) ≤ p then some false else some true) = some (wI p 10 16) := by
    unfold wI
    by_cases h1 : p < (10 : Int32)
    · rw [if_pos h1, if_pos h1]
    · rw [if_neg h1, if_neg h1]
      have e1 : (17 : Int32).toInt = 17 := rfl
      have e2 : (16 : Int32).toInt = 16 := rfl
      by_cases h2 : (17 : Int32) ≤ p
      · have h3 : (16 : Int32) < p := by rw [Int32.lt_iff_toInt_lt]; rw [Int32.le_iff_toInt_le] at h2; omega
        rw [if_pos h2, if_pos h3]
      · have h3 : ¬ (16 : Int32) < p := by rw [Int32.lt_iff_toInt_lt]; rw [Int32.le_iff_toInt_le] at h2; omega
        rw [if_neg h2, if_neg h3]
  rw [e, rng_if]
  cases h : wI p 0 b <;> simp
theorem moved_9 {p : Int32} (h1 : wI p 0 2 = false) (h2 : wI p 10 16 = true) : ∃ j : Nat, j < 7 ∧ p = nI (10 + j) ∧ p - (10 : Int32) = nI j := by
  obtain ⟨j, a1, a2, rfl⟩ := wI_of (lo := 10) (hi := 16) (by omega) (by omega) h2
  refine ⟨j - 10, by omega, by rw [show 10 + (j - 10) = j by omega], ?_⟩
  exact pk_sub (a := j) (b := 10) a1
theorem sim_tries : Sim_tries := by
  intro v ar mv mar hR p1 p2
  have hR0 := hR
  obtain ⟨⟨N, M, r, f, bd, bd2, kd, bk, nt, hW, hr, hX, hY, hxr, hmr, hbd⟩, b1, b2, b3, b4, b5⟩ := hR
  have hN := hW.1
  have hM := hW.2.1
  unfold fX6_tries fX7_tries
  rw [noc_x hX hN, kb1_some, bIf, noc_m hY hN]
  by_cases h0 : N = 0
  · rw [if_pos h0, if_pos (decide_eq_true h0)]; exact ⟨_, v, ar, mv, mar, rfl, rfl, hR0⟩
  · rw [if_neg h0, if_neg (by simpa using h0), within_w, kb1_some, bIf, manner_x, kb1_some, bIf, asked_x, kb1_some, bIf, within_w, kb1_some, bIf, within_w, kb1_some, bIf]
    have hb := hbd (by omega)
    subst hb
    by_cases h1 : wI p1 0 2 = true
    · rw [if_pos h1, if_pos h1]
      by_cases h2 : (wI p2 0 2 || wI p2 10 16) = true
      · rw [if_pos h2]
        have e9 : (if wI p2 0 2 = true then fX7_tries_42 p1 p2 mv mar else if wI p2 10 16 = true then fX7_tries_42 p1 p2 mv mar else some ((-2 : Int32), mv, mar)) = fX7_tries_42 p1 p2 mv mar := by
          cases z1 : wI p2 0 2
          · rw [z1, Bool.false_or] at h2
            rw [if_neg (by decide), if_pos h2]
          · rfl
        rw [e9]
        obtain ⟨v3, ar3, e3, hX3, hr3, k1, k2⟩ := become_10 hN hM hX hxr
        obtain ⟨v4, ar4, e4, p1', p2', p3, p4, p5, p6⟩ := run_x (h := 1) (by omega) hW p1 hX3 hr3 hr
        obtain ⟨mv2, mar2, e2, q1, q2, q3, q4, q5, q6⟩ := run_m hW p1 hY hmr hr
        have hok := passS_ok (nt := nt) (w := wN kd bk) (M := M) (bd := bd) (mn := p1) hN hW.2.2.1 hr
        have hX4 := HS_keep (h := 1) (by omega) p1' p2' hX3
        have hY2 := MS_keep q1 q2 hY
        have hrel : Rel v4 ar4 mv2 mar2 := Rel_scr (fun j _ a => by rw [p1' j (by omega) (by omega) (by omega)]; exact k1 j (by omega)) (fun j _ a => by rw [p2' j (by omega)]; exact k2 j (by omega)) (fun j _ a => q1 j (by omega) (by omega) (by omega)) (fun j _ a => q2 j (by omega)) hR0
        unfold fX7_tries_42
        rw [e3, kb2_some, e4, kb2_some, e2, kb2_some, cutsN_x hX4 hM, kb1_some, cuts_m hY2 hM, kb1_some, p5, q5, p3, p4, q3, q4]
        generalize passS nt (wN kd bk) N M f bd p1 r = PP at *
        by_cases z1 : wI p2 0 2 = true
        · obtain ⟨j, -, hj, rfl⟩ := wI_of (lo := 0) (hi := 2) (by omega) (by omega) z1
          rcases (show j = 0 ∨ j = 1 ∨ j = 2 by omega) with rfl | rfl | rfl
          · exact ⟨_, _, _, _, _, rfl, rfl, hrel⟩
          · exact ⟨_, _, _, _, _, rfl, rfl, hrel⟩
          · exact ⟨_, _, _, _, _, rfl, rfl, hrel⟩
        · have z1f : wI p2 0 2 = false := by cases hz : wI p2 0 2 <;> simp_all
          rw [z1f, Bool.false_or] at h2
          obtain ⟨j, hj, ep, es⟩ := moved_9 z1f h2
          unfold fX1_movedAt
          rw [p3, es, if_neg (show ¬ nI j < 0 from nI_pos (by omega)), if_neg (show ¬ (nI j < 0 ∨ 7 ≤ (nI j).toNatClampNeg) from nI_in (by omega) (by omega)), if_neg (show ¬ (nI j < 0 ∨ 7 ≤ (nI j).toNatClampNeg) from nI_in (by omega) (by omega)), nI_clamp (by omega), ep, if_neg (show ¬ nI (10 + j) = (0 : Int32) from fun z => absurd ((nI_eq (a := 10 + j) (b := 0) (by omega) (by omega)).mp z) (by omega)), if_neg (show ¬ nI (10 + j) = (1 : Int32) from fun z => absurd ((nI_eq (a := 10 + j) (b := 1) (by omega) (by omega)).mp z) (by omega)), if_neg (show ¬ nI (10 + j) = (2 : Int32) from fun z => absurd ((nI_eq (a := 10 + j) (b := 2) (by omega) (by omega)).mp z) (by omega)), if_neg (show ¬ nI (10 + j) < (10 : Int32) from nI_nlt (a := 10 + j) (b := 10) (by omega) (by omega))]
          by_cases hjl : PP.1 ≤ j
          · rw [if_pos (nI_le hjl (by omega)), if_pos (nI_le hjl (by omega))]
            exact ⟨_, _, _, _, _, rfl, rfl, hrel⟩
          · rw [if_neg (nI_ge (by omega) (by omega)), if_neg (nI_ge (by omega) (by omega)), kb1_some, p6 j (by omega), q6 j (by omega)]
            exact ⟨_, _, _, _, _, rfl, rfl, hrel⟩
      · rw [if_neg h2]
        have z1 : wI p2 0 2 = false := by cases hz : wI p2 0 2 <;> simp_all
        have z2 : wI p2 10 16 = false := by cases hz : wI p2 10 16 <;> simp_all
        rw [z1, z2]
        exact ⟨_, v, ar, mv, mar, rfl, rfl, hR0⟩
    · rw [if_neg h1, if_neg h1]; exact ⟨_, v, ar, mv, mar, rfl, rfl, hR0⟩
