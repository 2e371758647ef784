-- a pass
def cntU (lk N : Nat) : Nat := ((List.range N).filter (fun c => !lk.testBit c)).length
theorem cu_step : ∀ N, N < 8 → ∀ lk, lk < 128 → ∀ c, c < 7 → c < N → lk.testBit c = false → cntU (lk ||| 2 ^ c) N + 1 = cntU lk N := by decide +kernel
theorem cu_zero : ∀ N, N < 8 → ∀ lk, lk < 128 → cntU lk N = 0 → ∀ c, c < 7 → c < N → lk.testBit c = true := by decide +kernel
theorem cu_0 : ∀ N, N < 8 → cntU 0 N = N := by decide +kernel
def passD (nt : Nat → Int32) (w : Nat → Nat) (N M f : Nat) (bd mn : Int32) : Nat → Nat → Nat → Nat → Nat → Nat → Nat → (Nat → Int32) → Nat × Nat × Nat × (Nat → Int32)
  | 0, _, _, _, rs, st, mv, mvd => (mv, st, rs, mvd)
  | d + 1, r, lk, fw, rs, st, mv, mvd => match bestS nt w N M bd mn r (f ||| lk) with
    | none => (mv, st, rs, mvd)
    | some c => if cutD nt (nI (r ^^^ 2 ^ c)) 0 M < fw then passD nt w N M f bd mn d (r ^^^ 2 ^ c) (lk ||| 2 ^ c) (cutD nt (nI (r ^^^ 2 ^ c)) 0 M) (r ^^^ 2 ^ c) (mv + 1) (mv + 1) (upd mvd mv (nI c)) else passD nt w N M f bd mn d (r ^^^ 2 ^ c) (lk ||| 2 ^ c) fw rs st (mv + 1) (upd mvd mv (nI c))
def PX (h : Nat) (v : kV) (ar : kR) (v2 : kV) (ar2 : kR) (P : Nat × Nat × Nat × (Nat → Int32)) : Prop := (∀ j, j ≠ 14 → j ≠ 15 → j ≠ 2+5*h+2 → v2 j = v j) ∧ (∀ j, j ≠ 9 → ar2 j = ar j) ∧ v2 14 = nI P.1 ∧ v2 15 = nI P.2.1 ∧ v2 (2+5*h+2) = nI P.2.2.1 ∧ ∀ k, k < P.1 → ar2 9 k = P.2.2.2 k
def PM (v : kV) (ar : kR) (v2 : kV) (ar2 : kR) (P : Nat × Nat × Nat × (Nat → Int32)) : Prop := (∀ j, j ≠ 25 → j ≠ 26 → j ≠ 27 → v2 j = v j) ∧ (∀ j, j ≠ 10 → ar2 j = ar j) ∧ v2 25 = nI P.1 ∧ v2 26 = nI P.2.1 ∧ v2 27 = nI P.2.2.1 ∧ ∀ k, k < P.1 → ar2 10 k = P.2.2.2 k
section PS
variable {h N M f : Nat} {bd : Int32} {kd bk nt : Nat → Int32}
theorem HS_keep {v v2 : kV} {ar ar2 : kR} (hh : h < 2) (h1 : ∀ j, j ≠ 14 → j ≠ 15 → j ≠ 2+5*h+2 → v2 j = v j) (h2 : ∀ j, j ≠ 9 → ar2 j = ar j) (hS : HS h v ar N M f bd kd bk nt) : HS h v2 ar2 N M f bd kd bk nt := by
  obtain ⟨a1, a2, a3, a4, a5, a6⟩ := hS
  refine ⟨by rw [h1 _ (by omega) (by omega) (by omega)]; exact a1, by rw [h1 _ (by omega) (by omega) (by omega)]; exact a2, by rw [h1 _ (by omega) (by omega) (by omega)]; exact a3, by rw [h1 _ (by omega) (by omega) (by omega)]; exact a4, fun c hc => ?_, fun k hk => ?_⟩
  · rw [h2 _ (by omega), h2 _ (by omega), h2 _ (by omega)]; exact a5 c hc
  · rw [h2 _ (by omega)]; exact a6 k hk
theorem MS_keep {v v2 : kV} {ar ar2 : kR} (h1 : ∀ j, j ≠ 25 → j ≠ 26 → j ≠ 27 → v2 j = v j) (h2 : ∀ j, j ≠ 10 → ar2 j = ar j) (hS : MS v ar N M f bd kd bk nt) : MS v2 ar2 N M f bd kd bk nt := by
  obtain ⟨a1, a2, a3, a4, a5, a6⟩ := hS
  refine ⟨by rw [h1 _ (by omega) (by omega) (by omega)]; exact a1, by rw [h1 _ (by omega) (by omega) (by omega)]; exact a2, by rw [h1 _ (by omega) (by omega) (by omega)]; exact a3, by rw [h1 _ (by omega) (by omega) (by omega)]; exact a4, fun c hc => ?_, fun k hk => ?_⟩
  · rw [h2 _ (by omega), h2 _ (by omega)]; exact a5 c hc
  · rw [h2 _ (by omega)]; exact a6 k hk
theorem best_in {w : Nat → Nat} {mn : Int32} {r lk : Nat} (hN : N ≤ 7) (hf : f < 2 ^ N) (hl : lk < 2 ^ N) {c : Nat} (h : bestS nt w N M bd mn r (f ||| lk) = some c) : c < N ∧ lk.testBit c = false := by
  have h7 := p2_7 hN
  have h1 := bst_ok N 0 none (fun j hj => by cases hj) c h
  rw [Nat.zero_add] at h1
  rw [bt_nat _ (Nat.lt_of_lt_of_le (Nat.or_lt_two_pow hf hl) h7) c (by omega), Nat.testBit_or] at h1
  exact ⟨h1.1, (Bool.or_eq_false_iff.mp h1.2).2⟩
theorem best_no {w : Nat → Nat} {mn : Int32} {r lk : Nat} (hN : N ≤ 7) (hf : f < 2 ^ N) (hl : lk < 2 ^ N) (h0 : cntU lk N = 0) : bestS nt w N M bd mn r (f ||| lk) = none := by
  have h7 := p2_7 hN
  refine bst_none N 0 none (fun j _ hj => ?_)
  rw [bt_nat _ (Nat.lt_of_lt_of_le (Nat.or_lt_two_pow hf hl) h7) j (by omega), Nat.testBit_or, cu_zero N (by omega) lk (by omega) h0 j (by omega) (by omega), Bool.or_true]
theorem run_xL (hh : h < 2) (hW : CW N M f kd bk nt) (mn : Int32) : ∀ (d n : Nat) (r lk fw rs st mv : Nat) (mvd : Nat → Int32) (v : kV) (ar : kR), HS h v ar N M f bd kd bk nt → v (2+5*h+2) = nI r → r < 2 ^ N → lk < 2 ^ N → cntU lk N = d → mv + d = N → d < n → fw ≤ 6 → v 14 = nI mv → v 15 = nI st → (∀ k, k < mv → ar 9 k = mvd k) → ∃ v2 ar2, fX1_run_30 h mn n (nI (f ||| lk)) (nI fw) (nI rs) (nI mv) v ar = some (v2, ar2) ∧ PX h v ar v2 ar2 (passD nt (wN kd bk) N M f bd mn d r lk fw rs st mv mvd) := by
  have hN := hW.1
  have hM := hW.2.1
  have hf := hW.2.2.1
  have h7 := p2_7 hN
  intro d
  induction d with
  | zero =>
    intro n r lk fw rs st mv mvd v ar hS hr hr2 hl hc hmv hn hfw h14 h15 hmd
    obtain ⟨n, rfl⟩ : ∃ n', n = n' + 1 := ⟨n - 1, by omega⟩
    refine ⟨upd v (2+5*h+2) (nI rs), ar, ?_, ?_⟩
    · show fX1_run_30b h mn _ _ _ _ _ _ _ = _
      unfold fX1_run_30b
      rw [hS.1, if_pos (nI_le (by omega) (by omega))]
      rfl
    · exact ⟨fun j _ _ h3 => pk_un h3, fun _ _ => rfl, by rw [pk_un (by omega)]; exact h14, by rw [pk_un (by omega)]; exact h15, pk_us, hmd⟩
  | succ d ih =>
    intro n r lk fw rs st mv mvd v ar hS hr hr2 hl hc hmv hn hfw h14 h15 hmd
    obtain ⟨n, rfl⟩ : ∃ n', n = n' + 1 := ⟨n - 1, by omega⟩
    show ∃ v2 ar2, fX1_run_30b h mn _ _ _ _ _ _ _ = _ ∧ _
    unfold fX1_run_30b
    rw [hS.1, if_neg (nI_ge (by omega) (by omega)), best_x hS hW hr, kb1_some]
    unfold passD
    cases hb : bestS nt (wN kd bk) N M bd mn r (f ||| lk) with
    | none =>
      refine ⟨upd v (2+5*h+2) (nI rs), ar, ?_, ?_⟩
      · rw [show oN none = (-9 : Int32) from rfl, if_pos rfl]
        rfl
      · exact ⟨fun j _ _ h3 => pk_un h3, fun _ _ => rfl, by rw [pk_un (by omega)]; exact h14, by rw [pk_un (by omega)]; exact h15, pk_us, hmd⟩
    | some c =>
      obtain ⟨hcN, hcl⟩ := best_in hN hf hl hb
      have hcu := cu_step N (by omega) lk (by omega) c (by omega) hcN hcl
      rw [show oN (some c) = nI c from rfl, if_neg (oN_9 c (by omega))]
      unfold fX0_flip fX1_run_120
      rw [kb2_some, hr, xor_nat r (by omega) c (by omega), pk_un (show (14 : Nat) ≠ 2+5*h+2 by omega), h14, if_neg (nI_in (by omega) (by omega)), nI_clamp (by omega), nI_1, or_nat _ (Nat.lt_of_lt_of_le (Nat.or_lt_two_pow hf hl) h7) c (by omega), Nat.or_assoc]
      generalize hv3 : upd (upd v (2+5*h+2) (nI (r ^^^ 2 ^ c))) 14 (nI (mv + 1)) = v3
      generalize har3 : va_up ar 9 (upd (ar 9) mv (nI c)) = ar3
      have hv3k : ∀ j, j ≠ 14 → j ≠ 15 → j ≠ 2+5*h+2 → v3 j = v j := fun j a1 a2 a3 => by rw [← hv3, pk_un a1, pk_un a3]
      have har3k : ∀ j, j ≠ 9 → ar3 j = ar j := fun j a1 => by rw [← har3, va_up_ne _ _ a1]
      have hS3 := HS_keep hh hv3k har3k hS
      have hr3 : v3 (2+5*h+2) = nI (r ^^^ 2 ^ c) := by rw [← hv3, pk_un (by omega), pk_us]
      have h143 : v3 14 = nI (mv + 1) := by rw [← hv3, pk_us]
      have h153 : v3 15 = nI st := by rw [← hv3, pk_un (by omega), pk_un (by omega)]; exact h15
      have hmd3 : ∀ k, k < mv + 1 → ar3 9 k = upd mvd mv (nI c) k := fun k hk => by
        rw [← har3, va_up_self]
        by_cases hkm : k = mv
        · rw [hkm, pk_us, pk_us]
        · rw [pk_un hkm, pk_un hkm]; exact hmd k (by omega)
      have hct : cutD nt (nI (r ^^^ 2 ^ c)) 0 M ≤ M := cutD_le nt _ M 0
      rw [cutsN_x hS3 hM, kb1_some, hr3, kb1_some, h143]
      by_cases hlt : cutD nt (nI (r ^^^ 2 ^ c)) 0 M < fw
      · rw [if_neg (nI_ge hlt (by omega))]
        dsimp only
        rw [if_pos hlt]
        have hk15 : ∀ j, j ≠ 15 → (upd v3 15 (nI (mv + 1))) j = v3 j := fun j hj => pk_un hj
        obtain ⟨v2, ar2, e1, p1, p2, p3⟩ := ih n (r ^^^ 2 ^ c) (lk ||| 2 ^ c) (cutD nt (nI (r ^^^ 2 ^ c)) 0 M) (r ^^^ 2 ^ c) (mv + 1) (mv + 1) (upd mvd mv (nI c)) (upd v3 15 (nI (mv + 1))) ar3 (HS_keep hh (fun j _ a2 _ => hk15 j a2) (fun _ _ => rfl) hS3) (by rw [hk15 _ (by omega)]; exact hr3) (xor_lt hr2 hcN) (or_lt hl hcN) (by omega) (by omega) (by omega) (by omega) (by rw [hk15 _ (by omega)]; exact h143) pk_us hmd3
        exact ⟨v2, ar2, e1, fun j a1 a2 a3 => by rw [p1 j a1 a2 a3, hk15 j a2]; exact hv3k j a1 a2 a3, fun j a1 => by rw [p2 j a1]; exact har3k j a1, p3⟩
      · rw [if_pos (nI_le (by omega) (by omega))]
        dsimp only
        rw [if_neg hlt]
        obtain ⟨v2, ar2, e1, p1, p2, p3⟩ := ih n (r ^^^ 2 ^ c) (lk ||| 2 ^ c) fw rs st (mv + 1) (upd mvd mv (nI c)) v3 ar3 hS3 hr3 (xor_lt hr2 hcN) (or_lt hl hcN) (by omega) (by omega) (by omega) hfw h143 h153 hmd3
        exact ⟨v2, ar2, e1, fun j a1 a2 a3 => by rw [p1 j a1 a2 a3]; exact hv3k j a1 a2 a3, fun j a1 => by rw [p2 j a1]; exact har3k j a1, p3⟩
theorem run_mL (hW : CW N M f kd bk nt) (mn : Int32) : ∀ (d n : Nat) (r lk fw rs st mv : Nat) (mvd : Nat → Int32) (v : kV) (ar : kR), MS v ar N M f bd kd bk nt → r < 2 ^ N → lk < 2 ^ N → cntU lk N = d → mv + d = N → d < n → fw ≤ 6 → v 25 = nI mv → v 26 = nI st → v 27 = nI rs → (∀ k, k < mv → ar 10 k = mvd k) → ∃ v2 ar2, fX7_findPass_44 mn n (nI r) (nI lk) (nI fw) (oN (bestS nt (wN kd bk) N M bd mn r (f ||| lk))) v ar = some (v2, ar2) ∧ PM v ar v2 ar2 (passD nt (wN kd bk) N M f bd mn d r lk fw rs st mv mvd) := by
  have hN := hW.1
  have hM := hW.2.1
  have hf := hW.2.2.1
  have h7 := p2_7 hN
  intro d
  induction d with
  | zero =>
    intro n r lk fw rs st mv mvd v ar hS hr2 hl hc hmv hn hfw h25 h26 h27 hmd
    obtain ⟨n, rfl⟩ : ∃ n', n = n' + 1 := ⟨n - 1, by omega⟩
    rw [best_no hN hf hl hc]
    refine ⟨v, ar, ?_, ?_⟩
    · show fX7_findPass_44b mn _ _ _ _ _ _ _ = _
      unfold fX7_findPass_44b
      rw [show oN none = (-9 : Int32) from rfl, if_pos rfl]
    · exact ⟨fun _ _ _ _ => rfl, fun _ _ => rfl, h25, h26, h27, hmd⟩
  | succ d ih =>
    intro n r lk fw rs st mv mvd v ar hS hr2 hl hc hmv hn hfw h25 h26 h27 hmd
    obtain ⟨n, rfl⟩ : ∃ n', n = n' + 1 := ⟨n - 1, by omega⟩
    show ∃ v2 ar2, fX7_findPass_44b mn _ _ _ _ _ _ _ = _ ∧ _
    unfold fX7_findPass_44b passD
    cases hb : bestS nt (wN kd bk) N M bd mn r (f ||| lk) with
    | none =>
      refine ⟨v, ar, ?_, ?_⟩
      · rw [show oN none = (-9 : Int32) from rfl, if_pos rfl]
      · exact ⟨fun _ _ _ _ => rfl, fun _ _ => rfl, h25, h26, h27, hmd⟩
    | some c =>
      obtain ⟨hcN, hcl⟩ := best_in hN hf hl hb
      have hcu := cu_step N (by omega) lk (by omega) c (by omega) hcN hcl
      unfold fX7_findPass_116
      rw [show oN (some c) = nI c from rfl, if_neg (oN_9 c (by omega)), xor_nat r (by omega) c (by omega), h25, if_neg (nI_in (by omega) (by omega)), nI_clamp (by omega), nI_1, or_nat lk (by omega) c (by omega)]
      generalize hv3 : upd v 25 (nI (mv + 1)) = v3
      generalize har3 : va_up ar 10 (upd (ar 10) mv (nI c)) = ar3
      have hv3k : ∀ j, j ≠ 25 → j ≠ 26 → j ≠ 27 → v3 j = v j := fun j a1 a2 a3 => by rw [← hv3, pk_un a1]
      have har3k : ∀ j, j ≠ 10 → ar3 j = ar j := fun j a1 => by rw [← har3, va_up_ne _ _ a1]
      have hS3 := MS_keep hv3k har3k hS
      have h253 : v3 25 = nI (mv + 1) := by rw [← hv3, pk_us]
      have h263 : v3 26 = nI st := by rw [← hv3, pk_un (by omega)]; exact h26
      have h273 : v3 27 = nI rs := by rw [← hv3, pk_un (by omega)]; exact h27
      have hmd3 : ∀ k, k < mv + 1 → ar3 10 k = upd mvd mv (nI c) k := fun k hk => by
        rw [← har3, va_up_self]
        by_cases hkm : k = mv
        · rw [hkm, pk_us, pk_us]
        · rw [pk_un hkm, pk_un hkm]; exact hmd k (by omega)
      have hct : cutD nt (nI (r ^^^ 2 ^ c)) 0 M ≤ M := cutD_le nt _ M 0
      rw [cuts_m hS3 hM, kb1_some, kb1_some, h253]
      by_cases hlt : cutD nt (nI (r ^^^ 2 ^ c)) 0 M < fw
      · rw [if_neg (nI_ge hlt (by omega))]
        dsimp only
        rw [if_pos hlt]
        generalize hv4 : upd (upd v3 26 (nI (mv + 1))) 27 (nI (r ^^^ 2 ^ c)) = v4
        have hv4k : ∀ j, j ≠ 26 → j ≠ 27 → v4 j = v3 j := fun j a1 a2 => by rw [← hv4, pk_un a2, pk_un a1]
        have hS4 := MS_keep (fun j _ a2 a3 => hv4k j a2 a3) (fun _ _ => rfl) hS3
        rw [best_m hS4 hW (xor_lt hr2 hcN) mn _ (or_lt hl hcN), kb1_some]
        obtain ⟨v2, ar2, e1, p1, p2, p3⟩ := ih n (r ^^^ 2 ^ c) (lk ||| 2 ^ c) (cutD nt (nI (r ^^^ 2 ^ c)) 0 M) (r ^^^ 2 ^ c) (mv + 1) (mv + 1) (upd mvd mv (nI c)) v4 ar3 hS4 (xor_lt hr2 hcN) (or_lt hl hcN) (by omega) (by omega) (by omega) (by omega) (by rw [hv4k _ (by omega) (by omega)]; exact h253) (by rw [← hv4, pk_un (by omega), pk_us]) (by rw [← hv4, pk_us]) hmd3
        exact ⟨v2, ar2, e1, fun j a1 a2 a3 => by rw [p1 j a1 a2 a3, hv4k j a2 a3]; exact hv3k j a1 a2 a3, fun j a1 => by rw [p2 j a1]; exact har3k j a1, p3⟩
      · rw [if_pos (nI_le (by omega) (by omega))]
        dsimp only
        rw [if_neg hlt, best_m hS3 hW (xor_lt hr2 hcN) mn _ (or_lt hl hcN), kb1_some]
        obtain ⟨v2, ar2, e1, p1, p2, p3⟩ := ih n (r ^^^ 2 ^ c) (lk ||| 2 ^ c) fw rs st (mv + 1) (upd mvd mv (nI c)) v3 ar3 hS3 (xor_lt hr2 hcN) (or_lt hl hcN) (by omega) (by omega) (by omega) hfw h253 h263 h273 hmd3
        exact ⟨v2, ar2, e1, fun j a1 a2 a3 => by rw [p1 j a1 a2 a3]; exact hv3k j a1 a2 a3, fun j a1 => by rw [p2 j a1]; exact har3k j a1, p3⟩
def passS (nt : Nat → Int32) (w : Nat → Nat) (N M f : Nat) (bd mn : Int32) (r : Nat) : Nat × Nat × Nat × (Nat → Int32) := passD nt w N M f bd mn N r 0 (cutD nt (nI r) 0 M) r 0 0 (fun _ => 0)
theorem run_x (hh : h < 2) (hW : CW N M f kd bk nt) (mn : Int32) {r : Nat} {v : kV} {ar : kR} (hS : HS h v ar N M f bd kd bk nt) (hr : v (2+5*h+2) = nI r) (hr2 : r < 2 ^ N) : ∃ v2 ar2, fX1_run h v ar mn = some (v2, ar2) ∧ PX h v ar v2 ar2 (passS nt (wN kd bk) N M f bd mn r) := by
  have hN := hW.1
  have hM := hW.2.1
  have hct : cutD nt (nI r) 0 M ≤ M := cutD_le nt _ M 0
  unfold fX1_run
  generalize hv3 : upd (upd v 14 (0 : Int32)) 15 (0 : Int32) = v3
  have hv3k : ∀ j, j ≠ 14 → j ≠ 15 → v3 j = v j := fun j a1 a2 => by rw [← hv3, pk_un a2, pk_un a1]
  have hS3 := HS_keep hh (fun j a1 a2 _ => hv3k j a1 a2) (fun _ _ => rfl) hS
  have hr3 : v3 (2+5*h+2) = nI r := by rw [hv3k _ (by omega) (by omega)]; exact hr
  rw [cutsN_x hS3 hM, kb1_some, hr3, hS3.2.2.1]
  obtain ⟨v2, ar2, e1, p1, p2, p3⟩ := run_xL (bd := bd) hh hW mn N 300 r 0 (cutD nt (nI r) 0 M) r 0 0 (fun _ => 0) v3 ar hS3 hr3 hr2 (Nat.two_pow_pos N) (cu_0 N (by omega)) (by omega) (by omega) (by omega) (by rw [← hv3, pk_un (by omega), pk_us]; rfl) (by rw [← hv3, pk_us]; rfl) (fun k hk => absurd hk (by omega))
  rw [Nat.or_zero] at e1
  exact ⟨v2, ar2, e1, fun j a1 a2 a3 => by rw [p1 j a1 a2 a3]; exact hv3k j a1 a2, p2, p3⟩
theorem run_m (hW : CW N M f kd bk nt) (mn : Int32) {r : Nat} {v : kV} {ar : kR} (hS : MS v ar N M f bd kd bk nt) (hr : v 7 = nI r) (hr2 : r < 2 ^ N) : ∃ v2 ar2, fX7_findPass v ar mn = some (v2, ar2) ∧ PM v ar v2 ar2 (passS nt (wN kd bk) N M f bd mn r) := by
  have hN := hW.1
  have hM := hW.2.1
  have hct : cutD nt (nI r) 0 M ≤ M := cutD_le nt _ M 0
  unfold fX7_findPass
  rw [cuts_m hS hM, kb1_some, pk_un (show (7 : Nat) ≠ 26 by omega), pk_un (show (7 : Nat) ≠ 25 by omega), hr]
  generalize hv3 : upd (upd (upd v 25 (0 : Int32)) 26 (0 : Int32)) 27 (nI r) = v3
  have hv3k : ∀ j, j ≠ 25 → j ≠ 26 → j ≠ 27 → v3 j = v j := fun j a1 a2 a3 => by rw [← hv3, pk_un a3, pk_un a2, pk_un a1]
  have hS3 := MS_keep hv3k (fun _ _ => rfl) hS
  have hbm := best_m hS3 hW hr2 mn 0 (Nat.two_pow_pos N)
  rw [show (0 : Int32) = nI 0 from rfl, hbm, kb1_some]
  obtain ⟨v2, ar2, e1, p1, p2, p3⟩ := run_mL (bd := bd) hW mn N 300 r 0 (cutD nt (nI r) 0 M) r 0 0 (fun _ => 0) v3 ar hS3 hr2 (Nat.two_pow_pos N) (cu_0 N (by omega)) (by omega) (by omega) (by omega) (by rw [← hv3, pk_un (by omega), pk_un (by omega), pk_us]; rfl) (by rw [← hv3, pk_un (by omega), pk_us]; rfl) (by rw [← hv3, pk_us]) (fun k hk => absurd hk (by omega))
  exact ⟨v2, ar2, e1, fun j a1 a2 a3 => by rw [p1 j a1 a2 a3]; exact hv3k j a1 a2 a3, p2, p3⟩
/-- what a pass leaves: the set is one of cells, no more nets are cut, no more moves than cells -/
theorem passD_ok {w : Nat → Nat} {mn : Int32} (hN : N ≤ 7) (hf : f < 2 ^ N) : ∀ (d r lk fw rs st mv : Nat) (mvd : Nat → Int32), r < 2 ^ N → lk < 2 ^ N → rs < 2 ^ N → cutD nt (nI rs) 0 M = fw → mv + d = N → st ≤ mv → (∀ k, k < mv → ∃ j, j < N ∧ mvd k = nI j) → (passD nt w N M f bd mn d r lk fw rs st mv mvd).1 ≤ N ∧ (passD nt w N M f bd mn d r lk fw rs st mv mvd).2.1 ≤ N ∧ (passD nt w N M f bd mn d r lk fw rs st mv mvd).2.2.1 < 2 ^ N ∧ cutD nt (nI (passD nt w N M f bd mn d r lk fw rs st mv mvd).2.2.1) 0 M ≤ fw := by
  intro d
  induction d with
  | zero => intro r lk fw rs st mv mvd h1 h2 h3 h4 h5 h6 h7; exact ⟨by show mv ≤ N; omega, by show st ≤ N; omega, h3, Nat.le_of_eq h4⟩
  | succ d ih =>
    intro r lk fw rs st mv mvd h1 h2 h3 h4 h5 h6 h7
    unfold passD
    cases hb : bestS nt w N M bd mn r (f ||| lk) with
    | none => exact ⟨by show mv ≤ N; omega, by show st ≤ N; omega, h3, Nat.le_of_eq h4⟩
    | some c =>
      obtain ⟨hcN, hcl⟩ := best_in hN hf h2 hb
      have hm : ∀ k, k < mv + 1 → ∃ j, j < N ∧ upd mvd mv (nI c) k = nI j := fun k hk => by
        by_cases hkm : k = mv
        · exact ⟨c, hcN, by rw [hkm, pk_us]⟩
        · rw [pk_un hkm]; exact h7 k (by omega)
      dsimp only
      by_cases hlt : cutD nt (nI (r ^^^ 2 ^ c)) 0 M < fw
      · rw [if_pos hlt]
        have := ih (r ^^^ 2 ^ c) (lk ||| 2 ^ c) _ (r ^^^ 2 ^ c) (mv + 1) (mv + 1) (upd mvd mv (nI c)) (xor_lt h1 hcN) (or_lt h2 hcN) (xor_lt h1 hcN) rfl (by omega) (by omega) hm
        exact ⟨this.1, this.2.1, this.2.2.1, by omega⟩
      · rw [if_neg hlt]
        exact ih (r ^^^ 2 ^ c) (lk ||| 2 ^ c) fw rs st (mv + 1) (upd mvd mv (nI c)) (xor_lt h1 hcN) (or_lt h2 hcN) h3 h4 (by omega) (by omega) hm
theorem passS_ok {w : Nat → Nat} {mn : Int32} (hN : N ≤ 7) (hf : f < 2 ^ N) {r : Nat} (hr : r < 2 ^ N) : (passS nt w N M f bd mn r).1 ≤ N ∧ (passS nt w N M f bd mn r).2.1 ≤ N ∧ (passS nt w N M f bd mn r).2.2.1 < 2 ^ N ∧ cutD nt (nI (passS nt w N M f bd mn r).2.2.1) 0 M ≤ cutD nt (nI r) 0 M :=
  passD_ok hN hf N r 0 _ r 0 0 (fun _ => 0) hr (Nat.two_pow_pos N) hr rfl (by omega) (by omega) (fun k hk => absurd hk (by omega))
end PS
