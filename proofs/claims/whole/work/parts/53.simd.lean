def pcI (a : Nat) : Int32 := (fX7_size (nI a)).getD 0
theorem pc_all : ∀ a, a < 64 → fJ6_bitCount_0f7a4 (nI a) = some (pcI a) ∧ fX7_size (nI a) = some (pcI a) ∧ ¬ pcI a ≤ (-1 : Int32) ∧ ¬ pcI a ≤ (-9 : Int32) := by decide +kernel
theorem nts_64 (nt : Nat → Int32) (c : Int32) : ∀ d k a, a < 64 → k + d ≤ 6 → ∃ b, b < 64 ∧ ntsD nt c k d (nI a) = nI b := by
  intro d
  induction d with
  | zero => intro k a ha _; exact ⟨a, ha, rfl⟩
  | succ d ih =>
    intro k a ha hk
    unfold ntsD
    rw [or_nat a (by omega) k (by omega)]
    have h2 : a ||| 2 ^ k < 2 ^ 6 := Nat.or_lt_two_pow ha (Nat.pow_lt_pow_right (by omega) (by omega))
    split
    · exact ih (k + 1) _ h2 (by omega)
    · exact ih (k + 1) a ha (by omega)
theorem nts_and (nt : Nat → Int32) {M : Nat} (hM : M ≤ 6) (c e : Int32) : ∃ b, b < 64 ∧ ntsD nt c 0 M 0 &&& ntsD nt e 0 M 0 = nI b := by
  obtain ⟨a, ha, h1⟩ := nts_64 nt c M 0 0 (by omega) (by omega)
  obtain ⟨b, hb, h2⟩ := nts_64 nt e M 0 0 (by omega) (by omega)
  rw [show ntsD nt c 0 M 0 = nI a from h1, show ntsD nt e 0 M 0 = nI b from h2, and_nI]
  exact ⟨_, Nat.lt_of_le_of_lt Nat.and_le_left ha, rfl⟩
section CL
variable {N M f : Nat} {v mv : kV} {ar mar : kR} {bd bd2 : Int32} {kd bk nt : Nat → Int32}
theorem close_I (hW : CW N M f kd bk nt) (hX : HS 0 v ar N M f bd kd bk nt) (hY : MS mv mar N M f bd2 kd bk nt) (p1 : Int32) (a : Nat) (R1 R2 : Int32 → Int32 → Int32 → Int32 → Option Int32) (hR : ∀ y2 y3 y4, ∃ q, R1 y2 y3 y4 (nI a + (1 : Int32)) = some q ∧ R2 y2 y3 y4 (nI a + (1 : Int32)) = some q) : ∀ (d n k : Nat) (x2 x3 x4 : Int32), k + d = N → d < n → ∃ q, fX6_closest_54 v ar p1 R1 n x2 x3 x4 (nI a) (nI k) = some q ∧ fX7_closest_49 mv mar p1 R2 n x2 x3 x4 (nI a) (nI k) = some q := by
  have hN := hW.1
  have hM := hW.2.1
  intro d
  induction d with
  | zero =>
    intro n k x2 x3 x4 hk hn
    obtain ⟨n, rfl⟩ : ∃ n', n = n' + 1 := ⟨n - 1, by omega⟩
    show ∃ q, fX6_closest_54b v ar p1 R1 _ _ _ _ _ _ = _ ∧ fX7_closest_49b mv mar p1 R2 _ _ _ _ _ _ = _
    unfold fX6_closest_54b fX7_closest_49b
    rw [hX.1, hY.1, if_pos (nI_le (by omega) (by omega)), if_pos (nI_le (by omega) (by omega))]
    exact hR x2 x3 x4
  | succ d ih =>
    intro n k x2 x3 x4 hk hn
    obtain ⟨n, rfl⟩ : ∃ n', n = n' + 1 := ⟨n - 1, by omega⟩
    obtain ⟨b, hb, e1⟩ := nts_and nt hM (nI a) (nI k)
    obtain ⟨c1, c2, -, -⟩ := pc_all b hb
    show ∃ q, fX6_closest_54b v ar p1 R1 _ _ _ _ _ _ = _ ∧ fX7_closest_49b mv mar p1 R2 _ _ _ _ _ _ = _
    unfold fX6_closest_54b fX7_closest_49b fX6_closest_106 fX7_closest_92
    rw [hX.1, hY.1, if_neg (nI_ge (by omega) (by omega)), if_neg (nI_ge (by omega) (by omega)), nets_x hX hM, kb1_some, nets_x hX hM, kb1_some, nets_m hY hM, kb1_some, nets_m hY hM, kb1_some, e1, c1, c2, kb1_some, kb1_some, nI_1]
    by_cases h1 : pcI b ≤ x2
    · rw [if_pos h1, if_pos h1]; exact ih n (k + 1) _ _ _ (by omega) (by omega)
    · rw [if_neg h1, if_neg h1]; exact ih n (k + 1) _ _ _ (by omega) (by omega)
theorem close_O (hW : CW N M f kd bk nt) (hX : HS 0 v ar N M f bd kd bk nt) (hY : MS mv mar N M f bd2 kd bk nt) (p1 : Int32) : ∀ (d n k : Nat) (x2 x3 x4 : Int32), k + d = N → d < n → ∃ q, fX6_closest_36 v ar p1 n x2 x3 x4 (nI k) = some q ∧ fX7_closest_34 mv mar p1 n x2 x3 x4 (nI k) = some q := by
  have hN := hW.1
  intro d
  induction d with
  | zero =>
    intro n k x2 x3 x4 hk hn
    obtain ⟨n, rfl⟩ : ∃ n', n = n' + 1 := ⟨n - 1, by omega⟩
    show ∃ q, fX6_closest_36b v ar p1 _ _ _ _ _ = _ ∧ fX7_closest_34b mv mar p1 _ _ _ _ _ = _
    unfold fX6_closest_36b fX7_closest_34b
    rw [hX.1, hY.1, if_pos (nI_le (by omega) (by omega)), if_pos (nI_le (by omega) (by omega))]
    exact kex (by repeat' (first | rfl | split))
  | succ d ih =>
    intro n k x2 x3 x4 hk hn
    obtain ⟨n, rfl⟩ : ∃ n', n = n' + 1 := ⟨n - 1, by omega⟩
    show ∃ q, fX6_closest_36b v ar p1 _ _ _ _ _ = _ ∧ fX7_closest_34b mv mar p1 _ _ _ _ _ = _
    unfold fX6_closest_36b fX7_closest_34b
    rw [hX.1, hY.1, if_neg (nI_ge (by omega) (by omega)), if_neg (nI_ge (by omega) (by omega)), nI_1]
    refine close_I hW hX hY p1 k _ _ (fun y2 y3 y4 => ?_) (N - (k + 1)) 300 (k + 1) x2 x3 x4 (by omega) (by omega)
    rw [nI_1]
    exact ih n (k + 1) y2 y3 y4 (by omega) (by omega)
end CL
theorem sim_closest : Sim_closest := by
  intro v ar mv mar hR p1
  obtain ⟨⟨N, M, r, f, bd, bd2, kd, bk, nt, hW, hr, hX, hY, hxr, hmr, hbd⟩, -⟩ := hR
  have hN := hW.1
  have hM := hW.2.1
  unfold fX6_closest fX7_closest
  rw [hX.1, hY.1]
  by_cases h2 : 2 ≤ N
  · rw [if_pos (show (2 : Int32) ≤ nI N from nI_le (a := 2) h2 (by omega)), if_pos (show (2 : Int32) ≤ nI N from nI_le (a := 2) h2 (by omega)), within_w, kb1_some, bIf, rng_if]
    by_cases h1 : wI p1 0 2 = true
    · rw [if_pos h1, if_pos h1]
      obtain ⟨b, hb, e1⟩ := nts_and nt hM (nI 0) (nI 1)
      obtain ⟨c1, c2, c3, c4⟩ := pc_all b hb
      show ∃ q, fX6_closest_36b v ar p1 (fX6_closest_36 v ar p1 299) (-1 : Int32) (0 : Int32) (0 : Int32) (nI 0) = _ ∧ fX7_closest_34b mv mar p1 (fX7_closest_34 mv mar p1 299) (-9 : Int32) (0 : Int32) (0 : Int32) (nI 0) = _
      unfold fX6_closest_36b fX7_closest_34b
      rw [hX.1, hY.1, if_neg (nI_ge (by omega) (by omega)), if_neg (nI_ge (by omega) (by omega)), nI_1]
      show ∃ q, fX6_closest_54b v ar p1 _ (fX6_closest_54 v ar p1 _ 299) _ _ _ _ _ = _ ∧ fX7_closest_49b mv mar p1 _ (fX7_closest_49 mv mar p1 _ 299) _ _ _ _ _ = _
      unfold fX6_closest_54b fX7_closest_49b fX6_closest_106 fX7_closest_92
      rw [hX.1, hY.1, if_neg (nI_ge (by omega) (by omega)), if_neg (nI_ge (by omega) (by omega)), nets_x hX hM, kb1_some, nets_x hX hM, kb1_some, nets_m hY hM, kb1_some, nets_m hY hM, kb1_some, e1, c1, c2, kb1_some, kb1_some, if_neg c3, if_neg c4, nI_1]
      refine close_I hW hX hY p1 0 _ _ (fun y2 y3 y4 => ?_) (N - 2) 299 (0 + 1 + 1) _ _ _ (by omega) (by omega)
      rw [nI_1]
      exact close_O hW hX hY p1 (N - 1) 299 (0 + 1) y2 y3 y4 (by omega) (by omega)
    · rw [if_neg h1, if_neg h1]; exact ⟨_, rfl, rfl⟩
  · rw [if_neg (show ¬ (2 : Int32) ≤ nI N from nI_ge (b := 2) (by omega) (by omega)), if_neg (show ¬ (2 : Int32) ≤ nI N from nI_ge (b := 2) (by omega) (by omega))]
    exact ⟨_, rfl, rfl⟩
-- odds
def cntC (nt : Nat → Int32) (M f g : Nat) (p : Int32) : Nat → Nat → Nat
  | _, 0 => 0
  | k, d + 1 => (if k &&& f = g then (if p < nI (cutD nt (nI k) 0 M) then 0 else 1) else 0) + cntC nt M f g p (k + 1) d
theorem cntC_le {nt : Nat → Int32} {M f g : Nat} {p : Int32} : ∀ d k, cntC nt M f g p k d ≤ cntN f g k d := by
  intro d
  induction d with
  | zero => intro k; exact Nat.le_refl _
  | succ d ih =>
    intro k
    have := ih (k + 1)
    unfold cntC cntN
    split
    · split <;> omega
    · omega
theorem odds90_any (v : kV) (ar : kR) (p1 p2 : Int32) : ∀ n x3 x4 x5, fX6_odds_90 v ar p1 p2 n x3 x4 x5 = fX6_odds_90 (fun _ => 0) (fun _ _ => 0) 0 p2 n x3 x4 x5 := by
  intro n
  induction n with
  | zero => intro x3 x4 x5; rfl
  | succ n ih =>
    intro x3 x4 x5
    show fX6_odds_90b v ar p1 p2 _ _ _ _ = fX6_odds_90b _ _ _ p2 _ _ _ _
    unfold fX6_odds_90b fX6_odds_125
    rw [ih]
theorem terms_eq : ∀ j, j < 8 → ∀ u, u < 2 ^ j + 1 → ∀ p, p < 2 → fX6_odds_90 (fun _ => 0) (fun _ _ => 0) 0 (nI p) 300 (nI u) (nI (2 ^ j)) 0 = fX7_inLeastTerms (nI u).toInt64 (nI (2 ^ j)).toInt64 (nI p) ∧ (fX7_inLeastTerms (nI u).toInt64 (nI (2 ^ j)).toInt64 (nI p)).isSome = true := by decide +kernel
section OD
variable {N M f r : Nat} {v mv : kV} {ar mar : kR} {bd bd2 : Int32} {kd bk nt : Nat → Int32}
theorem keep_N (hr : r < 128) (hf : f < 128) {k : Nat} (hk : k < 128) : (nI k &&& nI f) = (nI r &&& nI f) ↔ k &&& f = r &&& f := by
  rw [and_nI, and_nI, nI_eq (Nat.lt_of_le_of_lt Nat.and_le_left (by omega)) (Nat.lt_of_le_of_lt Nat.and_le_left (by omega))]
theorem odds_xL (hW : CW N M f kd bk nt) (hr : r < 2 ^ N) (hX : HS 0 v ar N M f bd kd bk nt) (hxr : v (2+5*0+2) = nI r) (p1 p2 : Int32) : ∀ (d n k u l : Nat), k + d = 2 ^ N → d < n → fX6_odds_38 v ar p1 p2 n (nI u) (nI l) (nI k) = fX6_odds_90 v ar p1 p2 300 (nI (u + cntC nt M f (r &&& f) p1 k d)) (nI (l + cntN f (r &&& f) k d)) 0 := by
  have hN := hW.1
  have hM := hW.2.1
  have h7 := p2_7 hN
  have hf := hW.2.2.1
  intro d
  induction d with
  | zero =>
    intro n k u l hk hn
    obtain ⟨n, rfl⟩ : ∃ n', n = n' + 1 := ⟨n - 1, by omega⟩
    show fX6_odds_38b v ar p1 p2 _ _ _ _ = _
    unfold fX6_odds_38b
    rw [all_x hX, kb1_some, show k = 2 ^ N by omega, if_pos (all_out hN)]
    rfl
  | succ d ih =>
    intro n k u l hk hn
    obtain ⟨n, rfl⟩ : ∃ n', n = n' + 1 := ⟨n - 1, by omega⟩
    show fX6_odds_38b v ar p1 p2 _ _ _ _ = _
    have ek : fX0_keepsFixed 0 v ar (nI k) = some (decide (k &&& f = r &&& f)) := by
      unfold fX0_keepsFixed
      rw [hX.2.2.1, hxr]
      by_cases h1 : k &&& f = r &&& f
      · rw [if_pos ((keep_N (by omega) (by omega) (by omega)).mpr h1), decide_eq_true h1]
      · rw [if_neg (fun z => h1 ((keep_N (by omega) (by omega) (by omega)).mp z)), decide_eq_false h1]
    unfold fX6_odds_38b fX6_odds_81 cntC cntN
    rw [all_x hX, kb1_some, if_neg (all_end hN (by omega)), ek, kb1_some, bIf, cuts_x hX hM, kb1_some, nI_1, nI_1, nI_1]
    by_cases h1 : k &&& f = r &&& f
    · rw [if_pos (decide_eq_true h1), if_pos h1, if_pos h1]
      by_cases h2 : p1 < nI (cutD nt (nI k) 0 M)
      · rw [if_pos h2, if_pos h2, ih n (k + 1) u (l + 1) (by omega) (by omega), Nat.zero_add, Nat.add_assoc]
      · rw [if_neg h2, if_neg h2, ih n (k + 1) (u + 1) (l + 1) (by omega) (by omega), Nat.add_assoc, Nat.add_assoc]
    · rw [if_neg (by simpa using h1), if_neg h1, if_neg h1, ih n (k + 1) u l (by omega) (by omega), Nat.zero_add, Nat.zero_add]
theorem odds_mL (hW : CW N M f kd bk nt) (hr : r < 2 ^ N) (hY : MS mv mar N M f bd2 kd bk nt) (hmr : mv 7 = nI r) (p1 p2 : Int32) : ∀ (d n k u l : Nat), k + d = 2 ^ N → d < n → fX7_odds_38 mv mar p1 p2 n (nI u) (nI l) (nI k) = kb1 (fX7_inLeastTerms (nI (u + cntC nt M f (r &&& f) p1 k d)).toInt64 (nI (l + cntN f (r &&& f) k d)).toInt64 p2) fun q => some q := by
  have hN := hW.1
  have hM := hW.2.1
  have h7 := p2_7 hN
  have hf := hW.2.2.1
  intro d
  induction d with
  | zero =>
    intro n k u l hk hn
    obtain ⟨n, rfl⟩ : ∃ n', n = n' + 1 := ⟨n - 1, by omega⟩
    show fX7_odds_38b mv mar p1 p2 _ _ _ _ = _
    unfold fX7_odds_38b
    rw [all_m hY, kb1_some, show k = 2 ^ N by omega, if_pos (all_out hN)]
    rfl
  | succ d ih =>
    intro n k u l hk hn
    obtain ⟨n, rfl⟩ : ∃ n', n = n' + 1 := ⟨n - 1, by omega⟩
    show fX7_odds_38b mv mar p1 p2 _ _ _ _ = _
    unfold fX7_odds_38b fX7_odds_85 fX7_odds_87 cntC cntN
    rw [all_m hY, kb1_some, if_neg (all_end hN (by omega)), hY.2.2.1, hmr, cuts_m hY hM, kb1_some, nI_1, nI_1, nI_1, show nI u + (0 : Int32) = nI (u + 0) from nI_add u 0]
    by_cases h1 : k &&& f = r &&& f
    · rw [if_pos ((keep_N (by omega) (by omega) (by omega)).mpr h1), if_pos h1, if_pos h1]
      by_cases h2 : p1 < nI (cutD nt (nI k) 0 M)
      · rw [if_pos h2, if_pos h2, ih n (k + 1) (u + 0) (l + 1) (by omega) (by omega), Nat.zero_add, Nat.add_zero, Nat.add_assoc]
      · rw [if_neg h2, if_neg h2, ih n (k + 1) (u + 1) (l + 1) (by omega) (by omega), Nat.add_assoc, Nat.add_assoc]
    · rw [if_neg (fun z => h1 ((keep_N (by omega) (by omega) (by omega)).mp z)), if_neg h1, if_neg h1, ih n (k + 1) u l (by omega) (by omega), Nat.zero_add, Nat.zero_add]
end OD
theorem sim_odds : Sim_odds := by
  intro v ar mv mar hR p1 p2
  obtain ⟨⟨N, M, r, f, bd, bd2, kd, bk, nt, hW, hr, hX, hY, hxr, hmr, hbd⟩, -⟩ := hR
  have hN := hW.1
  have h7 := p2_7 hN
  have hf := hW.2.2.1
  unfold fX6_odds fX7_odds fX6_odds_26 fX7_odds_26
  rw [noc_x hX hN, kb1_some, bIf, noc_m hY hN]
  by_cases h0 : N = 0
  · rw [if_pos h0, if_pos (decide_eq_true h0)]; exact ⟨_, rfl, rfl⟩
  · rw [if_neg h0, if_neg (by simpa using h0), within_w, kb1_some, bIf, within_w, kb1_some, bIf, rng_if]
    by_cases h1 : wI p1 0 6 = true
    · rw [if_pos h1]
      unfold wI at h1
      split at h1
      · cases h1
      · rename_i a1
        split at h1
        · cases h1
        · rename_i a2
          rw [if_neg a1, if_neg a2]
          by_cases h2 : wI p2 0 1 = true
          · rw [if_pos h2, if_pos h2]
            obtain ⟨q, -, hq, rfl⟩ := wI_of (lo := 0) (hi := 1) (by omega) (by omega) h2
            have ex := odds_xL hW hr hX hxr p1 (nI q) (2 ^ N) 300 0 0 0 (by omega) (by omega)
            have em := odds_mL hW hr hY hmr p1 (nI q) (2 ^ N) 300 0 0 0 (by omega) (by omega)
            rw [Nat.zero_add, Nat.zero_add] at ex em
            obtain ⟨j, hj, ej⟩ := cnt_pow N (by omega) f (by omega) hf (r &&& f) (Nat.lt_of_le_of_lt Nat.and_le_left (by omega)) (by rw [Nat.and_assoc, Nat.and_self])
            have hu := cntC_le (nt := nt) (M := M) (f := f) (g := r &&& f) (p := p1) (2 ^ N) 0
            rw [ej] at ex em hu
            have ht := terms_eq j hj _ (Nat.lt_succ_of_le hu) q (by omega)
            rw [odds90_any, ht.1] at ex
            have ex : fX6_odds_38 v ar p1 (nI q) 300 0 0 0 = _ := ex
            have em : fX7_odds_38 mv mar p1 (nI q) 300 0 0 0 = _ := em
            rw [ex, em]
            obtain ⟨z, hz⟩ := Option.isSome_iff_exists.mp ht.2
            rw [hz]
            exact ⟨z, rfl, rfl⟩
          · rw [if_neg h2, if_neg h2]; exact ⟨_, rfl, rfl⟩
    · rw [if_neg h1]
      unfold wI at h1
      by_cases a1 : p1 < 0
      · rw [if_pos a1]; exact ⟨_, rfl, rfl⟩
      · rw [if_neg a1] at h1 ⊢
        by_cases a2 : (6 : Int32) < p1
        · rw [if_pos a2]; exact ⟨_, rfl, rfl⟩
        · rw [if_neg a2] at h1; exact absurd rfl h1
