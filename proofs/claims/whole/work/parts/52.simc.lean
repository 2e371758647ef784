theorem and_nI (a b : Nat) : nI a &&& nI b = nI (a &&& b) := by
  apply Int32.toBitVec_inj.mp
  show (Int32.ofNat a).toBitVec &&& (Int32.ofNat b).toBitVec = (Int32.ofNat (a &&& b)).toBitVec
  simp only [Int32.toBitVec_ofNat']
  exact BitVec.eq_of_toNat_eq (by simp [BitVec.toNat_and, BitVec.toNat_ofNat, Nat.and_mod_two_pow])
theorem oN_99 : ∀ j, j < 128 → ¬ nI j = (-9 : Int32) := by decide +kernel
section AP
variable {N M f r : Nat} {v mv : kV} {ar mar : kR} {bd : Int32} {kd bk nt : Nat → Int32}
theorem all_end (hN : N ≤ 7) {k : Nat} (h : k < 2 ^ N) : ¬ allI N < nI k := by
  have h7 := p2_7 hN
  rw [all_nI N (by omega)]
  exact nI_nlt (by omega) (by omega)
theorem all_out (hN : N ≤ 7) : allI N < nI (2 ^ N) := by
  have h7 := p2_7 hN
  rw [all_nI N (by omega)]
  exact nI_lt (by have := Nat.two_pow_pos N; omega) (by omega)
theorem apart_L (hW : CW N M f kd bk nt) {bd2 : Int32} (hX : HS 0 v ar N M f bd kd bk nt) (hY : MS mv mar N M f bd2 kd bk nt) {a b : Nat} (ha : a < N) (hb : b < N) : ∀ (d n k : Nat) (x3 : Int32), k + d = 2 ^ N → d < n → ∃ q, fX6_apart_29 v ar (nI a) (nI b) n x3 (nI k) = some q ∧ fX7_apart_29 mv mar (nI a) (nI b) n x3 (nI k) = some q := by
  have hN := hW.1
  have hM := hW.2.1
  have h7 := p2_7 hN
  intro d
  induction d with
  | zero =>
    intro n k x3 hk hn
    obtain ⟨n, rfl⟩ : ∃ n', n = n' + 1 := ⟨n - 1, by omega⟩
    show ∃ q, fX6_apart_29b v ar _ _ _ _ _ = _ ∧ fX7_apart_29b mv mar _ _ _ _ _ = _
    unfold fX6_apart_29b fX7_apart_29b
    rw [all_x hX, kb1_some, all_m hY, kb1_some, show k = 2 ^ N by omega, if_pos (all_out hN), if_pos (all_out hN)]
    exact ⟨_, rfl, rfl⟩
  | succ d ih =>
    intro n k x3 hk hn
    obtain ⟨n, rfl⟩ : ∃ n', n = n' + 1 := ⟨n - 1, by omega⟩
    show ∃ q, fX6_apart_29b v ar _ _ _ _ _ = _ ∧ fX7_apart_29b mv mar _ _ _ _ _ = _
    unfold fX6_apart_29b fX7_apart_29b fX7_apart_60 fX7_apart_61 fX7_apart_87 fX7_apart_88 fX6_apart_74
    rw [all_x hX, kb1_some, all_m hY, kb1_some, if_neg (all_end hN (by omega)), if_neg (all_end hN (by omega)), bit_01 k (by omega) a (by omega), bIf, isOf_m, kb1_some, bIf, isOf_m, kb1_some, bIf, bt_if, cuts_x hX hM, kb1_some, cuts_m hY hM, kb1_some, kb1_some, if_pos rfl, if_neg (show ¬ (1 : Int32) = 0 by decide), nI_1]
    by_cases h1 : btI (nI k) (nI a) = true
    · rw [if_pos h1, if_pos h1]; exact ih n (k + 1) x3 (by omega) (by omega)
    · rw [if_neg h1, if_neg h1]
      by_cases h2 : btI (nI k) (nI b) = true
      · rw [if_pos h2, if_pos h2]
        by_cases h3 : x3 ≤ nI (cutD nt (nI k) 0 M)
        · rw [if_pos h3, if_neg (le_nlt h3)]; exact ih n (k + 1) x3 (by omega) (by omega)
        · rw [if_neg h3, if_pos (nle_lt h3)]; exact ih n (k + 1) _ (by omega) (by omega)
      · rw [if_neg h2, if_neg h2]; exact ih n (k + 1) x3 (by omega) (by omega)
/-- the least cut, as both come to it -/
def lstD (nt : Nat → Int32) (w : Nat → Nat) (N M f r : Nat) (bd : Int32) : Nat → Nat → Option Nat → Option Nat
  | _, 0, b => b
  | k, d + 1, b => lstD nt w N M f r bd (k + 1) d (if (nI k &&& nI f) = (nI r &&& nI f) then (if inW w N bd (nI k) = true then (if inW w N bd (allI N &&& (nI k ^^^ (-1 : Int32))) = true then (match b with | none => some k | some j => if cutD nt (nI j) 0 M ≤ cutD nt (nI k) 0 M then some j else some k) else b) else b) else b)
def lstA (nt : Nat → Int32) (M : Nat) (p1 : Int32) (b : Option Nat) : Int32 := match b with | none => (-9 : Int32) | some j => if p1 = 0 then nI (cutD nt (nI j) 0 M) else nI j
theorem lst_lt {w : Nat → Nat} : ∀ d k b, (∀ j, b = some j → j < k) → ∀ j, lstD nt w N M f r bd k d b = some j → j < k + d := by
  intro d
  induction d with
  | zero => intro k b hb j hj; exact hb j hj
  | succ d ih =>
    intro k b hb j hj
    have h1 := ih (k + 1) _ (fun i hi => ?_) j hj
    · omega
    · split at hi
      · split at hi
        · split at hi
          · split at hi
            · cases hi; omega
            · split at hi
              · have := hb i hi; omega
              · cases hi; omega
          · have := hb i hi; omega
        · have := hb i hi; omega
      · have := hb i hi; omega
theorem least_xL (hW : CW N M f kd bk nt) (hX : HS 0 v ar N M f bd kd bk nt) (hxr : v (2+5*0+2) = nI r) : ∀ (d n k : Nat) (b : Option Nat), (∀ j, b = some j → j < k) → k + d = 2 ^ N → d < n → fX0_leastCut_8 0 v ar n (oN b) (match b with | none => (7 : Int32) | some j => nI (cutD nt (nI j) 0 M)) (nI k) = some (oN (lstD nt (wN kd bk) N M f r bd k d b)) := by
  have hN := hW.1
  have hM := hW.2.1
  have h7 := p2_7 hN
  intro d
  induction d with
  | zero =>
    intro n k b hb hk hn
    obtain ⟨n, rfl⟩ : ∃ n', n = n' + 1 := ⟨n - 1, by omega⟩
    show fX0_leastCut_8b 0 v ar _ _ _ _ = _
    unfold fX0_leastCut_8b
    rw [all_x hX, kb1_some, show k = 2 ^ N by omega, if_pos (all_out hN)]
    rfl
  | succ d ih =>
    intro n k b hb hk hn
    obtain ⟨n, rfl⟩ : ∃ n', n = n' + 1 := ⟨n - 1, by omega⟩
    have hc : cutD nt (nI k) 0 M ≤ M := cutD_le nt _ M 0
    have g0 := ih n (k + 1) b (fun j hj => by have := hb j hj; omega) (by omega) (by omega)
    have g1 := ih n (k + 1) (some k) (fun j hj => by cases hj; omega) (by omega) (by omega)
    show fX0_leastCut_8b 0 v ar _ _ _ _ = some (oN (lstD nt (wN kd bk) N M f r bd (k + 1) d _))
    unfold fX0_leastCut_8b fX0_leastCut_64
    have ek : fX0_keepsFixed 0 v ar (nI k) = some (decide ((nI k &&& nI f) = (nI r &&& nI f))) := by
      unfold fX0_keepsFixed
      rw [hX.2.2.1, hxr]
      exact bif_
    rw [all_x hX, kb1_some, if_neg (all_end hN (by omega)), ek, kb1_some, bIf, cuts_x hX hM, kb1_some, within_x hX hW, kb1_some, bIf, kb1_some, within_x hX hW, kb1_some, bIf, kb1_some, nI_1]
    by_cases h1 : (nI k &&& nI f) = (nI r &&& nI f)
    · rw [if_pos (decide_eq_true h1), if_pos h1]
      by_cases h2 : inW (wN kd bk) N bd (nI k) = true
      · rw [if_pos h2, if_pos h2]
        by_cases h3 : inW (wN kd bk) N bd (allI N &&& (nI k ^^^ (-1 : Int32))) = true
        · rw [if_pos h3, if_pos h3]
          cases b with
          | none =>
            dsimp only
            rw [if_neg (show ¬ (7 : Int32) ≤ nI (cutD nt (nI k) 0 M) from nI_ge (b := 7) (by omega) (by omega))]
            exact g1
          | some j =>
            dsimp only
            by_cases h4 : cutD nt (nI j) 0 M ≤ cutD nt (nI k) 0 M
            · rw [if_pos (nI_le h4 (by omega)), if_pos h4]; exact g0
            · have hcj : cutD nt (nI j) 0 M ≤ M := cutD_le nt _ M 0
              rw [if_neg (nI_ge (by omega) (by omega)), if_neg h4]; exact g1
        · rw [if_neg h3, if_neg h3, ite_self]; exact g0
      · rw [if_neg h2, if_neg h2, ite_self]; exact g0
    · rw [if_neg (by simpa using h1), if_neg h1]; exact g0
theorem least_mL (hW : CW N M f kd bk nt) (hY : MS mv mar N M f bd kd bk nt) (hmr : mv 7 = nI r) (p1 : Int32) : ∀ (d n k : Nat) (b : Option Nat), (∀ j, b = some j → j < k) → k + d = 2 ^ N → d < n → fX7_least_27 mv mar p1 n (oN b) (nI k) = some (lstA nt M p1 (lstD nt (wN kd bk) N M f r bd k d b)) := by
  have hN := hW.1
  have hM := hW.2.1
  have h7 := p2_7 hN
  intro d
  induction d with
  | zero =>
    intro n k b hb hk hn
    obtain ⟨n, rfl⟩ : ∃ n', n = n' + 1 := ⟨n - 1, by omega⟩
    show fX7_least_27b mv mar p1 _ _ _ = some (lstA nt M p1 b)
    unfold fX7_least_27b
    rw [all_m hY, kb1_some, show k = 2 ^ N by omega, if_pos (all_out hN), cuts_m hY hM, kb1_some]
    cases b with
    | none => rfl
    | some j =>
      have := hb j rfl
      rw [show oN (some j) = nI j from rfl, if_neg (oN_99 j (by omega))]
      unfold lstA
      dsimp only
      split <;> rfl
  | succ d ih =>
    intro n k b hb hk hn
    obtain ⟨n, rfl⟩ : ∃ n', n = n' + 1 := ⟨n - 1, by omega⟩
    have hc : cutD nt (nI k) 0 M ≤ M := cutD_le nt _ M 0
    have g0 := ih n (k + 1) b (fun j hj => by have := hb j hj; omega) (by omega) (by omega)
    have g1 := ih n (k + 1) (some k) (fun j hj => by cases hj; omega) (by omega) (by omega)
    show fX7_least_27b mv mar p1 _ _ _ = some (lstA nt M p1 (lstD nt (wN kd bk) N M f r bd (k + 1) d _))
    unfold fX7_least_27b fX7_least_75 fX7_least_76 fX7_least_106 fX7_least_102 fX7_least_107
    rw [all_m hY, kb1_some, if_neg (all_end hN (by omega)), hY.2.2.1, hmr, within_m hY hW, kb1_some, bIf, within_m hY hW, kb1_some, bIf, if_pos rfl, if_neg (show ¬ (0 : Int32) = 1 by decide), if_pos rfl, if_neg (show ¬ (1 : Int32) = 0 by decide), cuts_m hY hM, kb1_some, cuts_m hY hM, kb1_some, nI_1]
    by_cases h1 : (nI k &&& nI f) = (nI r &&& nI f)
    · rw [if_pos h1, if_pos h1]
      by_cases h3 : inW (wN kd bk) N bd (allI N &&& (nI k ^^^ (-1 : Int32))) = true
      · rw [if_pos h3, if_pos h3]
        by_cases h2 : inW (wN kd bk) N bd (nI k) = true
        · rw [if_pos h2, if_pos h2]
          cases b with
          | none =>
            rw [show oN none = (-9 : Int32) from rfl, if_pos rfl]
            exact g1
          | some j =>
            have hj := hb j rfl
            have hcj : cutD nt (nI j) 0 M ≤ M := cutD_le nt _ M 0
            rw [show oN (some j) = nI j from rfl, if_neg (oN_99 j (by omega))]
            dsimp only
            by_cases h4 : cutD nt (nI j) 0 M ≤ cutD nt (nI k) 0 M
            · rw [if_pos (nI_le h4 (by omega)), if_pos h4]; exact g0
            · rw [if_neg (nI_ge (by omega) (by omega)), if_neg h4]; exact g1
        · rw [if_neg h2, if_neg h2]; exact g0
      · rw [if_neg h3, if_neg h3, ite_self]; exact g0
    · rw [if_neg h1, if_neg h1]; exact g0
end AP
theorem sim_apart : Sim_apart := by
  intro v ar mv mar hR p1 p2
  obtain ⟨⟨N, M, r, f, bd, bd2, kd, bk, nt, hW, hr, hX, hY, hxr, hmr, hbd⟩, -⟩ := hR
  have hN := hW.1
  have h7 := p2_7 hN
  unfold fX6_apart fX7_apart
  rw [isCell_x hX, kb1_some, bIf, isCell_x hX, kb1_some, bIf, isCell_m hY, kb1_some, bIf, isCell_m hY, kb1_some, bIf]
  rcases icl_or hN p1 with h | ⟨h, a, ha, rfl⟩
  · rw [h]; exact ⟨_, rfl, rfl⟩
  · rw [h, if_pos rfl, if_pos rfl]
    rcases icl_or hN p2 with h | ⟨h, b, hb, rfl⟩
    · rw [h]; exact ⟨_, rfl, rfl⟩
    · rw [h, if_pos rfl, if_pos rfl]
      by_cases he : nI a = nI b
      · rw [if_pos he, if_pos he]; exact ⟨_, rfl, rfl⟩
      · rw [if_neg he, if_neg he]
        exact apart_L hW hX hY ha hb (2 ^ N) 300 0 6 (by omega) (by omega)
theorem sim_least : Sim_least := by
  intro v ar mv mar hR p1
  obtain ⟨⟨N, M, r, f, bd, bd2, kd, bk, nt, hW, hr, hX, hY, hxr, hmr, hbd⟩, -⟩ := hR
  have hN := hW.1
  have hM := hW.2.1
  have h7 := p2_7 hN
  unfold fX6_least fX7_least
  rw [noc_x hX hN, kb1_some, bIf, noc_m hY hN]
  by_cases h0 : N = 0
  · rw [if_pos h0, if_pos (decide_eq_true h0)]; exact ⟨_, rfl, rfl⟩
  · rw [if_neg h0, if_neg (by simpa using h0), within_w, kb1_some, bIf, rng_if]
    have hb := hbd (by omega)
    subst hb
    by_cases h1 : wI p1 0 1 = true
    · rw [if_pos h1, if_pos h1]
      have ex : fX0_leastCut 0 v ar = some (oN (lstD nt (wN kd bk) N M f r bd 0 (2 ^ N) none)) := least_xL hW hX hxr (2 ^ N) 300 0 none (fun j hj => by cases hj) (by omega) (by omega)
      have em := least_mL hW hY hmr p1 (2 ^ N) 300 0 none (fun j hj => by cases hj) (by omega) (by omega)
      have em : fX7_least_27 mv mar p1 300 (-9) 0 = _ := em
      rw [ex, kb1_some, em, cuts_x hX hM, kb1_some]
      have hl := lst_lt (N := N) (M := M) (f := f) (r := r) (bd := bd) (nt := nt) (w := wN kd bk) (2 ^ N) 0 none (fun j hj => by cases hj)
      cases hq : lstD nt (wN kd bk) N M f r bd 0 (2 ^ N) none with
      | none => exact ⟨_, rfl, rfl⟩
      | some j =>
        have := hl j hq
        rw [show oN (some j) = nI j from rfl, if_neg (oN_99 j (by omega))]
        obtain ⟨i, -, hi, rfl⟩ := wI_of (lo := 0) (hi := 1) (by omega) (by omega) h1
        rcases (show i = 0 ∨ i = 1 by omega) with rfl | rfl
        · exact ⟨_, rfl, rfl⟩
        · exact ⟨_, rfl, rfl⟩
    · rw [if_neg h1, if_neg h1]; exact ⟨_, rfl, rfl⟩
