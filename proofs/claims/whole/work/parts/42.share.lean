-- shares, gains, the best cell
def allI (N : Nat) : Int32 := ((1 : Int32) <<< (nI N &&& 31)) - (1 : Int32)
theorem all_bt : ∀ N, N < 8 → ∀ c, c < N → btI (allI N) (nI c) = true := by decide +kernel
theorem all_nI : ∀ N, N < 8 → allI N = nI (2 ^ N - 1) := by decide +kernel
theorem wgt_le {w : Nat → Nat} {s t : Int32} : ∀ d k, (∀ c, k ≤ c → c < k + d → btI t (nI c) = true) → wgtD w s k d ≤ wgtD w t k d := by
  intro d
  induction d with
  | zero => intro k _; exact Nat.le_refl _
  | succ d ih =>
    intro k hc
    unfold wgtD
    have h1 := ih (k + 1) (fun c h1 h2 => hc c (by omega) (by omega))
    rw [if_pos (hc k (Nat.le_refl k) (by omega))]
    split <;> omega
theorem wgt_bd {w : Nat → Nat} {s : Int32} : ∀ d k, (∀ c, k ≤ c → c < k + d → w c ≤ 18) → wgtD w s k d ≤ 18 * d := by
  intro d
  induction d with
  | zero => intro k _; exact Nat.le_refl _
  | succ d ih =>
    intro k hc
    unfold wgtD
    have h1 := ih (k + 1) (fun c h1 h2 => hc c (by omega) (by omega))
    have h2 := hc k (Nat.le_refl k) (by omega)
    split <;> omega
def shr (w : Nat → Nat) (N : Nat) (s : Int32) : Int32 := flo (wgtD w s 0 N) (wgtD w (allI N) 0 N)
theorem flo_ok {N M f : Nat} {kd bk nt : Nat → Int32} (hW : CW N M f kd bk nt) (s : Int32) : fX6_floatBits (nI (wgtD (wN kd bk) s 0 N)) (nI (wgtD (wN kd bk) (allI N) 0 N)) = some (shr (wN kd bk) N s) ∧ fX7_floatOf (nI (wgtD (wN kd bk) s 0 N)) (nI (wgtD (wN kd bk) (allI N) 0 N)) = some (shr (wN kd bk) N s) := by
  have hN := hW.1
  have h1 := wgt_bd (w := wN kd bk) (s := allI N) N 0 (fun c _ h => (wt_N hW (by omega)).2.2)
  have h2 := wgt_le (w := wN kd bk) (s := s) (t := allI N) N 0 (fun c _ h => all_bt N (by omega) c (by omega))
  exact flo_all _ (by omega) _ (by omega)
def inW (w : Nat → Nat) (N : Nat) (bd s : Int32) : Bool := !decide (bd < shr w N s)
def gnI (nt : Nat → Int32) (M : Nat) (r c : Int32) : Int32 := nI (cutD nt r 0 M) - nI (cutD nt (r ^^^ ((1 : Int32) <<< (c &&& 31))) 0 M)
section SH
variable {h N M f : Nat} {v : kV} {ar : kR} {bd : Int32} {kd bk nt : Nat → Int32}
theorem all_x (hS : HS h v ar N M f bd kd bk nt) : fX0_all h v ar = some (allI N) := by
  unfold fX0_all allI
  rw [hS.1]
theorem all_m (hS : MS v ar N M f bd kd bk nt) : fX7_all v ar = some (allI N) := by
  unfold fX7_all allI
  rw [hS.1]
theorem share_x (hS : HS h v ar N M f bd kd bk nt) (hW : CW N M f kd bk nt) (s : Int32) : fX0_shareOf h v ar s = some (shr (wN kd bk) N s) := by
  unfold fX0_shareOf
  rw [wgt_x hS hW, kb1_some, all_x hS, kb1_some, wgt_x hS hW, kb1_some, (flo_ok hW s).1, kb1_some]
theorem share_m18 (hS : MS v ar N M f bd kd bk nt) (hW : CW N M f kd bk nt) (p1 p2 s : Int32) : fX7_shareOf_18 v ar p1 p2 s = some (shr (wN kd bk) N s) := by
  unfold fX7_shareOf_18
  rw [wgt_m hS hW, kb1_some, all_m hS, kb1_some, wgt_m hS hW, kb1_some, (flo_ok hW s).2, kb1_some]
theorem share_m (hS : MS v ar N M f bd kd bk nt) (hW : CW N M f kd bk nt) (sd s : Int32) : fX7_shareOf v ar sd s = some (shr (wN kd bk) N (if sd = (1 : Int32) then s else allI N &&& (s ^^^ (-1 : Int32)))) := by
  unfold fX7_shareOf
  rw [all_m hS, kb1_some, share_m18 hS hW, share_m18 hS hW]
  split <;> rfl
theorem within_x (hS : HS h v ar N M f bd kd bk nt) (hW : CW N M f kd bk nt) (s : Int32) : fX0_isWithin h v ar s = some (inW (wN kd bk) N bd s) := by
  unfold fX0_isWithin inW
  rw [share_x hS hW, kb1_some, hS.2.2.2.1]
  exact bif_n
theorem within_m (hS : MS v ar N M f bd kd bk nt) (hW : CW N M f kd bk nt) (sd s : Int32) : fX7_isWithin v ar sd s = some (inW (wN kd bk) N bd (if sd = (1 : Int32) then s else allI N &&& (s ^^^ (-1 : Int32)))) := by
  unfold fX7_isWithin inW
  rw [share_m hS hW, kb1_some, hS.2.2.2.1]
  exact bif_n
theorem gain_x (hS : HS h v ar N M f bd kd bk nt) (hM : M ≤ 6) (c : Int32) : fX0_gain h v ar c = some (gnI nt M (v (2+5*h+2)) c) := by
  unfold fX0_gain gnI
  rw [cuts_x hS hM, kb1_some, cuts_x hS hM, kb1_some]
theorem gain_m (hS : MS v ar N M f bd kd bk nt) (hM : M ≤ 6) (c r : Int32) : fX7_gainOf v ar c r = some (gnI nt M r c) := by
  unfold fX7_gainOf gnI
  rw [cuts_m hS hM, kb1_some, cuts_m hS hM, kb1_some]
theorem cutsN_x (hS : HS h v ar N M f bd kd bk nt) (hM : M ≤ 6) : fX0_cuts h v ar = some (nI (cutD nt (v (2+5*h+2)) 0 M)) := by
  unfold fX0_cuts
  rw [cuts_x hS hM, kb1_some]
theorem left_x (hS : HS h v ar N M f bd kd bk nt) : fX0_left h v ar = some (allI N &&& (v (2+5*h+2) ^^^ (-1 : Int32))) := by
  unfold fX0_left
  rw [all_x hS, kb1_some]
end SH
-- where a cell goes to
def goX (N r c : Nat) : Int32 := (if ((nI r >>> (nI c &&& 31)) &&& (1 : Int32)) = 0 then nI r else allI N &&& (nI r ^^^ (-1 : Int32))) ||| ((1 : Int32) <<< (nI c &&& 31))
theorem go_eq : ∀ N, N < 8 → ∀ r, r < 128 → ∀ c, c < 7 → r < 2 ^ N → c < N → goX N r c = if (((nI r ^^^ ((1 : Int32) <<< (nI c &&& 31))) >>> (nI c &&& 31)) &&& (1 : Int32)) = (1 : Int32) then nI r ^^^ ((1 : Int32) <<< (nI c &&& 31)) else allI N &&& ((nI r ^^^ ((1 : Int32) <<< (nI c &&& 31))) ^^^ (-1 : Int32)) := by decide +kernel
theorem bt_nat : ∀ n, n < 128 → ∀ c, c < 7 → btI (nI n) (nI c) = n.testBit c := by decide +kernel
theorem xor_nat : ∀ r, r < 128 → ∀ c, c < 7 → nI r ^^^ ((1 : Int32) <<< (nI c &&& 31)) = nI (r ^^^ 2 ^ c) := by decide +kernel
theorem or_nat : ∀ r, r < 128 → ∀ c, c < 7 → nI r ||| ((1 : Int32) <<< (nI c &&& 31)) = nI (r ||| 2 ^ c) := by decide +kernel
theorem p2_lt {c N : Nat} (h : c < N) : 2 ^ c < 2 ^ N := Nat.pow_lt_pow_right (by omega) h
theorem p2_7 {N : Nat} (h : N ≤ 7) : 2 ^ N ≤ 128 := Nat.pow_le_pow_right (n := 2) (by omega) h
theorem xor_lt {r c N : Nat} (hr : r < 2 ^ N) (hc : c < N) : r ^^^ 2 ^ c < 2 ^ N := Nat.xor_lt_two_pow hr (p2_lt hc)
theorem or_lt {r c N : Nat} (hr : r < 2 ^ N) (hc : c < N) : r ||| 2 ^ c < 2 ^ N := Nat.or_lt_two_pow hr (p2_lt hc)
section WA
variable {h N M f r : Nat} {v : kV} {ar : kR} {bd : Int32} {kd bk nt : Nat → Int32}
theorem after_x (hS : HS h v ar N M f bd kd bk nt) (hW : CW N M f kd bk nt) (hr : v (2+5*h+2) = nI r) (c : Nat) : fX0_isWithinAfterMove h v ar (nI c) = some (inW (wN kd bk) N bd (goX N r c)) := by
  unfold fX0_isWithinAfterMove fX0_isWithinAfterMove_19 fX0_sideOf inW goX
  rw [kb1_some, left_x hS, kb1_some, hr, share_x hS hW, share_x hS hW, kb1_some, kb1_some, hS.2.2.2.1]
  split <;> exact bif_n
theorem after_m (hS : MS v ar N M f bd kd bk nt) (hW : CW N M f kd bk nt) (hr : r < 2 ^ N) {c : Nat} (hc : c < N) : fX7_isWithin v ar (((nI r ^^^ ((1 : Int32) <<< (nI c &&& 31))) >>> (nI c &&& 31)) &&& (1 : Int32)) (nI r ^^^ ((1 : Int32) <<< (nI c &&& 31))) = some (inW (wN kd bk) N bd (goX N r c)) := by
  have hN := hW.1
  rw [within_m hS hW, go_eq N (by omega) r (Nat.lt_of_lt_of_le hr (p2_7 hN)) c (by omega) hr hc]
end WA
-- the best cell
def betS (mn g1 w1 g2 w2 : Int32) : Bool := if mn = (2 : Int32) then !decide (g1 * w2 ≤ g2 * w1) else if g1 = g2 then (if mn = (1 : Int32) then !decide (w1 ≤ w2) else false) else !decide (g1 ≤ g2)
theorem better_x (mn g1 w1 g2 w2 : Int32) : fX1_isBetter mn g1 w1 g2 w2 = some (betS mn g1 w1 g2 w2) := by
  unfold fX1_isBetter betS
  rw [bif_n, bif_n, bif_n]
  split
  · rfl
  · split
    · split <;> rfl
    · rfl
def oN (b : Option Nat) : Int32 := match b with | none => -9 | some j => nI j
theorem oN_9 : ∀ j, j < 7 → ¬ nI j = (-9 : Int32) := by decide +kernel
def bstD (held : Int32) (may : Nat → Bool) (gn : Nat → Int32) (w : Nat → Nat) (mn : Int32) : Nat → Nat → Option Nat → Option Nat
  | _, 0, b => b
  | k, d + 1, b => bstD held may gn w mn (k + 1) d (if btI held (nI k) = true then b else if may k = true then (match b with | none => some k | some j => if betS mn (gn k) (nI (w k)) (gn j) (nI (w j)) = true then some k else some j) else b)
theorem bstD_s (held : Int32) (may : Nat → Bool) (gn : Nat → Int32) (w : Nat → Nat) (mn : Int32) (k d : Nat) (b : Option Nat) : bstD held may gn w mn k (d + 1) b = bstD held may gn w mn (k + 1) d (if btI held (nI k) = true then b else if may k = true then (match b with | none => some k | some j => if betS mn (gn k) (nI (w k)) (gn j) (nI (w j)) = true then some k else some j) else b) := rfl
theorem bst_ok {held : Int32} {may : Nat → Bool} {gn : Nat → Int32} {w : Nat → Nat} {mn : Int32} : ∀ d k b, (∀ j, b = some j → j < k ∧ btI held (nI j) = false) → ∀ j, bstD held may gn w mn k d b = some j → j < k + d ∧ btI held (nI j) = false := by
  intro d
  induction d with
  | zero => intro k b hb j hj; exact hb j hj
  | succ d ih =>
    intro k b hb j hj
    have h1 := ih (k + 1) _ (fun i hi => ?_) j hj
    · exact ⟨by omega, h1.2⟩
    · split at hi
      · have := hb i hi; exact ⟨by omega, this.2⟩
      · rename_i hk
        have hkf : btI held (nI k) = false := by cases hz : btI held (nI k) <;> simp_all
        split at hi
        · split at hi
          · cases hi; exact ⟨by omega, hkf⟩
          · split at hi
            · cases hi; exact ⟨by omega, hkf⟩
            · have := hb i hi; exact ⟨by omega, this.2⟩
        · have := hb i hi; exact ⟨by omega, this.2⟩
/-- all are held: there is none -/
theorem bst_none {held : Int32} {may : Nat → Bool} {gn : Nat → Int32} {w : Nat → Nat} {mn : Int32} : ∀ d k b, (∀ j, k ≤ j → j < k + d → btI held (nI j) = true) → bstD held may gn w mn k d b = b := by
  intro d
  induction d with
  | zero => intro k b _; rfl
  | succ d ih =>
    intro k b hb
    unfold bstD
    rw [if_pos (hb k (Nat.le_refl k) (by omega))]
    exact ih (k + 1) b (fun j h1 h2 => hb j (by omega) (by omega))
def bestS (nt : Nat → Int32) (w : Nat → Nat) (N M : Nat) (bd mn : Int32) (r hd : Nat) : Option Nat := bstD (nI hd) (fun c => inW w N bd (goX N r c)) (fun c => gnI nt M (nI r) (nI c)) w mn 0 N none
section BS
variable {h N M f r : Nat} {v : kV} {ar : kR} {bd : Int32} {kd bk nt : Nat → Int32}
theorem best_xL (hS : HS h v ar N M f bd kd bk nt) (hW : CW N M f kd bk nt) (hr : v (2+5*h+2) = nI r) (mn : Int32) (hd : Nat) : ∀ (d n k : Nat) (b : Option Nat), (∀ j, b = some j → j < k) → k + d = N → d < n → fX1_bestCell_9 h v ar mn (nI hd) n (oN b) (match b with | none => 0 | some j => gnI nt M (nI r) (nI j)) (nI k) = some (oN (bstD (nI hd) (fun c => inW (wN kd bk) N bd (goX N r c)) (fun c => gnI nt M (nI r) (nI c)) (wN kd bk) mn k d b)) := by
  intro d
  have hN := hW.1
  have hM := hW.2.1
  induction d with
  | zero =>
    intro n k b hb hk hn
    obtain ⟨n, rfl⟩ : ∃ n', n = n' + 1 := ⟨n - 1, by omega⟩
    show fX1_bestCell_9b h v ar mn (nI hd) _ _ _ _ = _
    unfold fX1_bestCell_9b
    rw [hS.1, if_pos (nI_le (by omega) (by omega))]
    rfl
  | succ d ih =>
    intro n k b hb hk hn
    obtain ⟨n, rfl⟩ : ∃ n', n = n' + 1 := ⟨n - 1, by omega⟩
    show fX1_bestCell_9b h v ar mn (nI hd) _ _ _ _ = _
    unfold fX1_bestCell_9b fX1_bestCell_78 fX1_bestCell_85
    rw [hS.1, if_neg (nI_ge (by omega) (by omega)), bt_if, after_x hS hW hr, kb1_some, bIf, gain_x hS hM, kb1_some, hr, nI_1, bstD_s]
    by_cases h1 : btI (nI hd) (nI k) = true
    · rw [if_pos h1, if_pos h1]
      exact ih n (k + 1) b (fun j hj => by have := hb j hj; omega) (by omega) (by omega)
    · rw [if_neg h1, if_neg h1]
      by_cases h2 : inW (wN kd bk) N bd (goX N r k) = true
      · rw [if_pos h2, if_pos h2]
        cases b with
        | none =>
          show (if (-9 : Int32) = -9 then _ else _) = _
          rw [if_pos rfl]
          exact ih n (k + 1) (some k) (fun j hj => by cases hj; omega) (by omega) (by omega)
        | some j =>
          have hj := hb j rfl
          rw [show oN (some j) = nI j from rfl]
          dsimp only
          rw [if_neg (oN_9 j (by omega)), if_neg (nI_in (by omega) (by omega)), if_neg (nI_in (by omega) (by omega)), nI_clamp (by omega), nI_clamp (by omega), (hS.2.2.2.2.1 k (by omega)).2.2, (hS.2.2.2.2.1 j (by omega)).2.2, (wt_N hW (c := k) (by omega)).1, (wt_N hW (c := j) (by omega)).1, better_x, kb1_some, bIf]
          show _ = some (oN (bstD _ _ _ _ _ _ _ (if betS mn (gnI nt M (nI r) (nI k)) (nI (wN kd bk k)) (gnI nt M (nI r) (nI j)) (nI (wN kd bk j)) = true then some k else some j)))
          split
          · exact ih n (k + 1) (some k) (fun i hi => by cases hi; omega) (by omega) (by omega)
          · exact ih n (k + 1) (some j) (fun i hi => by cases hi; omega) (by omega) (by omega)
      · rw [if_neg h2, if_neg h2]
        exact ih n (k + 1) b (fun j hj => by have := hb j hj; omega) (by omega) (by omega)
theorem best_x (hS : HS h v ar N M f bd kd bk nt) (hW : CW N M f kd bk nt) (hr : v (2+5*h+2) = nI r) (mn : Int32) (hd : Nat) : fX1_bestCell h v ar mn (nI hd) = some (oN (bestS nt (wN kd bk) N M bd mn r hd)) := by
  have hN := hW.1
  exact best_xL hS hW hr mn hd N 300 0 none (fun j hj => by cases hj) (by omega) (by omega)
theorem better_m (hS : MS v ar N M f bd kd bk nt) (hW : CW N M f kd bk nt) (mn R : Int32) {c j : Nat} (hc : c < N) (hj : j < N) : fX7_isBetter v ar (nI c) (nI j) mn R = some (betS mn (gnI nt M R (nI c)) (nI (wN kd bk c)) (gnI nt M R (nI j)) (nI (wN kd bk j))) := by
  unfold fX7_isBetter betS
  rw [gain_m hS hW.2.1, kb1_some, gain_m hS hW.2.1, kb1_some, w1_m hS hW hc, w1_m hS hW hj, kb1_some, kb1_some, kb1_some, kb1_some, bif_n, bif_n, bif_n]
  split
  · rfl
  · split
    · split <;> rfl
    · rfl
theorem best_mL (hS : MS v ar N M f bd kd bk nt) (hW : CW N M f kd bk nt) (hr : r < 2 ^ N) (mn : Int32) (lk : Nat) (hl : lk < 2 ^ N) : ∀ (d n k : Nat) (b : Option Nat), (∀ j, b = some j → j < k) → k + d = N → d < n → fX7_bestOf_7 v ar mn (nI r) (nI lk) n (oN b) (nI k) = some (oN (bstD (nI (f ||| lk)) (fun c => inW (wN kd bk) N bd (goX N r c)) (fun c => gnI nt M (nI r) (nI c)) (wN kd bk) mn k d b)) := by
  intro d
  have hN := hW.1
  have hM := hW.2.1
  have h7 := p2_7 hN
  have hf := hW.2.2.1
  induction d with
  | zero =>
    intro n k b hb hk hn
    obtain ⟨n, rfl⟩ : ∃ n', n = n' + 1 := ⟨n - 1, by omega⟩
    show fX7_bestOf_7b v ar mn (nI r) (nI lk) _ _ _ = _
    unfold fX7_bestOf_7b
    rw [hS.1, if_pos (nI_le (by omega) (by omega))]
    rfl
  | succ d ih =>
    intro n k b hb hk hn
    obtain ⟨n, rfl⟩ : ∃ n', n = n' + 1 := ⟨n - 1, by omega⟩
    show fX7_bestOf_7b v ar mn (nI r) (nI lk) _ _ _ = _
    unfold fX7_bestOf_7b fX7_bestOf_65 fX7_bestOf_66 fX7_bestOf_98 fX7_bestOf_93 fX7_bestOf_100
    have hor : btI (nI (f ||| lk)) (nI k) = (btI (nI f) (nI k) || btI (nI lk) (nI k)) := by
      rw [bt_nat _ (Nat.lt_of_lt_of_le (Nat.or_lt_two_pow hf hl) h7) k (by omega), bt_nat f (by omega) k (by omega), bt_nat lk (by omega) k (by omega), Nat.testBit_or]
    rw [hS.1, if_neg (nI_ge (by omega) (by omega)), isOf_m, kb1_some, bIf, hS.2.2.1, isOf_m, kb1_some, bIf, after_m hS hW hr (show k < N by omega), kb1_some, bIf, nI_1, bstD_s, hor, if_pos rfl, if_neg (show ¬ (1 : Int32) = 0 by decide)]
    have g0 := ih n (k + 1) b (fun j hj => by have := hb j hj; omega) (by omega) (by omega)
    by_cases h1 : btI (nI lk) (nI k) = true
    · rw [if_pos h1, h1, Bool.or_true, if_pos rfl]
      exact g0
    · rw [if_neg h1]
      have h1f : btI (nI lk) (nI k) = false := by cases hz : btI (nI lk) (nI k) <;> simp_all
      rw [h1f, Bool.or_false]
      by_cases h3 : btI (nI f) (nI k) = true
      · rw [if_pos h3, if_pos h3]
        exact g0
      · rw [if_neg h3, if_neg h3]
        by_cases h2 : inW (wN kd bk) N bd (goX N r k) = true
        · rw [if_pos h2, if_pos h2]
          cases b with
          | none =>
            show (if (-9 : Int32) = -9 then _ else _) = _
            rw [if_pos rfl]
            exact ih n (k + 1) (some k) (fun j hj => by cases hj; omega) (by omega) (by omega)
          | some j =>
            have hj := hb j rfl
            show (if nI j = (-9 : Int32) then _ else kb1 (fX7_isBetter v ar (nI k) (nI j) mn (nI r)) _) = _
            rw [if_neg (oN_9 j (by omega)), better_m hS hW mn (nI r) (show k < N by omega) (show j < N by omega), kb1_some, bIf]
            show _ = some (oN (bstD _ _ _ _ _ _ _ (if betS mn (gnI nt M (nI r) (nI k)) (nI (wN kd bk k)) (gnI nt M (nI r) (nI j)) (nI (wN kd bk j)) = true then some k else some j)))
            split
            · exact ih n (k + 1) (some k) (fun i hi => by cases hi; omega) (by omega) (by omega)
            · exact ih n (k + 1) (some j) (fun i hi => by cases hi; omega) (by omega) (by omega)
        · rw [if_neg h2, if_neg h2]
          exact g0
theorem best_m (hS : MS v ar N M f bd kd bk nt) (hW : CW N M f kd bk nt) (hr : r < 2 ^ N) (mn : Int32) (lk : Nat) (hl : lk < 2 ^ N) : fX7_bestOf v ar mn (nI r) (nI lk) = some (oN (bestS nt (wN kd bk) N M bd mn r (f ||| lk))) := by
  have hN := hW.1
  exact best_mL hS hW hr mn lk hl N 300 0 none (fun j hj => by cases hj) (by omega) (by omega)
end BS
