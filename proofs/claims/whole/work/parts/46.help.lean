def wI (p a b : Int32) : Bool := if p < a then false else if b < p then false else true
theorem within_w (p a b : Int32) : fX7_within p a b = some (wI p a b) := by
  unfold fX7_within wI
  split
  · rfl
  · split <;> rfl
theorem manner_x (p : Int32) : fX6_isManner p = some (wI p 0 2) := within_w p 0 2
theorem lane_x (p : Int32) : fX6_isLane p = some (wI p 0 2) := within_w p 0 2
theorem kind_x (p : Int32) : fX6_isKind p = some (wI p 0 2) := within_w p 0 2
theorem sheet_x (p : Int32) : fX6_isSheet p = some (wI p 0 3) := by
  unfold fX6_isSheet wI
  by_cases h : p < 0
  · rw [if_pos h, if_pos h]
  · rw [if_neg h, if_neg h]
    by_cases h2 : (4 : Int32) ≤ p
    · rw [if_pos h2, if_pos (by rw [Int32.lt_iff_toInt_lt]; rw [Int32.le_iff_toInt_le] at h2; have e1 : (4 : Int32).toInt = 4 := rfl; have e2 : (3 : Int32).toInt = 3 := rfl; omega)]
    · rw [if_neg h2, if_neg (by rw [Int32.lt_iff_toInt_lt]; rw [Int32.le_iff_toInt_le] at h2; have e1 : (4 : Int32).toInt = 4 := rfl; have e2 : (3 : Int32).toInt = 3 := rfl; omega)]
theorem bulkR_x (p : Int32) : fX6_isBulk p = some (wI p 1 9) := within_w p 1 9
theorem wI_of {p : Int32} {lo hi : Nat} (hl : lo < 2 ^ 31) (hh : hi < 2 ^ 31) (h : wI p (nI lo) (nI hi) = true) : ∃ j : Nat, lo ≤ j ∧ j ≤ hi ∧ p = nI j := by
  unfold wI at h
  split at h
  · cases h
  · rename_i h1
    split at h
    · cases h
    · rename_i h2
      rw [Int32.lt_iff_toInt_lt, nI_toInt hl] at h1
      rw [Int32.lt_iff_toInt_lt, nI_toInt hh] at h2
      obtain ⟨j, hj, rfl⟩ := nI_of2 (x := p) (M := nI hi) (n := hi) (nI_toInt hh) (by rw [Int32.lt_iff_toInt_lt]; have e0 : (0 : Int32).toInt = 0 := rfl; omega) (by rw [Int32.le_iff_toInt_le, nI_toInt hh]; omega)
      rw [nI_toInt (by omega)] at h1
      exact ⟨j, by omega, hj, rfl⟩
theorem wI_in {j lo hi : Nat} (h1 : lo ≤ j) (h2 : j ≤ hi) (hh : hi < 2 ^ 31) : wI (nI j) (nI lo) (nI hi) = true := by
  unfold wI
  rw [if_neg (nI_nlt h1 (by omega)), if_neg (nI_nlt h2 hh)]
theorem bI_if (b : Bool) : (if b = true then some (1 : Int32) else some 0) = some (bI b) := by cases b <;> rfl
section HP
variable {h N M f r : Nat} {v : kV} {ar : kR} {bd : Int32} {kd bk nt : Nat → Int32}
def icl (N : Nat) (p : Int32) : Bool := if p < 0 then false else if nI N ≤ p then false else true
theorem isCell_x (hS : HS 0 v ar N M f bd kd bk nt) (p : Int32) : fX6_isCell v ar p = some (icl N p) := by
  unfold fX6_isCell icl
  rw [hS.1]
  split
  · rfl
  · split <;> rfl
theorem isCell_m (hS : MS v ar N M f bd kd bk nt) (p : Int32) : fX7_isCell v ar p = some (icl N p) := by
  unfold fX7_isCell icl
  rw [hS.1]
  split
  · rfl
  · split <;> rfl
theorem icl_or (hN : N ≤ 7) (p : Int32) : icl N p = false ∨ (icl N p = true ∧ ∃ c : Nat, c < N ∧ p = nI c) := by
  unfold icl
  rcases pk_ix p (n := N) (by omega) with h | h | ⟨c, hc, rfl⟩
  · rw [if_pos h]; exact Or.inl rfl
  · by_cases h0 : p < 0
    · rw [if_pos h0]; exact Or.inl rfl
    · rw [if_neg h0, if_pos h]; exact Or.inl rfl
  · rw [if_neg (nI_pos (by omega)), if_neg (nI_ge hc (by omega))]; exact Or.inr ⟨rfl, c, hc, rfl⟩
theorem noc_x (hS : HS 0 v ar N M f bd kd bk nt) (hN : N ≤ 7) : fX6_noCircuit v ar = some (decide (N = 0)) := by
  unfold fX6_noCircuit
  rw [hS.1]
  by_cases h : N = 0
  · subst h; rfl
  · rw [if_neg (nI_ne0 (by omega) (by omega)), decide_eq_false h]
theorem noc_m (hS : MS v ar N M f bd kd bk nt) (hN : N ≤ 7) {α : Type} (x y : α) : (if v 5 = 0 then x else y) = if N = 0 then x else y := by
  rw [hS.1]
  by_cases h : N = 0
  · subst h; rfl
  · rw [if_neg (nI_ne0 (by omega) (by omega)), if_neg h]
theorem one_bt : ∀ c, c < 7 → ∀ k, k < 7 → btI ((1 : Int32) <<< (nI c &&& 31)) (nI k) = decide (k = c) := by decide +kernel
theorem wgt_1 {w : Nat → Nat} {c : Nat} (hc : c < 7) : ∀ d k, k + d ≤ 7 → wgtD w ((1 : Int32) <<< (nI c &&& 31)) k d = if k ≤ c ∧ c < k + d then w c else 0 := by
  intro d
  induction d with
  | zero => intro k _; rw [if_neg (by omega)]; rfl
  | succ d ih =>
    intro k hk
    unfold wgtD
    rw [ih (k + 1) (by omega), one_bt c hc k (by omega)]
    by_cases hkc : k = c
    · subst hkc
      rw [if_pos (decide_eq_true rfl), if_neg (by omega), if_pos (by omega)]
      rfl
    · rw [if_neg (by simpa using hkc)]
      by_cases h2 : k + 1 ≤ c ∧ c < k + 1 + d
      · rw [if_pos h2, if_pos (by omega)]; omega
      · rw [if_neg h2, if_neg (by omega)]
theorem one_share (hW : CW N M f kd bk nt) {c : Nat} (hc : c < N) : fX7_floatOf (nI (wN kd bk c)) (nI (wgtD (wN kd bk) (allI N) 0 N)) = some (shr (wN kd bk) N ((1 : Int32) <<< (nI c &&& 31))) := by
  have hN := hW.1
  have h1 := (flo_ok hW ((1 : Int32) <<< (nI c &&& 31))).2
  rw [wgt_1 (w := wN kd bk) (c := c) (by omega) N 0 (by omega), if_pos (by omega)] at h1
  exact h1
theorem bit_01 : ∀ n, n < 128 → ∀ c, c < 7 → ((nI n >>> (nI c &&& 31)) &&& (1 : Int32)) = bI (btI (nI n) (nI c)) := by decide +kernel
theorem fix_x (hS : HS h v ar N M f bd kd bk nt) (p : Int32) : fX0_isFixed h v ar p = some (btI (nI f) p) := by
  unfold fX0_isFixed
  rw [hS.2.2.1, bt_if]
  cases btI (nI f) p <;> rfl
/-- a cell's kind and bulk are set -/
theorem set_x (hh : h < 2) (hS : HS h v ar N M f bd kd bk nt) (hN : N ≤ 7) {c : Nat} (hc : c < N) {k b : Int32} (hk : k = 0 ∨ k = 1 ∨ k = 2) : ∃ ar2, fX0_set h v ar (nI c) k b = some (v, ar2) ∧ HS h v ar2 N M f bd (upd kd c k) (upd bk c b) nt ∧ ∀ j, (j < 4*h ∨ 4*h+3 ≤ j) → ar2 j = ar j := by
  have e : fX0_set h v ar (nI c) k b = some (v, va_up (va_up (va_up ar (4*h+0) (upd (ar (4*h+0)) c k)) (4*h+1) (upd (ar (4*h+1)) c b)) (4*h+2) (upd (ar (4*h+2)) c (wt k b))) := by
    unfold fX0_set
    rw [if_neg (nI_in (by omega) (by omega)), if_neg (nI_in (by omega) (by omega)), if_neg (nI_in (by omega) (by omega)), if_neg (nI_in (by omega) (by omega)), if_neg (nI_in (by omega) (by omega)), nI_clamp (by omega), va_up_ne _ _ (show 4*h+2 ≠ 4*h+1 by omega), va_up_ne _ _ (show 4*h+2 ≠ 4*h+0 by omega), va_up_ne _ _ (show 4*h+1 ≠ 4*h+0 by omega)]
    rcases hk with rfl | rfl | rfl <;> rfl
  refine ⟨_, e, ⟨hS.1, hS.2.1, hS.2.2.1, hS.2.2.2.1, fun i hi => ?_, fun i hi => ?_⟩, fun j hj => ?_⟩
  · rw [va_up_ne _ _ (show 4*h+0 ≠ 4*h+2 by omega), va_up_ne _ _ (show 4*h+0 ≠ 4*h+1 by omega), va_up_self, va_up_ne _ _ (show 4*h+1 ≠ 4*h+2 by omega), va_up_self, va_up_self]
    obtain ⟨a1, a2, a3⟩ := hS.2.2.2.2.1 i hi
    by_cases hic : i = c
    · subst hic; rw [pk_us, pk_us, pk_us, pk_us, pk_us]; exact ⟨rfl, rfl, rfl⟩
    · rw [pk_un hic, pk_un hic, pk_un hic, pk_un hic, pk_un hic]; exact ⟨a1, a2, a3⟩
  · rw [va_up_ne _ _ (show 4*h+3 ≠ 4*h+2 by omega), va_up_ne _ _ (show 4*h+3 ≠ 4*h+1 by omega), va_up_ne _ _ (show 4*h+3 ≠ 4*h+0 by omega)]
    exact hS.2.2.2.2.2 i hi
  · rw [va_up_ne _ _ (show j ≠ 4*h+2 by omega), va_up_ne _ _ (show j ≠ 4*h+1 by omega), va_up_ne _ _ (show j ≠ 4*h+0 by omega)]
theorem CW_set (hW : CW N M f kd bk nt) {c : Nat} {k : Int32} {b : Nat} (hk : k = 0 ∨ k = 1 ∨ k = 2) (h1 : 1 ≤ b) (h2 : b ≤ 9) : CW N M f (upd kd c k) (upd bk c (nI b)) nt := by
  refine ⟨hW.1, hW.2.1, hW.2.2.1, fun i hi => ?_, hW.2.2.2.2⟩
  by_cases hic : i = c
  · subst hic; rw [pk_us, pk_us]; exact ⟨hk, b, h1, h2, rfl⟩
  · rw [pk_un hic, pk_un hic]; exact hW.2.2.2.1 i hi
end HP
