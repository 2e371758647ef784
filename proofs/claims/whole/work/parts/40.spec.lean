-- what the circuit is, and what both sides work out of it
theorem kb1_some {α β : Type} (y : α) (k : α → Option β) : kb1 (some y) k = k y := rfl
theorem kb2_some {β : Type} (v : kV) (ar : kR) (k : kV → kR → Option β) : kb2 (some (v, ar)) k = k v ar := rfl
theorem kb3_some {α β : Type} (y : α) (v : kV) (ar : kR) (k : α → kV → kR → Option β) : kb3 (some (y, v, ar)) k = k y v ar := rfl
theorem bI_t : bI true = 1 := rfl
theorem bI_f : bI false = 0 := rfl
theorem bIf (b : Bool) {α : Type} (x y : α) : (if bI b = 0 then x else y) = if b = true then y else x := by cases b <;> rfl
theorem bif_ {c : Prop} [Decidable c] : (if c then some true else some false) = some (decide c) := by by_cases h : c <;> simp [h]
theorem bif_n {c : Prop} [Decidable c] : (if c then some false else some true) = some (!decide c) := by by_cases h : c <;> simp [h]
def wt (k b : Int32) : Int32 := if k = 0 then b else if k = 1 then b + 1 else 2 * b
def isC (n s : Int32) : Bool := if n &&& s = 0 then false else if n &&& s = n then false else true
def btI (s c : Int32) : Bool := decide (((s >>> (c &&& 31)) &&& (1 : Int32)) = (1 : Int32))
def cutD (nt : Nat → Int32) (s : Int32) : Nat → Nat → Nat
  | _, 0 => 0
  | k, d + 1 => (if isC (nt k) s = true then 1 else 0) + cutD nt s (k + 1) d
def ntsD (nt : Nat → Int32) (c : Int32) : Nat → Nat → Int32 → Int32
  | _, 0, a => a
  | k, d + 1, a => ntsD nt c (k + 1) d (if btI (nt k) c = true then a ||| ((1 : Int32) <<< (nI k &&& 31)) else a)
def wgtD (w : Nat → Nat) (s : Int32) : Nat → Nat → Nat
  | _, 0 => 0
  | k, d + 1 => (if btI s (nI k) = true then w k else 0) + wgtD w s (k + 1) d
def wN (kd bk : Nat → Int32) (c : Nat) : Nat := (wt (kd c) (bk c)).toNatClampNeg
def HS (h : Nat) (v : kV) (ar : kR) (N M f : Nat) (bd : Int32) (kd bk nt : Nat → Int32) : Prop := v (2+5*h+0) = nI N ∧ v (2+5*h+1) = nI M ∧ v (2+5*h+3) = nI f ∧ v (2+5*h+4) = bd ∧ (∀ c, c < N → ar (4*h+0) c = kd c ∧ ar (4*h+1) c = bk c ∧ ar (4*h+2) c = wt (kd c) (bk c)) ∧ ∀ k, k < M → ar (4*h+3) k = nt k
def MS (v : kV) (ar : kR) (N M f : Nat) (bd : Int32) (kd bk nt : Nat → Int32) : Prop := v 5 = nI N ∧ v 6 = nI M ∧ v 8 = nI f ∧ v 9 = bd ∧ (∀ c, c < N → ar 4 c = kd c ∧ ar 5 c = bk c) ∧ ∀ k, k < M → ar 6 k = nt k
def CW (N M f : Nat) (kd bk nt : Nat → Int32) : Prop := N ≤ 7 ∧ M ≤ 6 ∧ f < 2 ^ N ∧ (∀ c, c < N → (kd c = 0 ∨ kd c = 1 ∨ kd c = 2) ∧ ∃ b : Nat, 1 ≤ b ∧ b ≤ 9 ∧ bk c = nI b) ∧ ∀ k, k < M → ∃ n, n < 2 ^ N ∧ nt k = nI n
theorem bt_if (s c : Int32) {α : Type} (x y : α) : (if ((s >>> (c &&& 31)) &&& (1 : Int32)) = (1 : Int32) then x else y) = if btI s c = true then x else y := by
  by_cases hb : ((s >>> (c &&& 31)) &&& (1 : Int32)) = (1 : Int32)
  · rw [if_pos hb, if_pos (show btI s c = true from decide_eq_true hb)]
  · rw [if_neg hb, if_neg (show ¬ btI s c = true from fun z => hb (of_decide_eq_true z))]
theorem wt_N {N M f : Nat} {kd bk nt : Nat → Int32} (hW : CW N M f kd bk nt) {c : Nat} (hc : c < N) : wt (kd c) (bk c) = nI (wN kd bk c) ∧ 1 ≤ wN kd bk c ∧ wN kd bk c ≤ 18 := by
  obtain ⟨hk, b, h1, h2, hb⟩ := hW.2.2.2.1 c hc
  have key : ∀ b : Nat, b < 10 → 1 ≤ b → ∀ k : Nat, k < 3 → wt (nI k) (nI b) = nI (wt (nI k) (nI b)).toNatClampNeg ∧ 1 ≤ (wt (nI k) (nI b)).toNatClampNeg ∧ (wt (nI k) (nI b)).toNatClampNeg ≤ 18 := by decide +kernel
  unfold wN
  rw [hb]
  rcases hk with hk | hk | hk
  · rw [hk]; exact key b (by omega) h1 0 (by omega)
  · rw [hk]; exact key b (by omega) h1 1 (by omega)
  · rw [hk]; exact key b (by omega) h1 2 (by omega)
theorem cutD_le (nt : Nat → Int32) (s : Int32) : ∀ d k, cutD nt s k d ≤ d := by
  intro d
  induction d with
  | zero => intro k; exact Nat.le_refl 0
  | succ d ih =>
    intro k
    have := ih (k + 1)
    unfold cutD
    split <;> omega
theorem isCut_x (n s : Int32) : fX6_isCutBy n s = some (isC n s) := by
  unfold fX6_isCutBy isC
  split
  · rfl
  · split <;> rfl
theorem isOf_m (s c : Int32) : fX7_isOf s c = some (btI s c) := bif_
section SP
variable {h N M f : Nat} {v : kV} {ar : kR} {bd : Int32} {kd bk nt : Nat → Int32}
theorem cuts_xL (hS : HS h v ar N M f bd kd bk nt) (hM : M ≤ 6) (s : Int32) : ∀ (d n k acc : Nat), k + d = M → d < n → fX0_cutsBy_4 h v ar s n (nI acc) (nI k) = some (nI (acc + cutD nt s k d)) := by
  intro d
  induction d with
  | zero =>
    intro n k acc hk hn
    obtain ⟨n, rfl⟩ : ∃ n', n = n' + 1 := ⟨n - 1, by omega⟩
    show fX0_cutsBy_4b h v ar s _ _ _ = _
    unfold fX0_cutsBy_4b
    rw [hS.2.1, if_pos (nI_le (by omega) (by omega))]
    rfl
  | succ d ih =>
    intro n k acc hk hn
    obtain ⟨n, rfl⟩ : ∃ n', n = n' + 1 := ⟨n - 1, by omega⟩
    show fX0_cutsBy_4b h v ar s _ _ _ = _
    unfold fX0_cutsBy_4b
    rw [hS.2.1, if_neg (nI_ge (by omega) (by omega)), if_neg (nI_in (by omega) (by omega)), nI_clamp (by omega), hS.2.2.2.2.2 k (by omega), isCut_x, kb1_some, bIf]
    unfold fX0_cutsBy_28
    rw [nI_1, nI_1, cutD]
    split
    · rw [ih n (k + 1) (acc + 1) (by omega) (by omega), Nat.add_assoc]
    · rw [ih n (k + 1) acc (by omega) (by omega), Nat.zero_add]
theorem cuts_x (hS : HS h v ar N M f bd kd bk nt) (hM : M ≤ 6) (s : Int32) : fX0_cutsBy h v ar s = some (nI (cutD nt s 0 M)) := by
  have := cuts_xL hS hM s M 300 0 0 (by omega) (by omega)
  rw [Nat.zero_add] at this
  exact this
theorem isCut_m (hS : MS v ar N M f bd kd bk nt) (hM : M ≤ 6) {k : Nat} (hk : k < M) (s : Int32) : fX7_isCut v ar (nI k) s = some (isC (nt k) s) := by
  unfold fX7_isCut isC
  rw [if_neg (nI_in (by omega) (by omega)), if_neg (nI_in (by omega) (by omega)), nI_clamp (by omega), hS.2.2.2.2.2 k hk]
  split
  · rfl
  · split <;> rfl
theorem cuts_mL (hS : MS v ar N M f bd kd bk nt) (hM : M ≤ 6) (s : Int32) : ∀ (d n k acc : Nat), k + d = M → d < n → fX7_cutsBy_4 v ar s n (nI acc) (nI k) = some (nI (acc + cutD nt s k d)) := by
  intro d
  induction d with
  | zero =>
    intro n k acc hk hn
    obtain ⟨n, rfl⟩ : ∃ n', n = n' + 1 := ⟨n - 1, by omega⟩
    show fX7_cutsBy_4b v ar s _ _ _ = _
    unfold fX7_cutsBy_4b
    rw [hS.2.1, if_pos (nI_le (by omega) (by omega))]
    rfl
  | succ d ih =>
    intro n k acc hk hn
    obtain ⟨n, rfl⟩ : ∃ n', n = n' + 1 := ⟨n - 1, by omega⟩
    show fX7_cutsBy_4b v ar s _ _ _ = _
    unfold fX7_cutsBy_4b
    rw [hS.2.1, if_neg (nI_ge (by omega) (by omega)), isCut_m hS hM (by omega), kb1_some, bIf]
    unfold fX7_cutsBy_27
    rw [nI_1, nI_1, cutD, show nI acc + (0 : Int32) = nI (acc + 0) from nI_add acc 0]
    split
    · rw [ih n (k + 1) (acc + 1) (by omega) (by omega), Nat.add_assoc]
    · rw [ih n (k + 1) (acc + 0) (by omega) (by omega), Nat.zero_add, Nat.add_zero]
theorem cuts_m (hS : MS v ar N M f bd kd bk nt) (hM : M ≤ 6) (s : Int32) : fX7_cutsBy v ar s = some (nI (cutD nt s 0 M)) := by
  have := cuts_mL hS hM s M 300 0 0 (by omega) (by omega)
  rw [Nat.zero_add] at this
  exact this
theorem nets_xL (hS : HS h v ar N M f bd kd bk nt) (hM : M ≤ 6) (c : Int32) : ∀ (d n k : Nat) (acc : Int32), k + d = M → d < n → fX0_netsOf_4 h v ar c n acc (nI k) = some (ntsD nt c k d acc) := by
  intro d
  induction d with
  | zero =>
    intro n k acc hk hn
    obtain ⟨n, rfl⟩ : ∃ n', n = n' + 1 := ⟨n - 1, by omega⟩
    show fX0_netsOf_4b h v ar c _ _ _ = _
    unfold fX0_netsOf_4b
    rw [hS.2.1, if_pos (nI_le (by omega) (by omega))]
    rfl
  | succ d ih =>
    intro n k acc hk hn
    obtain ⟨n, rfl⟩ : ∃ n', n = n' + 1 := ⟨n - 1, by omega⟩
    show fX0_netsOf_4b h v ar c _ _ _ = _
    unfold fX0_netsOf_4b fX0_netsOf_32
    rw [hS.2.1, if_neg (nI_ge (by omega) (by omega)), if_neg (nI_in (by omega) (by omega)), nI_clamp (by omega), hS.2.2.2.2.2 k (by omega), nI_1, ntsD, bt_if]
    split <;> exact ih n (k + 1) _ (by omega) (by omega)
theorem nets_x (hS : HS h v ar N M f bd kd bk nt) (hM : M ≤ 6) (c : Int32) : fX0_netsOf h v ar c = some (ntsD nt c 0 M 0) := nets_xL hS hM c M 300 0 0 (by omega) (by omega)
theorem nets_mL (hS : MS v ar N M f bd kd bk nt) (hM : M ≤ 6) (c : Int32) : ∀ (d n k : Nat) (acc : Int32), k + d = M → d < n → fX7_netsOf_4 v ar c n acc (nI k) = some (ntsD nt c k d acc) := by
  intro d
  induction d with
  | zero =>
    intro n k acc hk hn
    obtain ⟨n, rfl⟩ : ∃ n', n = n' + 1 := ⟨n - 1, by omega⟩
    show fX7_netsOf_4b v ar c _ _ _ = _
    unfold fX7_netsOf_4b
    rw [hS.2.1, if_pos (nI_le (by omega) (by omega))]
    rfl
  | succ d ih =>
    intro n k acc hk hn
    obtain ⟨n, rfl⟩ : ∃ n', n = n' + 1 := ⟨n - 1, by omega⟩
    show fX7_netsOf_4b v ar c _ _ _ = _
    unfold fX7_netsOf_4b fX7_netsOf_33
    rw [hS.2.1, if_neg (nI_ge (by omega) (by omega)), if_neg (nI_in (by omega) (by omega)), nI_clamp (by omega), hS.2.2.2.2.2 k (by omega), isOf_m, kb1_some, bIf, nI_1, ntsD, Int32.or_zero]
    split <;> exact ih n (k + 1) _ (by omega) (by omega)
theorem nets_m (hS : MS v ar N M f bd kd bk nt) (hM : M ≤ 6) (c : Int32) : fX7_netsOf v ar c = some (ntsD nt c 0 M 0) := nets_mL hS hM c M 300 0 0 (by omega) (by omega)
theorem wgt_xL (hS : HS h v ar N M f bd kd bk nt) (hW : CW N M f kd bk nt) (s : Int32) : ∀ (d n k acc : Nat), k + d = N → d < n → fX0_weightOf_4 h v ar s n (nI acc) (nI k) = some (nI (acc + wgtD (wN kd bk) s k d)) := by
  intro d
  have hN := hW.1
  induction d with
  | zero =>
    intro n k acc hk hn
    obtain ⟨n, rfl⟩ : ∃ n', n = n' + 1 := ⟨n - 1, by omega⟩
    show fX0_weightOf_4b h v ar s _ _ _ = _
    unfold fX0_weightOf_4b
    rw [hS.1, if_pos (nI_le (by omega) (by omega))]
    rfl
  | succ d ih =>
    intro n k acc hk hn
    obtain ⟨n, rfl⟩ : ∃ n', n = n' + 1 := ⟨n - 1, by omega⟩
    show fX0_weightOf_4b h v ar s _ _ _ = _
    unfold fX0_weightOf_4b fX0_weightOf_30
    rw [hS.1, if_neg (nI_ge (by omega) (by omega)), if_neg (nI_in (by omega) (by omega)), nI_clamp (by omega), (hS.2.2.2.2.1 k (by omega)).2.2, (wt_N hW (by omega)).1, nI_1, nI_add, wgtD, bt_if]
    split
    · rw [ih n (k + 1) _ (by omega) (by omega), Nat.add_assoc]
    · rw [ih n (k + 1) _ (by omega) (by omega), Nat.zero_add]
theorem wgt_x (hS : HS h v ar N M f bd kd bk nt) (hW : CW N M f kd bk nt) (s : Int32) : fX0_weightOf h v ar s = some (nI (wgtD (wN kd bk) s 0 N)) := by
  have hN := hW.1
  have := wgt_xL hS hW s N 300 0 0 (by omega) (by omega)
  rw [Nat.zero_add] at this
  exact this
theorem w1_m (hS : MS v ar N M f bd kd bk nt) (hW : CW N M f kd bk nt) {c : Nat} (hc : c < N) : fX7_weightOf v ar (nI c) = some (nI (wN kd bk c)) := by
  have hN := hW.1
  rw [← (wt_N hW hc).1]
  unfold fX7_weightOf wt
  rw [if_neg (nI_in (by omega) (by omega)), if_neg (nI_in (by omega) (by omega)), if_neg (nI_in (by omega) (by omega)), if_neg (nI_in (by omega) (by omega)), if_neg (nI_in (by omega) (by omega)), nI_clamp (by omega), (hS.2.2.2.2.1 c hc).1, (hS.2.2.2.2.1 c hc).2]
  split
  · rfl
  · split <;> rfl
theorem wgt_mL (hS : MS v ar N M f bd kd bk nt) (hW : CW N M f kd bk nt) (s : Int32) : ∀ (d n k acc : Nat), k + d = N → d < n → fX7_weightOfSet_4 v ar s n (nI acc) (nI k) = some (nI (acc + wgtD (wN kd bk) s k d)) := by
  intro d
  have hN := hW.1
  induction d with
  | zero =>
    intro n k acc hk hn
    obtain ⟨n, rfl⟩ : ∃ n', n = n' + 1 := ⟨n - 1, by omega⟩
    show fX7_weightOfSet_4b v ar s _ _ _ = _
    unfold fX7_weightOfSet_4b
    rw [hS.1, if_pos (nI_le (by omega) (by omega))]
    rfl
  | succ d ih =>
    intro n k acc hk hn
    obtain ⟨n, rfl⟩ : ∃ n', n = n' + 1 := ⟨n - 1, by omega⟩
    show fX7_weightOfSet_4b v ar s _ _ _ = _
    unfold fX7_weightOfSet_4b fX7_weightOfSet_30
    rw [hS.1, if_neg (nI_ge (by omega) (by omega)), isOf_m, kb1_some, bIf, w1_m hS hW (by omega), kb1_some, nI_1, nI_add, show nI acc + (0 : Int32) = nI (acc + 0) from nI_add acc 0, wgtD]
    split
    · rw [ih n (k + 1) _ (by omega) (by omega), Nat.add_assoc]
    · rw [ih n (k + 1) _ (by omega) (by omega), Nat.zero_add, Nat.add_zero]
theorem wgt_m (hS : MS v ar N M f bd kd bk nt) (hW : CW N M f kd bk nt) (s : Int32) : fX7_weightOfSet v ar s = some (nI (wgtD (wN kd bk) s 0 N)) := by
  have hN := hW.1
  have := wgt_mL hS hW s N 300 0 0 (by omega) (by omega)
  rw [Nat.zero_add] at this
  exact this
end SP
