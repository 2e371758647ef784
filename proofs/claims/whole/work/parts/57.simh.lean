section KB
variable {N M f : Nat} {v mv : kV} {bd bd2 : Int32} {kd bk nt : Nat → Int32}
theorem areSo_L {ar mar : kR} (hW : CW N M f kd bk nt) (hX : HS 1 v ar N M f bd kd bk nt) (hY : MS mv mar N M f bd2 kd bk nt) {n0 : Nat} (hn0 : n0 ≤ 8) (h19 : v 19 = nI n0) (h29 : mv 29 = nI n0) (hrd : ∀ k, k < n0 → (∃ c : Nat, c < N ∧ ar 11 k = nI c ∧ mar 12 k = nI c) ∧ ar 12 k = mar 13 k) : ∀ (d n k : Nat), k + d = n0 → d < n → ∃ b, fX3_areSoBy_2 1 v ar n (nI k) = some b ∧ fX7_areSo_11 mv mar n (nI (wgtD (wN kd bk) (allI N) 0 N)) (nI k) = some b := by
  intro d
  induction d with
  | zero =>
    intro n k hk hn
    obtain ⟨n, rfl⟩ : ∃ n', n = n' + 1 := ⟨n - 1, by omega⟩
    show ∃ b, fX3_areSoBy_2b 1 v ar _ _ = _ ∧ fX7_areSo_11b mv mar _ _ _ = _
    unfold fX3_areSoBy_2b fX7_areSo_11b
    rw [h19, h29, if_pos (nI_le (by omega) (by omega)), if_pos (nI_le (by omega) (by omega))]
    exact ⟨_, rfl, rfl⟩
  | succ d ih =>
    intro n k hk hn
    obtain ⟨n, rfl⟩ : ∃ n', n = n' + 1 := ⟨n - 1, by omega⟩
    obtain ⟨⟨c, hc, e1, e2⟩, e3⟩ := hrd k (by omega)
    show ∃ b, fX3_areSoBy_2b 1 v ar _ _ = _ ∧ fX7_areSo_11b mv mar _ _ _ = _
    unfold fX3_areSoBy_2b fX7_areSo_11b
    rw [h19, h29, if_neg (nI_ge (by omega) (by omega)), if_neg (nI_ge (by omega) (by omega))]
    simp only [if_neg (nI_in (show k < 8 by omega) (show 8 < 2 ^ 31 by omega))]
    simp only [nI_clamp (show k < 2 ^ 31 by omega)]
    rw [e1, e2, e3, share_x hX hW, kb1_some, w1_m hY hW hc, kb1_some, one_share hW hc, kb1_some, nI_1]
    by_cases h1 : shr (wN kd bk) N ((1 : Int32) <<< (nI c &&& 31)) = mar 13 k
    · rw [if_pos h1, if_pos h1]; exact ih n (k + 1) (by omega) (by omega)
    · rw [if_neg h1, if_neg h1]; exact ⟨_, rfl, rfl⟩
theorem areSo_b {ar mar : kR} (hW : CW N M f kd bk nt) (hX : HS 1 v ar N M f bd kd bk nt) (hY : MS mv mar N M f bd2 kd bk nt) {n0 : Nat} (hn0 : n0 ≤ 8) (h19 : v 19 = nI n0) (h29 : mv 29 = nI n0) (hrd : ∀ k, k < n0 → (∃ c : Nat, c < N ∧ ar 11 k = nI c ∧ mar 12 k = nI c) ∧ ar 12 k = mar 13 k) : ∃ b, fX3_areSoBy 1 v ar = some b ∧ fX7_areSo mv mar = some b := by
  unfold fX3_areSoBy fX7_areSo
  rw [all_m hY, kb1_some, wgt_m hY hW, kb1_some]
  exact areSo_L hW hX hY hn0 h19 h29 hrd n0 300 0 (by omega) (by omega)
theorem MS_kd {mar : kR} (hY : MS mv mar N M f bd kd bk nt) (c : Nat) (k : Int32) : MS mv (va_up mar 4 (upd (mar 4) c k)) N M f bd (upd kd c k) bk nt := by
  refine ⟨hY.1, hY.2.1, hY.2.2.1, hY.2.2.2.1, fun i hi => ?_, fun i hi => ?_⟩
  · rw [va_up_self, va_up_ne _ _ (show (5 : Nat) ≠ 4 by omega)]
    by_cases hic : i = c
    · rw [hic, pk_us, pk_us]; exact ⟨rfl, by rw [← hic]; exact (hY.2.2.2.2.1 i hi).2⟩
    · rw [pk_un hic, pk_un hic]; exact hY.2.2.2.2.1 i hi
  · rw [va_up_ne _ _ (show (6 : Nat) ≠ 4 by omega)]; exact hY.2.2.2.2.2 i hi
theorem MS_bk {mar : kR} (hY : MS mv mar N M f bd kd bk nt) (c : Nat) (k : Int32) : MS mv (va_up mar 5 (upd (mar 5) c k)) N M f bd kd (upd bk c k) nt := by
  refine ⟨hY.1, hY.2.1, hY.2.2.1, hY.2.2.2.1, fun i hi => ?_, fun i hi => ?_⟩
  · rw [va_up_self, va_up_ne _ _ (show (4 : Nat) ≠ 5 by omega)]
    by_cases hic : i = c
    · rw [hic, pk_us, pk_us]; exact ⟨by rw [← hic]; exact (hY.2.2.2.2.1 i hi).1, rfl⟩
    · rw [pk_un hic, pk_un hic]; exact hY.2.2.2.2.1 i hi
  · rw [va_up_ne _ _ (show (6 : Nat) ≠ 5 by omega)]; exact hY.2.2.2.2.2 i hi
theorem kinds_L {ar0 mar0 : kR} (hW : CW N M f kd bk nt) {c : Nat} (hc : c < N) (hb0 : ar0 1 c = bk c) {n0 : Nat} (hn0 : n0 ≤ 8) (h19 : v 19 = nI n0) (h29 : mv 29 = nI n0) (hrd : ∀ k, k < n0 → (∃ c : Nat, c < N ∧ ar0 11 k = nI c ∧ mar0 12 k = nI c) ∧ ar0 12 k = mar0 13 k) : ∀ (d n t : Nat) (acc k0 : Int32) (ar mar : kR), t + d = 3 → d < n → HS 1 v ar N M f bd (upd kd c k0) bk nt → MS mv mar N M f bd2 (upd kd c k0) bk nt → (∀ j, j < 4 ∨ 7 ≤ j → ar j = ar0 j) → (∀ j, j ≠ 4 → mar j = mar0 j) → (∀ i, i ≠ c → mar 4 i = mar0 4 i) → ∃ q ar2 mar2, fX6_kinds_25 (nI c) n acc (nI t) v ar = some (q, v, ar2) ∧ fX7_kinds_22 (nI c) n (mar0 4 c) acc (nI t) mv mar = some (q, mv, mar2) ∧ (∀ j, j < 4 ∨ 7 ≤ j → ar2 j = ar0 j) ∧ ∀ j, mar2 j = mar0 j := by
  have hN := hW.1
  intro d
  induction d with
  | zero =>
    intro n t acc k0 ar mar ht hn hX hY a1 a2 a3
    obtain ⟨n, rfl⟩ : ∃ n', n = n' + 1 := ⟨n - 1, by omega⟩
    refine ⟨acc, ar, va_up mar 4 (upd (mar 4) c (mar0 4 c)), ?_, ?_, a1, fun j => ?_⟩
    · show fX6_kinds_25b _ _ _ _ _ _ = _
      unfold fX6_kinds_25b
      rw [if_pos (show (2 : Int32) < nI t from nI_lt (a := 2) (by omega) (by omega))]
    · show fX7_kinds_22b _ _ _ _ _ _ _ = _
      unfold fX7_kinds_22b
      rw [if_pos (show (3 : Int32) ≤ nI t from nI_le (a := 3) (by omega) (by omega)), if_neg (nI_in (by omega) (by omega)), nI_clamp (by omega)]
    · by_cases hj : j = 4
      · rw [hj, va_up_self]
        funext i
        by_cases hic : i = c
        · rw [hic, pk_us]
        · rw [pk_un hic]; exact a3 i hic
      · rw [va_up_ne _ _ hj]; exact a2 j hj
  | succ d ih =>
    intro n t acc k0 ar mar ht hn hX hY a1 a2 a3
    obtain ⟨n, rfl⟩ : ∃ n', n = n' + 1 := ⟨n - 1, by omega⟩
    have hkt : nI t = 0 ∨ nI t = 1 ∨ nI t = 2 := by
      rcases (show t = 0 ∨ t = 1 ∨ t = 2 by omega) with rfl | rfl | rfl
      · exact Or.inl rfl
      · exact Or.inr (Or.inl rfl)
      · exact Or.inr (Or.inr rfl)
    obtain ⟨ar2, e1, hX2, g1⟩ := set_x (h := 1) (by omega) hX hN hc (k := nI t) (b := bk c) hkt
    rw [upd_upd, upd_id] at hX2
    have hY2 := MS_kd hY c (nI t)
    rw [upd_upd] at hY2
    obtain ⟨b, hb1, hb2, hb⟩ := (hW.2.2.2.1 c hc).2
    have hW2 := CW_set (c := c) hW hkt hb1 hb2
    rw [← hb, upd_id] at hW2
    have a1' : ∀ j, j < 4 ∨ 7 ≤ j → ar2 j = ar0 j := fun j hj => by rw [g1 j (by omega)]; exact a1 j hj
    have a2' : ∀ j, j ≠ 4 → (va_up mar 4 (upd (mar 4) c (nI t))) j = mar0 j := fun j hj => by rw [va_up_ne _ _ hj]; exact a2 j hj
    have a3' : ∀ i, i ≠ c → (va_up mar 4 (upd (mar 4) c (nI t))) 4 i = mar0 4 i := fun i hi => by rw [va_up_self, pk_un hi]; exact a3 i hi
    obtain ⟨z, z1, z2⟩ := areSo_b hW2 hX2 hY2 hn0 h19 h29 (fun k hk => by rw [a1' 11 (by omega), a1' 12 (by omega), a2' 12 (by omega), a2' 13 (by omega)]; exact hrd k hk)
    show ∃ q ar2 mar2, fX6_kinds_25b _ _ _ _ _ _ = _ ∧ fX7_kinds_22b _ _ _ _ _ _ _ = _ ∧ _
    unfold fX6_kinds_25b fX7_kinds_22b fX6_kinds_68 fX7_kinds_52
    rw [if_neg (show ¬ (2 : Int32) < nI t from nI_nlt (a := 2) (by omega) (by omega)), if_neg (show ¬ (3 : Int32) ≤ nI t from nI_ge (b := 3) (by omega) (by omega)), if_neg (nI_in (by omega) (by omega)), if_neg (nI_in (by omega) (by omega)), nI_clamp (by omega), show ar (4*0+1) c = bk c from by rw [a1 _ (by omega)]; exact hb0, e1, kb2_some, z1, kb1_some, z2, kb1_some, bIf, bIf, nI_1, Int32.or_zero]
    cases z
    · exact ih n (t + 1) acc (nI t) ar2 _ (by omega) (by omega) hX2 hY2 a1' a2' a3'
    · exact ih n (t + 1) _ (nI t) ar2 _ (by omega) (by omega) hX2 hY2 a1' a2' a3'
theorem bulks_L {ar0 mar0 : kR} (hW : CW N M f kd bk nt) {c : Nat} (hc : c < N) (hb0 : ar0 0 c = kd c) {n0 : Nat} (hn0 : n0 ≤ 8) (h19 : v 19 = nI n0) (h29 : mv 29 = nI n0) (hrd : ∀ k, k < n0 → (∃ c : Nat, c < N ∧ ar0 11 k = nI c ∧ mar0 12 k = nI c) ∧ ar0 12 k = mar0 13 k) : ∀ (d n t : Nat) (acc k0 : Int32) (ar mar : kR), t + d = 10 → 1 ≤ t → d < n → HS 1 v ar N M f bd kd (upd bk c k0) nt → MS mv mar N M f bd2 kd (upd bk c k0) nt → (∀ j, j < 4 ∨ 7 ≤ j → ar j = ar0 j) → (∀ j, j ≠ 5 → mar j = mar0 j) → (∀ i, i ≠ c → mar 5 i = mar0 5 i) → ∃ q ar2 mar2, fX6_bulks_25 (nI c) n acc (nI t) v ar = some (q, v, ar2) ∧ fX7_bulks_22 (nI c) n (mar0 5 c) acc (nI t) mv mar = some (q, mv, mar2) ∧ (∀ j, j < 4 ∨ 7 ≤ j → ar2 j = ar0 j) ∧ ∀ j, mar2 j = mar0 j := by
  have hN := hW.1
  intro d
  induction d with
  | zero =>
    intro n t acc k0 ar mar ht ht1 hn hX hY a1 a2 a3
    obtain ⟨n, rfl⟩ : ∃ n', n = n' + 1 := ⟨n - 1, by omega⟩
    refine ⟨acc, ar, va_up mar 5 (upd (mar 5) c (mar0 5 c)), ?_, ?_, a1, fun j => ?_⟩
    · show fX6_bulks_25b _ _ _ _ _ _ = _
      unfold fX6_bulks_25b
      rw [if_pos (show (9 : Int32) < nI t from nI_lt (a := 9) (by omega) (by omega))]
    · show fX7_bulks_22b _ _ _ _ _ _ _ = _
      unfold fX7_bulks_22b
      rw [if_pos (show (9 : Int32) < nI t from nI_lt (a := 9) (by omega) (by omega)), if_neg (nI_in (by omega) (by omega)), nI_clamp (by omega)]
    · by_cases hj : j = 5
      · rw [hj, va_up_self]
        funext i
        by_cases hic : i = c
        · rw [hic, pk_us]
        · rw [pk_un hic]; exact a3 i hic
      · rw [va_up_ne _ _ hj]; exact a2 j hj
  | succ d ih =>
    intro n t acc k0 ar mar ht ht1 hn hX hY a1 a2 a3
    obtain ⟨n, rfl⟩ : ∃ n', n = n' + 1 := ⟨n - 1, by omega⟩
    obtain ⟨ar2, e1, hX2, g1⟩ := set_x (h := 1) (by omega) hX hN hc (k := kd c) (b := nI t) (hW.2.2.2.1 c hc).1
    rw [upd_upd, upd_id] at hX2
    have hY2 := MS_bk hY c (nI t)
    rw [upd_upd] at hY2
    have hW2 := CW_set (c := c) hW (hW.2.2.2.1 c hc).1 ht1 (show t ≤ 9 by omega)
    rw [upd_id] at hW2
    have a1' : ∀ j, j < 4 ∨ 7 ≤ j → ar2 j = ar0 j := fun j hj => by rw [g1 j (by omega)]; exact a1 j hj
    have a2' : ∀ j, j ≠ 5 → (va_up mar 5 (upd (mar 5) c (nI t))) j = mar0 j := fun j hj => by rw [va_up_ne _ _ hj]; exact a2 j hj
    have a3' : ∀ i, i ≠ c → (va_up mar 5 (upd (mar 5) c (nI t))) 5 i = mar0 5 i := fun i hi => by rw [va_up_self, pk_un hi]; exact a3 i hi
    obtain ⟨z, z1, z2⟩ := areSo_b hW2 hX2 hY2 hn0 h19 h29 (fun k hk => by rw [a1' 11 (by omega), a1' 12 (by omega), a2' 12 (by omega), a2' 13 (by omega)]; exact hrd k hk)
    show ∃ q ar2 mar2, fX6_bulks_25b _ _ _ _ _ _ = _ ∧ fX7_bulks_22b _ _ _ _ _ _ _ = _ ∧ _
    unfold fX6_bulks_25b fX7_bulks_22b fX6_bulks_69 fX7_bulks_53
    rw [if_neg (show ¬ (9 : Int32) < nI t from nI_nlt (a := 9) (by omega) (by omega)), if_neg (show ¬ (9 : Int32) < nI t from nI_nlt (a := 9) (by omega) (by omega)), if_neg (nI_in (by omega) (by omega)), if_neg (nI_in (by omega) (by omega)), nI_clamp (by omega), show ar (4*0+0) c = kd c from by rw [a1 _ (by omega)]; exact hb0, e1, kb2_some, z1, kb1_some, z2, kb1_some, bIf, bIf, nI_1, Int32.or_zero]
    cases z
    · exact ih n (t + 1) acc (nI t) ar2 _ (by omega) (by omega) (by omega) hX2 hY2 a1' a2' a3'
    · exact ih n (t + 1) _ (nI t) ar2 _ (by omega) (by omega) (by omega) hX2 hY2 a1' a2' a3'
end KB
theorem sim_kinds : Sim_kinds := by
  intro v ar mv mar hR p1
  have hR0 := hR
  obtain ⟨⟨N, M, r, f, bd, bd2, kd, bk, nt, hW, hr, hX, hY, hxr, hmr, hbd⟩, b1, b2, ⟨n0, hn0, h19, h29, hrd⟩, b4, b5⟩ := hR
  have hN := hW.1
  have hM := hW.2.1
  unfold fX6_kinds fX7_kinds
  rw [isCell_x hX, isCell_m hY, kb1_some, kb1_some, bIf, bIf]
  rcases icl_or hN p1 with h | ⟨h, c, hc, rfl⟩
  · rw [h]; exact ⟨_, v, ar, mv, mar, rfl, rfl, hR0⟩
  · obtain ⟨v3, ar3, e3, hX3, hr3, k1, k2⟩ := become_10 hN hM hX hxr
    rw [h, if_pos rfl, if_pos rfl, e3, kb2_some, if_neg (nI_in (by omega) (by omega)), nI_clamp (by omega)]
    obtain ⟨q, ar2, mar2, e1, e2, g1, g2⟩ := kinds_L (v := v3) (mv := mv) (bd := bd) (bd2 := bd2) (ar0 := ar3) (mar0 := mar) hW hc (by rw [k2 1 (by omega)]; exact (hX.2.2.2.2.1 c hc).2.1) hn0 (by rw [k1 19 (by omega)]; exact h19) h29 (fun k hk => by
      obtain ⟨⟨i, i1, i2, i3, i4⟩, i5⟩ := hrd k hk
      rw [k2 11 (by omega), k2 12 (by omega)]
      refine ⟨⟨i, ?_, i3, i4⟩, i5⟩
      rw [show v 2 = nI N from hX.1] at i2
      exact (nI_ltI (by omega) (by omega)).mp i2) 3 300 0 0 (kd c) ar3 mar (by omega) (by omega) (by rw [upd_id]; exact hX3) (by rw [upd_id]; exact hY) (fun _ _ => rfl) (fun _ _ => rfl) (fun _ _ => rfl)
    have e1 : fX6_kinds_25 (nI c) 300 0 0 v3 ar3 = _ := e1
    have e2 : fX7_kinds_22 (nI c) 300 (mar 4 c) 0 0 mv mar = _ := e2
    rw [e1, e2]
    exact ⟨_, _, _, _, _, rfl, rfl, Rel_scr (fun j _ a => k1 j (by omega)) (fun j _ a => by rw [g1 j (by omega)]; exact k2 j (by omega)) (fun _ _ _ => rfl) (fun j _ _ => g2 j) hR0⟩
theorem sim_bulks : Sim_bulks := by
  intro v ar mv mar hR p1
  have hR0 := hR
  obtain ⟨⟨N, M, r, f, bd, bd2, kd, bk, nt, hW, hr, hX, hY, hxr, hmr, hbd⟩, b1, b2, ⟨n0, hn0, h19, h29, hrd⟩, b4, b5⟩ := hR
  have hN := hW.1
  have hM := hW.2.1
  unfold fX6_bulks fX7_bulks
  rw [isCell_x hX, isCell_m hY, kb1_some, kb1_some, bIf, bIf]
  rcases icl_or hN p1 with h | ⟨h, c, hc, rfl⟩
  · rw [h]; exact ⟨_, v, ar, mv, mar, rfl, rfl, hR0⟩
  · obtain ⟨v3, ar3, e3, hX3, hr3, k1, k2⟩ := become_10 hN hM hX hxr
    rw [h, if_pos rfl, if_pos rfl, e3, kb2_some, if_neg (nI_in (by omega) (by omega)), nI_clamp (by omega)]
    obtain ⟨q, ar2, mar2, e1, e2, g1, g2⟩ := bulks_L (v := v3) (mv := mv) (bd := bd) (bd2 := bd2) (ar0 := ar3) (mar0 := mar) hW hc (by rw [k2 0 (by omega)]; exact (hX.2.2.2.2.1 c hc).1) hn0 (by rw [k1 19 (by omega)]; exact h19) h29 (fun k hk => by
      obtain ⟨⟨i, i1, i2, i3, i4⟩, i5⟩ := hrd k hk
      rw [k2 11 (by omega), k2 12 (by omega)]
      refine ⟨⟨i, ?_, i3, i4⟩, i5⟩
      rw [show v 2 = nI N from hX.1] at i2
      exact (nI_ltI (by omega) (by omega)).mp i2) 9 300 1 0 (bk c) ar3 mar (by omega) (by omega) (by omega) (by rw [upd_id]; exact hX3) (by rw [upd_id]; exact hY) (fun _ _ => rfl) (fun _ _ => rfl) (fun _ _ => rfl)
    have e1 : fX6_bulks_25 (nI c) 300 0 1 v3 ar3 = _ := e1
    have e2 : fX7_bulks_22 (nI c) 300 (mar 5 c) 0 1 mv mar = _ := e2
    rw [e1, e2]
    exact ⟨_, _, _, _, _, rfl, rfl, Rel_scr (fun j _ a => k1 j (by omega)) (fun j _ a => by rw [g1 j (by omega)]; exact k2 j (by omega)) (fun _ _ _ => rfl) (fun j _ _ => g2 j) hR0⟩
