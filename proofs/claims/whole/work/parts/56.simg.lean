def hasB (z : Nat) (p n : Int32) : Bool := if p < 0 then false else if nI z < p then false else if n < 0 then false else if (nI z - p) < n then false else true
theorem has_x {q z : Nat} {v : kV} {ar : kR} (h : v (21+2*q) = nI z) (p n : Int32) : fX4_has q v ar p n = some (hasB z p n) := by
  unfold fX4_has hasB
  rw [h]
  split
  · rfl
  · split
    · rfl
    · split
      · rfl
      · split <;> rfl
theorem has_of {z : Nat} (hz : z ≤ 60) {p n : Int32} (h : hasB z p n = true) : ∃ i k : Nat, p = nI i ∧ n = nI k ∧ i + k ≤ z := by
  unfold hasB at h
  split at h
  · cases h
  · rename_i h1
    split at h
    · cases h
    · rename_i h2
      split at h
      · cases h
      · rename_i h3
        split at h
        · cases h
        · rename_i h4
          obtain ⟨i, hi, rfl⟩ := nI_of2 (x := p) (M := nI z) (n := z) (nI_toInt (by omega)) h1 (by rw [Int32.le_iff_toInt_le]; rw [Int32.lt_iff_toInt_lt] at h2; omega)
          rw [pk_sub hi] at h4
          obtain ⟨k, hk, rfl⟩ := nI_of2 (x := n) (M := nI (z - i)) (n := z - i) (nI_toInt (by omega)) h3 (by rw [Int32.le_iff_toInt_le]; rw [Int32.lt_iff_toInt_lt] at h4; omega)
          exact ⟨i, k, rfl, rfl, by omega⟩
/-- the model's copy, one by one: S from, T to, n of them -/
theorem copy_F {q o i j n0 : Nat} (hq : q < 4) (ho : o < 4) (hi : i + n0 ≤ 60) (hj : j + n0 ≤ 60) (hle : q = o → j ≤ i) : ∀ (d n t : Nat) (v : kV) (ar : kR), t + d = n0 → d < n → ∃ ar2, fX7_copy_166 (nI q) (nI i) (nI o) (nI j) (nI n0) n 0 (nI t) v ar = some (nI n0, v, ar2) ∧ (∀ k, k ≠ 2 → ar2 k = ar k) ∧ (∀ x, x < 60*o+j+t ∨ 60*o+j+n0 ≤ x → ar2 2 x = ar 2 x) ∧ ∀ c, t ≤ c → c < n0 → ar2 2 (60*o+j+c) = ar 2 (60*q+i+c) := by
  intro d
  induction d with
  | zero =>
    intro n t v ar ht hn
    obtain ⟨n, rfl⟩ : ∃ n', n = n' + 1 := ⟨n - 1, by omega⟩
    refine ⟨ar, ?_, fun _ _ => rfl, fun _ _ => rfl, fun c h1 h2 => absurd h2 (by omega)⟩
    show fX7_copy_166b _ _ _ _ _ _ _ _ _ _ = _
    unfold fX7_copy_166b
    rw [if_pos (nI_le (by omega) (by omega))]
  | succ d ih =>
    intro n t v ar ht hn
    obtain ⟨n, rfl⟩ : ∃ n', n = n' + 1 := ⟨n - 1, by omega⟩
    obtain ⟨ar2, e, q1, q2, q3⟩ := ih n (t + 1) v (va_up ar 2 (upd (ar 2) (60*o+j+t) (ar 2 (60*q+i+t)))) (by omega) (by omega)
    refine ⟨ar2, ?_, fun k hk => by rw [q1 k hk, va_up_ne _ _ hk], fun x hx => ?_, fun c h1 h2 => ?_⟩
    · show fX7_copy_166b _ _ _ _ _ _ _ _ _ _ = _
      unfold fX7_copy_166b fX7_copy_190
      rw [if_neg (nI_ge (by omega) (by omega)), if_pos rfl, sq_nI, nI_add, sq_nI, nI_add, if_neg (nI_in (by omega) (by omega)), if_neg (nI_in (by omega) (by omega)), nI_clamp (by omega), nI_clamp (by omega), nI_1]
      exact e
    · rw [q2 x (by omega), va_up_self, pk_un (by omega)]
    · by_cases hc : c = t
      · rw [q2 _ (by omega), va_up_self, hc, pk_us]
      · rw [q3 c (by omega) h2, va_up_self, pk_un]
        by_cases hqo : q = o
        · have := hle hqo; omega
        · omega
theorem copy_B {q o i j n0 : Nat} (hq : q < 4) (ho : o < 4) (hi : i + n0 ≤ 60) (hj : j + n0 ≤ 60) (hlt : q = o → i < j) : ∀ (d n t : Nat) (v : kV) (ar : kR), t + d = n0 → d < n → ∃ ar2, fX7_copy_166 (nI q) (nI i) (nI o) (nI j) (nI n0) n 1 (nI t) v ar = some (nI n0, v, ar2) ∧ (∀ k, k ≠ 2 → ar2 k = ar k) ∧ (∀ x, x < 60*o+j ∨ 60*o+j+d ≤ x → ar2 2 x = ar 2 x) ∧ ∀ c, c < d → ar2 2 (60*o+j+c) = ar 2 (60*q+i+c) := by
  intro d
  induction d with
  | zero =>
    intro n t v ar ht hn
    obtain ⟨n, rfl⟩ : ∃ n', n = n' + 1 := ⟨n - 1, by omega⟩
    refine ⟨ar, ?_, fun _ _ => rfl, fun _ _ => rfl, fun c h1 => absurd h1 (by omega)⟩
    show fX7_copy_166b _ _ _ _ _ _ _ _ _ _ = _
    unfold fX7_copy_166b
    rw [if_pos (nI_le (by omega) (by omega))]
  | succ d ih =>
    intro n t v ar ht hn
    obtain ⟨n, rfl⟩ : ∃ n', n = n' + 1 := ⟨n - 1, by omega⟩
    obtain ⟨ar2, e, q1, q2, q3⟩ := ih n (t + 1) v (va_up ar 2 (upd (ar 2) (60*o+j+d) (ar 2 (60*q+i+d)))) (by omega) (by omega)
    have ed : (nI n0 - (1 : Int32)) - nI t = nI d := by
      rw [show nI n0 - (1 : Int32) = nI (n0 - 1) from pk_sub (a := n0) (b := 1) (by omega), pk_sub (by omega), show n0 - 1 - t = d by omega]
    refine ⟨ar2, ?_, fun k hk => by rw [q1 k hk, va_up_ne _ _ hk], fun x hx => ?_, fun c h1 => ?_⟩
    · show fX7_copy_166b _ _ _ _ _ _ _ _ _ _ = _
      unfold fX7_copy_166b fX7_copy_190
      rw [if_neg (nI_ge (by omega) (by omega)), if_neg (by decide), ed, sq_nI, nI_add, sq_nI, nI_add, if_neg (nI_in (by omega) (by omega)), if_neg (nI_in (by omega) (by omega)), nI_clamp (by omega), nI_clamp (by omega), nI_1]
      exact e
    · rw [q2 x (by omega), va_up_self, pk_un (by omega)]
    · by_cases hc : c = d
      · rw [hc, q2 _ (by omega), va_up_self, pk_us]
      · rw [q3 c (by omega), va_up_self, pk_un]
        by_cases hqo : q = o
        · have := hlt hqo; omega
        · omega
theorem copy_m {q o i j n0 : Nat} (hq : q < 4) (ho : o < 4) (hi : i + n0 ≤ 60) (hj : j + n0 ≤ 60) (v : kV) (ar : kR) : ∃ ar2, (if nI j ≤ nI i then fX7_copy_161 (nI q) (nI i) (nI o) (nI j) (nI n0) 0 v ar else fX7_copy_161 (nI q) (nI i) (nI o) (nI j) (nI n0) 1 v ar) = some (nI n0, v, ar2) ∧ (∀ k, k ≠ 2 → ar2 k = ar k) ∧ (∀ x, x < 60*o+j ∨ 60*o+j+n0 ≤ x → ar2 2 x = ar 2 x) ∧ ∀ c, c < n0 → ar2 2 (60*o+j+c) = ar 2 (60*q+i+c) := by
  unfold fX7_copy_161
  by_cases h : j ≤ i
  · rw [if_pos (nI_le h (by omega))]
    obtain ⟨ar2, e, q1, q2, q3⟩ := copy_F hq ho hi hj (fun _ => h) n0 300 0 v ar (by omega) (by omega)
    exact ⟨ar2, e, q1, fun x hx => q2 x (by omega), fun c hc => q3 c (by omega) hc⟩
  · rw [if_neg (nI_ge (by omega) (by omega))]
    obtain ⟨ar2, e, q1, q2, q3⟩ := copy_B hq ho hi hj (fun _ => by omega) n0 300 0 v ar (by omega) (by omega)
    exact ⟨ar2, e, q1, q2, q3⟩
theorem sim_copy : Sim_copy := by
  intro v ar mv mar hR p1 p2 p3 p4 p5
  have hR0 := hR
  obtain ⟨b0, b1, b2, b3, b4, b5⟩ := hR
  unfold fX6_copy fX7_copy fX6_copy_14 fX6_copy_54 fX6_copy_102 fX7_copy_43 fX7_copy_109 fX7_copy_110 fX7_copy_144 fX6_refused fX6_failed fX7_fails
  rw [sheet_x, kb1_some, bIf, isSheet_m, kb1_some, bIf, sheet_x, kb1_some, bIf, isSheet_m, kb1_some, bIf]
  simp only [kb3_some]
  by_cases h1 : wI p1 0 3 = true
  · rw [if_pos h1, if_pos h1]
    by_cases h2 : wI p3 0 3 = true
    · rw [if_pos h2, if_pos h2]
      obtain ⟨q, -, hq, rfl⟩ := wI_of (lo := 0) (hi := 3) (by omega) (by omega) h1
      obtain ⟨o, -, ho, rfl⟩ := wI_of (lo := 0) (hi := 3) (by omega) (by omega) h2
      simp only [if_neg (nI_in (show q < 4 by omega) (show 4 < 2 ^ 31 by omega)), if_neg (nI_in (show o < 4 by omega) (show 4 < 2 ^ 31 by omega))]
      simp only [nI_clamp (show q < 2 ^ 31 by omega), nI_clamp (show o < 2 ^ 31 by omega)]
      obtain ⟨c1, ⟨z, hz, z1, z2⟩, c3⟩ := b1 q (by omega)
      obtain ⟨d1, ⟨y, hy, y1, y2⟩, d3⟩ := b1 o (by omega)
      rcases c1 with ⟨c1, c2⟩ | ⟨l, hl, c1, c2⟩
      · rw [c1, c2, if_pos rfl, if_pos rfl]; exact ⟨_, _, _, _, _, rfl, rfl, flt_x 1 hR0⟩
      · rw [c1, c2, if_neg (lane_no l hl).1, if_neg (lane_no l hl).2]
        rcases d1 with ⟨d1, d2⟩ | ⟨k, hk, d1, d2⟩
        · rw [d1, d2, if_pos rfl, if_pos rfl]; exact ⟨_, _, _, _, _, rfl, rfl, flt_x 1 hR0⟩
        · rw [d1, d2, if_neg (lane_no k hk).1, if_neg (lane_no k hk).2]
          by_cases h3 : nI l = nI k
          · rw [if_pos h3, if_pos h3, has_x z1, kb1_some, bIf, has_x y1, kb1_some, bIf, z2, y2]
            simp only [if_true, if_neg (show ¬ (1 : Int32) = 0 by decide)]
            by_cases hv : hasB z p2 p5 = true ∧ hasB y p4 p5 = true
            · rw [if_pos hv.1, if_pos hv.2]
              obtain ⟨i, n0, rfl, rfl, hi⟩ := has_of hz hv.1
              obtain ⟨j, n1, rfl, hn, hj⟩ := has_of hy hv.2
              have hv2 := hv.2
              unfold hasB at hv2
              have hn1 : n1 = n0 := by
                split at hv2
                · cases hv2
                · split at hv2
                  · cases hv2
                  · split at hv2
                    · cases hv2
                    · split at hv2
                      · cases hv2
                      · rename_i g1 g2 g3 g4
                        by_cases hjy : j ≤ y
                        · rw [pk_sub hjy, hn] at g4
                          rw [Int32.lt_iff_toInt_lt, nI_toInt (by omega), nI_toInt (by omega)] at g4
                          exact (((nI_eq (by omega) (by omega)).mp hn)).symm
                        · exact absurd hj (by omega)
              subst hn1
              rw [if_neg (nI_pos (by omega)), if_neg (nI_pos (by omega)), if_neg (nI_pos (by omega)), if_neg (nI_nlt (by omega) (by omega)), if_neg (nI_nlt (by omega) (by omega)), pk_sub (show i ≤ z by omega), if_neg (nI_nlt (by omega) (by omega)), pk_sub (show j ≤ y by omega), if_pos (nI_le (by omega) (by omega)), if_neg (show ¬ (nI i < 0 ∨ nI j < 0 ∨ nI n1 < 0 ∨ 60 < (nI i).toNatClampNeg + (nI n1).toNatClampNeg ∨ 60 < (nI j).toNatClampNeg + (nI n1).toNatClampNeg) by
                rw [nI_clamp (by omega), nI_clamp (by omega), nI_clamp (by omega)]
                have a1 := nI_pos (n := i) (by omega)
                have a2 := nI_pos (n := j) (by omega)
                have a3 := nI_pos (n := n1) (by omega)
                rintro (h | h | h | h | h)
                · exact a1 h
                · exact a2 h
                · exact a3 h
                · omega
                · omega), nI_clamp (by omega), nI_clamp (by omega), nI_clamp (by omega)]
              obtain ⟨mar2, e, q1, q2, q3⟩ := copy_m (q := q) (o := o) (i := i) (j := j) (n0 := n1) (by omega) (by omega) (by omega) (by omega) (upd mv 0 0) mar
              rw [e]
              obtain ⟨f0, f1, f2, f3, f4, f5⟩ := Rel_flt 0 hR0
              refine ⟨_, _, _, _, _, rfl, rfl, RC_keep (fun _ _ _ => rfl) (fun j _ => va_up_ne _ _ (by omega)) (fun _ _ _ => rfl) (fun j _ _ => q1 j (by omega)) f0, RS_one (q := o) (by omega) f1 ⟨?_, ?_, fun t ht => ?_⟩ (fun _ _ _ _ _ => rfl) (fun j _ _ a => va_up_ne _ _ a) (fun i hi => by rw [q1 0 (by omega), q1 1 (by omega)]; exact ⟨rfl, rfl⟩) (fun t ht => q2 t (by omega)), RK_keep (fun _ _ _ => rfl) (va_up_ne _ _ (by omega)) (fun _ _ _ => rfl) (q1 _ (by omega)) f2, RR_keep rfl rfl (va_up_ne _ _ (by omega)) (va_up_ne _ _ (by omega)) rfl (q1 _ (by omega)) (q1 _ (by omega)) f3, f4, f5⟩
              · rw [q1 0 (by omega), pk_un (by omega)]; exact Or.inr ⟨k, hk, d1, d2⟩
              · rw [q1 1 (by omega), pk_un (by omega)]; exact ⟨y, hy, y1, y2⟩
              · rw [va_up_self]
                by_cases htj : j ≤ t ∧ t < j + n1
                · rw [pk_cpy_in htj.1 htj.2, c3 _ (by omega)]
                  have := q3 (t - j) (by omega)
                  rw [show 60*o+j+(t-j) = 60*o+t by omega, show 60*q+i+(t-j) = 60*q+(i+(t-j)) by omega] at this
                  exact this.symm
                · rw [pk_cpy_out (by omega), d3 t ht, q2 _ (by omega)]
            · have hfx : (if hasB z p2 p5 = true then (if hasB y p4 p5 = true then (if p2 < 0 ∨ p4 < 0 ∨ p5 < 0 ∨ 60 < p2.toNatClampNeg + p5.toNatClampNeg ∨ 60 < p4.toNatClampNeg + p5.toNatClampNeg then none else some (p5, upd v 1 0, va_up ar (13+o) (va_cpy (ar (13+q)) (ar (13+o)) p2.toNatClampNeg p4.toNatClampNeg p5.toNatClampNeg))) else some ((-10 : Int32) - 3, upd v 1 3, ar)) else some ((-10 : Int32) - 3, upd v 1 3, ar)) = some ((-10 : Int32) - 3, upd v 1 3, ar) := by
                by_cases g1 : hasB z p2 p5 = true
                · rw [if_pos g1, if_neg (fun g2 => hv ⟨g1, g2⟩)]
                · rw [if_neg g1]
              rw [hfx]
              have hng : ∀ {a b : Int32}, ¬ b < a → a ≤ b := fun {a b} h => by rw [Int32.le_iff_toInt_le]; rw [Int32.lt_iff_toInt_lt] at h; omega
              by_cases g1 : p2 < 0
              · rw [if_pos g1]; exact ⟨_, _, _, _, _, rfl, rfl, flt_x 3 hR0⟩
              · rw [if_neg g1]
                by_cases g2 : p4 < 0
                · rw [if_pos g2]; exact ⟨_, _, _, _, _, rfl, rfl, flt_x 3 hR0⟩
                · rw [if_neg g2]
                  by_cases g3 : p5 < 0
                  · rw [if_pos g3]; exact ⟨_, _, _, _, _, rfl, rfl, flt_x 3 hR0⟩
                  · rw [if_neg g3]
                    by_cases g4 : nI z < p2
                    · rw [if_pos g4]; exact ⟨_, _, _, _, _, rfl, rfl, flt_x 3 hR0⟩
                    · rw [if_neg g4]
                      by_cases g5 : nI y < p4
                      · rw [if_pos g5]; exact ⟨_, _, _, _, _, rfl, rfl, flt_x 3 hR0⟩
                      · rw [if_neg g5]
                        by_cases g6 : nI z - p2 < p5
                        · rw [if_pos g6]; exact ⟨_, _, _, _, _, rfl, rfl, flt_x 3 hR0⟩
                        · rw [if_neg g6]
                          by_cases g7 : p5 ≤ nI y - p4
                          · exact absurd ⟨by unfold hasB; rw [if_neg g1, if_neg g4, if_neg g3, if_neg g6], by unfold hasB; rw [if_neg g2, if_neg g5, if_neg g3, if_neg (le_nlt g7)]⟩ hv
                          · rw [if_neg g7]; exact ⟨_, _, _, _, _, rfl, rfl, flt_x 3 hR0⟩
          · rw [if_neg h3, if_neg h3]; exact ⟨_, _, _, _, _, rfl, rfl, flt_x 2 hR0⟩
    · rw [if_neg h2, if_neg h2]; exact ⟨_, _, _, _, _, rfl, rfl, Rel_flt 0 hR0⟩
  · rw [if_neg h1, if_neg h1]; exact ⟨_, _, _, _, _, rfl, rfl, Rel_flt 0 hR0⟩
