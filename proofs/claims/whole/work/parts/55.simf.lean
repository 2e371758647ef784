theorem sq_nI (q i : Nat) : ((60 : Int32) * nI q) + nI i = nI (60*q+i) := by rw [show (60 : Int32) = nI 60 from rfl, pk_mul, nI_add]
theorem lane_no : ∀ l, l < 3 → ¬ nI l = (-1 : Int32) ∧ ¬ nI l = (-9 : Int32) := by decide +kernel
theorem isSheet_m (p : Int32) : fX7_isSheet p = some (wI p 0 3) := by unfold fX7_isSheet; rw [within_w, kb1_some]
theorem isSort_m (p : Int32) : fX7_isSort p = some (wI p 0 2) := by unfold fX7_isSort; rw [within_w, kb1_some]
theorem wI_sz {z : Nat} (hz : z ≤ 60) (p : Int32) : (p < 0 ∧ wI p 0 (nI z - (1 : Int32)) = false) ∨ (¬ p < 0 ∧ ¬ p < nI z ∧ wI p 0 (nI z - (1 : Int32)) = false) ∨ ∃ j : Nat, j < z ∧ p = nI j ∧ wI p 0 (nI z - (1 : Int32)) = true := by
  rcases pk_ix p (n := z) (by omega) with h | h | ⟨j, hj, rfl⟩
  · exact Or.inl ⟨h, by unfold wI; rw [if_pos h]⟩
  · by_cases h0 : p < 0
    · exact Or.inl ⟨h0, by unfold wI; rw [if_pos h0]⟩
    · refine Or.inr (Or.inl ⟨h0, le_nlt h, ?_⟩)
      unfold wI
      have e : (nI z - (1 : Int32)).toInt = (z : Int) - (1 : Nat) := pk_sub_toInt (a := z) (b := 1) (by omega) (by omega)
      rw [if_neg h0, if_pos (show nI z - (1 : Int32) < p by rw [Int32.lt_iff_toInt_lt, e]; rw [Int32.le_iff_toInt_le, nI_toInt (by omega)] at h; omega)]
  · refine Or.inr (Or.inr ⟨j, hj, rfl, ?_⟩)
    obtain ⟨z, rfl⟩ : ∃ z', z = z' + 1 := ⟨z - 1, by omega⟩
    rw [nI_pred]
    exact wI_in (lo := 0) (by omega) (by omega) (by omega)
theorem xLen_row : ∀ q, q < 4 → xLen (13+q) = 60 := by decide +kernel
/-- one sheet is another one -/
theorem RS_one {v v2 : kV} {ar ar2 mar mar2 : kR} {q : Nat} (hq : q < 4) (h : RS v ar mar) (h1 : RS1 v2 ar2 mar2 q) (k1 : ∀ j, 20 ≤ j → j ≤ 27 → j ≠ 20+2*q → j ≠ 21+2*q → v2 j = v j) (k2 : ∀ j, 13 ≤ j → j ≤ 16 → j ≠ 13+q → ar2 j = ar j) (k3 : ∀ i, i ≠ q → mar2 0 i = mar 0 i ∧ mar2 1 i = mar 1 i) (k4 : ∀ t, t < 60*q ∨ 60*q+60 ≤ t → mar2 2 t = mar 2 t) : RS v2 ar2 mar2 := by
  intro i hi
  by_cases hiq : i = q
  · rw [hiq]; exact h1
  · obtain ⟨a1, a2, a3⟩ := h i hi
    refine ⟨?_, ?_, fun j hj => ?_⟩
    · rw [k1 _ (by omega) (by omega) (by omega) (by omega), (k3 i hiq).1]; exact a1
    · rw [k1 _ (by omega) (by omega) (by omega) (by omega), (k3 i hiq).2]; exact a2
    · rw [k2 _ (by omega) (by omega) (by omega), k4 _ (by omega)]; exact a3 j hj
theorem zero_L {q : Nat} (hq : q < 4) (p2 p3 : Int32) : ∀ (d n i : Nat) (v : kV) (ar : kR), i + d = 60 → d < n → ∃ ar2, fX7_sheet_57 (nI q) p2 p3 n (nI i) v ar = some (1, v, ar2) ∧ (∀ j, j ≠ 2 → ar2 j = ar j) ∧ (∀ t, t < 60*q+i ∨ 60*q+60 ≤ t → ar2 2 t = ar 2 t) ∧ ∀ c, i ≤ c → c < 60 → ar2 2 (60*q+c) = 0 := by
  intro d
  induction d with
  | zero =>
    intro n i v ar hi hn
    obtain ⟨n, rfl⟩ : ∃ n', n = n' + 1 := ⟨n - 1, by omega⟩
    refine ⟨ar, ?_, fun _ _ => rfl, fun _ _ => rfl, fun q h1 h2 => absurd h2 (by omega)⟩
    show fX7_sheet_57b (nI q) p2 p3 _ _ _ _ = _
    unfold fX7_sheet_57b
    rw [if_pos (show (60 : Int32) ≤ nI i from nI_le (a := 60) (by omega) (by omega))]
  | succ d ih =>
    intro n i v ar hi hn
    obtain ⟨n, rfl⟩ : ∃ n', n = n' + 1 := ⟨n - 1, by omega⟩
    obtain ⟨ar2, e, q1, q2, q3⟩ := ih n (i + 1) v (va_up ar 2 (upd (ar 2) (60*q+i) 0)) (by omega) (by omega)
    refine ⟨ar2, ?_, fun j hj => by rw [q1 j hj, va_up_ne _ _ hj], fun t ht => ?_, fun c h1 h2 => ?_⟩
    · show fX7_sheet_57b (nI q) p2 p3 _ _ _ _ = _
      unfold fX7_sheet_57b
      rw [if_neg (show ¬ (60 : Int32) ≤ nI i from nI_ge (b := 60) (by omega) (by omega)), sq_nI, if_neg (nI_in (by omega) (by omega)), nI_clamp (by omega), nI_1]
      exact e
    · rw [q2 t (by omega), va_up_self, pk_un (by omega)]
    · by_cases hc : c = i
      · rw [q2 _ (by omega), va_up_self, hc, pk_us]
      · exact q3 c (by omega) h2
theorem sim_sheet : Sim_sheet := by
  intro v ar mv mar hR p1 p2 p3
  have hR0 := hR
  obtain ⟨b0, b1, b2, b3, b4, b5⟩ := Rel_flt 0 hR
  unfold fX6_sheet fX7_sheet fX6_sheet_26 fX6_refused fX6_failed fX7_fails
  rw [sheet_x, kb1_some, bIf, lane_x, kb1_some, bIf, isSheet_m, kb1_some, bIf, isSort_m, kb1_some, bIf]
  simp only [kb3_some]
  by_cases h1 : wI p1 0 3 = true
  · rw [if_pos h1, if_pos h1]
    by_cases h2 : wI p2 0 2 = true
    · rw [if_pos h2, if_pos h2]
      by_cases h3 : p3 ≤ (60 : Int32)
      · rw [if_pos h3, if_pos h3]
        by_cases h4 : 0 ≤ p3
        · rw [if_pos h4, if_pos h4]
          obtain ⟨q, -, hq, rfl⟩ := wI_of (lo := 0) (hi := 3) (by omega) (by omega) h1
          obtain ⟨l, -, hl, rfl⟩ := wI_of (lo := 0) (hi := 2) (by omega) (by omega) h2
          obtain ⟨z, -, hz, rfl⟩ := wI_of (p := p3) (lo := 0) (hi := 60) (by omega) (by omega) (show (if p3 < 0 then false else if (60 : Int32) < p3 then false else true) = true by rw [if_neg (le_nlt h4), if_neg (le_nlt h3)])
          rw [if_neg (nI_in (by omega) (by omega)), if_neg (nI_in (by omega) (by omega)), if_neg (nI_in (by omega) (by omega)), nI_clamp (by omega), va_up_ne _ _ (show (1 : Nat) ≠ 0 by omega)]
          unfold fX4_renew
          obtain ⟨ar2, e1, g1, g2⟩ := fill_x (k := 13+q) (by rw [xLen_row q (by omega)]; omega) 0 (upd (upd (upd v 1 0) (20+2*q) (nI l)) (21+2*q) (nI z)) ar
          obtain ⟨mar2, e2, q1, q2, q3⟩ := zero_L (q := q) (by omega) (nI l) (nI z) 60 300 0 (upd mv 0 0) (va_up (va_up mar 0 (upd (mar 0) q (nI l))) 1 (upd (mar 1) q (nI z))) (by omega) (by omega)
          have e2 : fX7_sheet_57 (nI q) (nI l) (nI z) 300 0 (upd mv 0 0) _ = _ := e2
          rw [xLen_row q (by omega)] at g2
          rw [e1, kb2_some, kb2_some, e2]
          have m0 : mar2 0 = upd (mar 0) q (nI l) := by rw [q1 0 (by omega), va_up_ne _ _ (by omega), va_up_self]
          have m1 : mar2 1 = upd (mar 1) q (nI z) := by rw [q1 1 (by omega), va_up_self]
          have mk : ∀ j, 3 ≤ j → mar2 j = mar j := fun j hj => by rw [q1 j (by omega), va_up_ne _ _ (by omega), va_up_ne _ _ (by omega)]
          have m2 : ∀ t, t < 60*q ∨ 60*q+60 ≤ t → mar2 2 t = mar 2 t := fun t ht => by rw [q2 t (by omega), va_up_ne _ _ (by omega), va_up_ne _ _ (by omega)]
          refine ⟨_, _, _, _, _, rfl, rfl, RC_keep (fun j _ _ => by rw [pk_un (by omega), pk_un (by omega)]) (fun j _ => g1 j (by omega)) (fun _ _ _ => rfl) (fun j _ _ => mk j (by omega)) b0, RS_one (q := q) (by omega) b1 ⟨Or.inr ⟨l, by omega, by rw [pk_un (by omega), pk_us], by rw [m0, pk_us]⟩, ⟨z, hz, pk_us, by rw [m1, pk_us]⟩, fun i hi => by rw [g2 i hi, q3 i (by omega) hi]⟩ (fun j _ _ a1 a2 => by rw [pk_un a2, pk_un a1]) (fun j _ _ a => g1 j a) (fun i hi => by rw [m0, m1, pk_un hi, pk_un hi]; exact ⟨rfl, rfl⟩) m2, RK_keep (fun j _ _ => by rw [pk_un (by omega), pk_un (by omega)]) (g1 _ (by omega)) (fun _ _ _ => rfl) (mk 3 (by omega)) b2, RR_keep (by rw [pk_un (by omega), pk_un (by omega)]) (by rw [pk_un (by omega), pk_un (by omega)]) (g1 _ (by omega)) (g1 _ (by omega)) rfl (mk _ (by omega)) (mk _ (by omega)) b3, ?_, ?_⟩
          · rw [pk_un (by omega), pk_un (by omega)]; exact b4
          · rw [pk_un (by omega), pk_un (by omega)]; exact b5
        · rw [if_neg h4, if_neg h4]; exact ⟨_, _, _, _, _, rfl, rfl, flt_x 4 hR0⟩
      · rw [if_neg h3, if_neg h3]; exact ⟨_, _, _, _, _, rfl, rfl, Rel_flt 0 hR0⟩
    · rw [if_neg h2, if_neg h2]; exact ⟨_, _, _, _, _, rfl, rfl, Rel_flt 0 hR0⟩
  · rw [if_neg h1, if_neg h1]; exact ⟨_, _, _, _, _, rfl, rfl, Rel_flt 0 hR0⟩
theorem sim_lose : Sim_lose := by
  intro v ar mv mar hR p1
  have hR0 := hR
  obtain ⟨b0, b1, b2, b3, b4, b5⟩ := hR
  unfold fX6_lose fX7_lose fX6_lose_27 fX7_lose_25
  rw [sheet_x, kb1_some, bIf, isSheet_m, kb1_some, bIf]
  by_cases h1 : wI p1 0 3 = true
  · rw [if_pos h1, if_pos h1]
    obtain ⟨q, -, hq, rfl⟩ := wI_of (lo := 0) (hi := 3) (by omega) (by omega) h1
    simp only [if_neg (nI_in (show q < 4 by omega) (show 4 < 2 ^ 31 by omega))]
    simp only [nI_clamp (show q < 2 ^ 31 by omega)]
    obtain ⟨c1, c2, c3⟩ := b1 q (by omega)
    have hrel : Rel (upd v (20+2*q) (-1)) ar mv (va_up mar 0 (upd (mar 0) q (-9))) := by
      refine ⟨RC_keep (fun j _ _ => pk_un (by omega)) (fun _ _ => rfl) (fun _ _ _ => rfl) (fun j _ _ => va_up_ne _ _ (by omega)) b0, RS_one (q := q) (by omega) b1 ⟨Or.inl ⟨pk_us, by rw [va_up_self, pk_us]⟩, by rw [pk_un (by omega), va_up_ne _ _ (by omega)]; exact c2, by rw [va_up_ne _ _ (by omega)]; exact c3⟩ (fun j _ _ a1 a2 => pk_un a1) (fun _ _ _ _ => rfl) (fun i hi => by rw [va_up_self, pk_un hi, va_up_ne _ _ (by omega)]; exact ⟨rfl, rfl⟩) (fun t _ => by rw [va_up_ne _ _ (by omega)]), RK_keep (fun j _ _ => pk_un (by omega)) rfl (fun _ _ _ => rfl) (va_up_ne _ _ (by omega)) b2, RR_keep (pk_un (by omega)) (pk_un (by omega)) rfl rfl rfl (va_up_ne _ _ (by omega)) (va_up_ne _ _ (by omega)) b3, ?_, ?_⟩
      · rw [pk_un (by omega)]; exact b4
      · rw [pk_un (by omega)]; exact b5
    rcases c1 with ⟨d1, d2⟩ | ⟨l, hl, d1, d2⟩
    · rw [d1, d2, if_pos rfl, if_pos rfl]; exact ⟨_, _, _, _, _, rfl, rfl, hrel⟩
    · rw [d1, d2, if_neg (lane_no l hl).1, if_neg (lane_no l hl).2]; exact ⟨_, _, _, _, _, rfl, rfl, hrel⟩
  · rw [if_neg h1, if_neg h1]; exact ⟨_, v, ar, mv, mar, rfl, rfl, hR0⟩
theorem sim_put : Sim_put := by
  intro v ar mv mar hR p1 p2 p3
  have hR0 := hR
  obtain ⟨b0, b1, b2, b3, b4, b5⟩ := hR
  unfold fX6_put fX7_put fX6_put_49 fX7_put_93 fX6_refused fX6_failed fX7_fails fX6_cutToLane
  rw [sheet_x, kb1_some, bIf, isSheet_m, kb1_some, bIf]
  simp only [kb3_some]
  by_cases h1 : wI p1 0 3 = true
  · rw [if_pos h1, if_pos h1]
    obtain ⟨q, -, hq, rfl⟩ := wI_of (lo := 0) (hi := 3) (by omega) (by omega) h1
    simp only [if_neg (nI_in (show q < 4 by omega) (show 4 < 2 ^ 31 by omega))]
    simp only [nI_clamp (show q < 2 ^ 31 by omega)]
    rw [pk_un (show 20+2*q ≠ 1 by omega), within_w, kb1_some, bIf]
    obtain ⟨c1, ⟨z, hz, z1, z2⟩, c3⟩ := b1 q (by omega)
    rcases c1 with ⟨d1, d2⟩ | ⟨l, hl, d1, d2⟩
    · rw [d1, d2, if_pos rfl, if_pos rfl]; exact ⟨_, _, _, _, _, rfl, rfl, flt_x 1 hR0⟩
    · rw [d1, d2, if_neg (lane_no l hl).1, if_neg (lane_no l hl).2, z1, z2]
      rcases wI_sz hz p2 with ⟨g1, g2⟩ | ⟨g0, g1, g2⟩ | ⟨i, hi, rfl, g2⟩
      · rw [if_pos g1, g2]; exact ⟨_, _, _, _, _, rfl, rfl, flt_x 3 hR0⟩
      · rw [if_neg g0, if_neg g1, g2]; exact ⟨_, _, _, _, _, rfl, rfl, flt_x 3 hR0⟩
      · rw [if_neg (nI_pos (by omega)), if_pos (nI_lt hi (by omega)), g2, if_pos rfl, sq_nI]
        simp only [if_neg (nI_in (show i < 60 by omega) (show 60 < 2 ^ 31 by omega)), if_neg (nI_in (show 60*q+i < 240 by omega) (show 240 < 2 ^ 31 by omega))]
        simp only [nI_clamp (show i < 2 ^ 31 by omega), nI_clamp (show 60*q+i < 2 ^ 31 by omega)]
        obtain ⟨d0, e1, e2, e3, e4, e5⟩ := Rel_flt 0 hR0
        have hrel : ∀ x : Int32, Rel (upd v 1 0) (va_up ar (13+q) (upd (ar (13+q)) i x)) (upd mv 0 0) (va_up mar 2 (upd (mar 2) (60*q+i) x)) := fun x => by
          refine ⟨RC_keep (fun _ _ _ => rfl) (fun j _ => va_up_ne _ _ (by omega)) (fun _ _ _ => rfl) (fun j _ _ => va_up_ne _ _ (by omega)) d0, RS_one (q := q) (by omega) e1 ⟨?_, ?_, fun t ht => ?_⟩ (fun _ _ _ _ _ => rfl) (fun j _ _ a => va_up_ne _ _ a) (fun i hi => by rw [va_up_ne _ _ (by omega), va_up_ne _ _ (by omega)]; exact ⟨rfl, rfl⟩) (fun t ht => by rw [va_up_self, pk_un (by omega)]), RK_keep (fun _ _ _ => rfl) (va_up_ne _ _ (by omega)) (fun _ _ _ => rfl) (va_up_ne _ _ (by omega)) e2, RR_keep rfl rfl (va_up_ne _ _ (by omega)) (va_up_ne _ _ (by omega)) rfl (va_up_ne _ _ (by omega)) (va_up_ne _ _ (by omega)) e3, e4, e5⟩
          · rw [va_up_ne _ _ (by omega), pk_un (by omega)]; exact Or.inr ⟨l, hl, d1, d2⟩
          · rw [va_up_ne _ _ (by omega), pk_un (by omega)]; exact ⟨z, hz, z1, z2⟩
          · rw [va_up_self, va_up_self]
            by_cases hti : t = i
            · rw [hti, pk_us, pk_us]
            · rw [pk_un hti, pk_un (by omega)]; exact c3 t ht
        rcases (show l = 0 ∨ l = 1 ∨ l = 2 by omega) with rfl | rfl | rfl
        · exact ⟨_, _, _, _, _, rfl, rfl, hrel _⟩
        · exact ⟨_, _, _, _, _, rfl, rfl, hrel _⟩
        · exact ⟨_, _, _, _, _, rfl, rfl, hrel _⟩
  · rw [if_neg h1, if_neg h1]; exact ⟨_, _, _, _, _, rfl, rfl, Rel_flt 0 hR0⟩
theorem sim_cell : Sim_cell := by
  intro v ar mv mar hR p1 p2 p3
  have hR0 := hR
  obtain ⟨b0, b1, b2, b3, b4, b5⟩ := hR
  unfold fX6_cell fX7_cell fX6_cell_14 fX6_cell_61 fX6_cell_66 fX7_cell_19 fX7_cell_50 fX7_lost fX4_faultAs
  rw [sheet_x, kb1_some, bIf, isSheet_m, kb1_some, bIf, lane_x, kb1_some, bIf, isSort_m, kb1_some, bIf]
  simp only [kb3_some]
  by_cases h1 : wI p1 0 3 = true
  · rw [if_pos h1, if_pos h1]
    by_cases h2 : wI p3 0 2 = true
    · rw [if_pos h2, if_pos h2]
      obtain ⟨q, -, hq, rfl⟩ := wI_of (lo := 0) (hi := 3) (by omega) (by omega) h1
      simp only [if_neg (nI_in (show q < 4 by omega) (show 4 < 2 ^ 31 by omega))]
      simp only [nI_clamp (show q < 2 ^ 31 by omega)]
      rw [within_w, kb1_some, bIf]
      obtain ⟨c1, ⟨z, hz, z1, z2⟩, c3⟩ := b1 q (by omega)
      rcases c1 with ⟨d1, d2⟩ | ⟨l, hl, d1, d2⟩
      · rw [d1, d2, if_pos rfl, if_pos rfl, if_pos rfl, kb1_some, pk_us, if_neg (by decide), if_neg (by decide)]
        exact ⟨_, _, _, _, _, rfl, rfl, flt_x 1 hR0⟩
      · rw [d1, d2, if_neg (lane_no l hl).1, if_neg (lane_no l hl).2, if_neg (lane_no l hl).2, z2]
        by_cases h3 : nI l = p3
        · rw [if_pos h3, if_pos h3, kb1_some, pk_us, if_pos rfl, if_pos rfl, pk_un (show 21+2*q ≠ 1 by omega), z1]
          rcases wI_sz hz p2 with ⟨g1, g2⟩ | ⟨g0, g1, g2⟩ | ⟨i, hi, rfl, g2⟩
          · rw [if_pos g1, g2, upd_upd, pk_us, if_neg (by decide)]; exact ⟨_, _, _, _, _, rfl, rfl, flt_x 3 hR0⟩
          · rw [if_neg g0, if_neg g1, g2, upd_upd, pk_us, if_neg (by decide)]; exact ⟨_, _, _, _, _, rfl, rfl, flt_x 3 hR0⟩
          · rw [if_neg (nI_pos (by omega)), if_pos (nI_lt hi (by omega)), g2, if_pos rfl, sq_nI, if_neg (nI_in (by omega) (by omega)), if_neg (nI_in (by omega) (by omega)), nI_clamp (by omega), nI_clamp (by omega), c3 i (by omega)]
            exact ⟨_, _, _, _, _, rfl, rfl, Rel_flt 0 hR0⟩
        · rw [if_neg h3, if_neg h3, kb1_some, pk_us, if_neg (by decide), if_neg (by decide)]
          exact ⟨_, _, _, _, _, rfl, rfl, flt_x 2 hR0⟩
    · rw [if_neg h2, if_neg h2]; exact ⟨_, _, _, _, _, rfl, rfl, Rel_flt 0 hR0⟩
  · rw [if_neg h1, if_neg h1]; exact ⟨_, _, _, _, _, rfl, rfl, Rel_flt 0 hR0⟩
