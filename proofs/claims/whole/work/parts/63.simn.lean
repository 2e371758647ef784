theorem sim_circuit : Sim_circuit := by
  intro v ar mv mar hR p1 p2 p3 p4
  have hR0 := hR
  obtain ⟨b0, b1, b2, b3, b4, b5⟩ := hR
  unfold fX6_circuit fX7_circuit fX6_refused fX7_fails
  rw [sheet_x, kb1_some, bIf, isSheet_m, kb1_some, bIf, lane_x, kb1_some, bIf, isSort_m, kb1_some, bIf]
  simp only [kb3_some]
  by_cases h1 : wI p1 0 3 = true
  · rw [if_pos h1, if_pos h1]
    by_cases h2 : wI p2 0 2 = true
    · rw [if_pos h2, if_pos h2]
      obtain ⟨q, -, hq, rfl⟩ := wI_of (lo := 0) (hi := 3) (by omega) (by omega) h1
      obtain ⟨c1, ⟨z, hz, z1, z2⟩, c3⟩ := b1 q (by omega)
      rw [if_neg (nI_in (show q < 4 by omega) (by omega))]
      unfold fX6_circuit_56 fX6_circuit_75 fX6_failed
      simp only [kb3_some, nI_clamp (show q < 2 ^ 31 by omega)]
      obtain ⟨x, a1, a2⟩ := ag_L (q := q) (z := z) (v := v) (ar := ar) (mv := upd mv 0 0) (mar := mar) (by omega) c1 z2 p2 p3 p4
      rw [a1, kb1_some]
      rcases a2 with ⟨a2, a3⟩ | ⟨rfl, a3⟩
      · rw [a3, kb1_some, if_neg a2, if_neg a2]
        simp only [if_neg a2]
        exact ⟨_, _, _, _, _, rfl, rfl, flt_x x hR0⟩
      · rw [a3, kb1_some, if_pos rfl]
        by_cases h4 : 0 ≤ p4
        · simp only [if_pos h4, if_true, has_x z1, kb1_some, bIf]
          by_cases hh : hasB z p3 p4 = true
          · simp only [if_pos hh, if_true]
            obtain ⟨p, L, rfl, rfl, hL⟩ := has_of hz hh
            rw [sq_nI, nI_add]
            obtain ⟨b, v2, ar2, mv2, mar2, i2, e1, e2, ⟨hF, t1, t2, t3⟩, e4⟩ := read_L (L := L) (B := 60*q+p) (C := fun t => ar (13+q) (p+t)) (v := upd v 1 0) (ar := ar) (mv := upd mv 0 0) (mar := mar) (q := q) (p := p) (by omega) (by omega) (fun t ht => ⟨rfl, by rw [c3 _ (by omega), show 60*q+(p+t) = 60*q+p+t by omega]⟩)
            rw [e1, e2, kb3_some, kb3_some]
            cases b
            · rw [if_neg (by decide), if_neg (by decide), t1, t2, pk_sub (by omega), show 60*q+p+i2-(60*q+p) = i2 by omega]
              exact ⟨_, _, _, _, _, rfl, rfl, Rel_scr (fun j _ a => hF.1 j (by omega)) (fun j _ a => hF.2.1 j (by omega)) (fun j _ a => by rw [hF.2.2.1 j (by omega), pk_un (by omega)]) (fun j _ a => hF.2.2.2 j (by omega)) (Rel_flt 0 hR0)⟩
            · obtain ⟨N, M, r, f, kd, bk, nt, hN1, hT⟩ := e4 rfl
              obtain ⟨-, -, -, hW, hr, hX, hxr, ⟨m1, m2, m3, m4⟩, n1, n2⟩ := hT
              have hN := hW.1
              have hM := hW.2.1
              obtain ⟨v3, ar3, e5, hX3, hr3, k1, k2⟩ := become_01 (r := r) hN hM hX hxr
              rw [if_pos rfl, if_pos rfl, e5, kb2_some]
              simp only [pk_un (show 18 ≠ 5 by omega), pk_un (show 19 ≠ 6 by omega), pk_un (show 19 ≠ 5 by omega), pk_un (show 20 ≠ 7 by omega), pk_un (show 20 ≠ 6 by omega), pk_un (show 20 ≠ 5 by omega), m1, m2, m3, m4]
              have u5 : upd (upd (upd (upd mv2 5 (nI N)) 6 (nI M)) 7 (nI r)) 8 (nI f) 5 = nI N := by rw [pk_un (by omega), pk_un (by omega), pk_un (by omega), pk_us]
              have u6 : upd (upd (upd (upd mv2 5 (nI N)) 6 (nI M)) 7 (nI r)) 8 (nI f) 6 = nI M := by rw [pk_un (by omega), pk_un (by omega), pk_us]
              have u7 : upd (upd (upd (upd mv2 5 (nI N)) 6 (nI M)) 7 (nI r)) 8 (nI f) 7 = nI r := by rw [pk_un (by omega), pk_us]
              have u8 : upd (upd (upd (upd mv2 5 (nI N)) 6 (nI M)) 7 (nI r)) 8 (nI f) 8 = nI f := pk_us
              have uk : ∀ j, j < 5 ∨ 9 ≤ j → upd (upd (upd (upd mv2 5 (nI N)) 6 (nI M)) 7 (nI r)) 8 (nI f) j = mv2 j := fun j _ => by rw [pk_un (by omega), pk_un (by omega), pk_un (by omega), pk_un (by omega)]
              generalize upd (upd (upd (upd mv2 5 (nI N)) 6 (nI M)) 7 (nI r)) 8 (nI f) = mb at u5 u6 u7 u8 uk ⊢
              obtain ⟨mar3, g1, g2, g3, g4⟩ := cc_L (mv := mb) (nI q) p2 (nI p) (nI L) hN u5 N 300 0 mar2 (by omega) (by omega)
              obtain ⟨mar4, o1, o2, o3, o4⟩ := cn_L (mv := mb) (nI q) p2 (nI p) (nI L) hM u6 M 300 0 mar3 (by omega) (by omega)
              rw [show nI 0 = (0 : Int32) from rfl] at g1 o1
              rw [g1, o1, u5]
              have hx : upd (upd v3 16 0) 19 0 (2+5*0+0) = nI N := by rw [pk_un (by omega), pk_un (by omega)]; exact hX3.1
              rw [hx]
              have vk : ∀ j, j < 2 ∨ 20 ≤ j → upd (upd v3 16 0) 19 0 j = upd v 1 0 j := fun j _ => by rw [pk_un (by omega), pk_un (by omega), k1 j (by omega), hF.1 j (by omega)]
              have ak : ∀ j, 9 ≤ j → ar3 j = ar j := fun j _ => by rw [k2 j (by omega), hF.2.1 j (by omega)]
              have mk : ∀ j, j < 5 → upd (upd (upd (upd mb 9 1065353216) 10 (-9)) 11 0) 29 0 j = upd mv 0 0 j := fun j _ => by rw [pk_un (by omega), pk_un (by omega), pk_un (by omega), pk_un (by omega), uk j (by omega), hF.2.2.1 j (by omega), pk_un (by omega)]
              have nk : ∀ j, j < 4 → mar4 j = mar j := fun j _ => by rw [o2 j (by omega), g2 j (by omega) (by omega), hF.2.2.2 j (by omega)]
              obtain ⟨f0, f1, f2, f3, f4, f5⟩ := Rel_flt 0 hR0
              refine ⟨_, _, _, _, _, rfl, rfl, ⟨N, M, r, f, 1065353216, 1065353216, kd, bk, nt, hW, hr, HS0_keep (fun j _ _ _ => by rw [pk_un (by omega), pk_un (by omega)]) (fun _ _ => rfl) hX3, ⟨?_, ?_, ?_, ?_, fun c hc => ?_, fun k hk => ?_⟩, ?_, ?_, fun _ => rfl⟩, RS_keep (fun j _ _ => vk j (by omega)) (fun j _ _ => ak j (by omega)) (fun j _ => nk j (by omega)) f1, Or.inl ⟨?_, ?_, ?_⟩, ⟨0, by omega, pk_us, pk_us, fun k hk => absurd hk (by omega)⟩, ?_, ?_⟩
              · rw [pk_un (by omega), pk_un (by omega), pk_un (by omega), pk_un (by omega)]; exact u5
              · rw [pk_un (by omega), pk_un (by omega), pk_un (by omega), pk_un (by omega)]; exact u6
              · rw [pk_un (by omega), pk_un (by omega), pk_un (by omega), pk_un (by omega)]; exact u8
              · rw [pk_un (by omega), pk_un (by omega), pk_un (by omega), pk_us]
              · rw [o2 4 (by omega), o2 5 (by omega), (g4 c (by omega) hc).1, (g4 c (by omega) hc).2]; exact n1 c hc
              · rw [o4 k (by omega) hk, g2 9 (by omega) (by omega)]; exact n2 k hk
              · rw [pk_un (by omega), pk_un (by omega)]; exact hr3
              · rw [pk_un (by omega), pk_un (by omega), pk_un (by omega), pk_un (by omega)]; exact u7
              · rw [pk_un (by omega), pk_us]
              · rw [pk_un (by omega), pk_un (by omega), pk_us]
              · rw [pk_un (by omega), pk_us]
              · rw [vk _ (by omega), mk _ (by omega)]; exact f4
              · rw [vk _ (by omega), mk _ (by omega)]; exact f5
          · simp only [if_neg hh, if_neg (show ¬ (3 : Int32) = 0 by decide)]
            exact ⟨_, _, _, _, _, rfl, rfl, flt_x 3 hR0⟩
        · simp only [if_neg h4, if_neg (show ¬ (4 : Int32) = 0 by decide)]
          exact ⟨_, _, _, _, _, rfl, rfl, flt_x 4 hR0⟩
    · rw [if_neg h2, if_neg h2]; exact ⟨_, _, _, _, _, rfl, rfl, Rel_flt 0 hR0⟩
  · rw [if_neg h1, if_neg h1]; exact ⟨_, _, _, _, _, rfl, rfl, Rel_flt 0 hR0⟩
