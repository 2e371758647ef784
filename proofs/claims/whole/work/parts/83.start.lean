theorem kget {w : va_W} {a : Nat → Nat} {n : Nat} (h : w.map Prod.fst = (List.range n).map a) {k : Nat} (hk : k < n) : ∃ e, w[k]? = some (a k, e) := by
  have h1 : (w.map Prod.fst)[k]? = some (a k) := by rw [h, List.getElem?_map, List.getElem?_range hk]; rfl
  rw [List.getElem?_map] at h1
  cases hw : w[k]? with
  | none => rw [hw] at h1; cases h1
  | some q =>
    rw [hw] at h1
    have h2 : q.1 = a k := Option.some.inj h1
    exact ⟨q.2, by rw [← h2]⟩
theorem qs_i0 : Cond.instantiable RX0 9 ∈ lwG := lwG_at 67 (by decide +kernel) (by decide +kernel)
theorem qs_n0 : Cond.initialized RX0 ∈ lwG := lwG_at 45 (by decide +kernel) (by decide +kernel)
theorem qs_i1 : Cond.instantiable RX1 3 ∈ lwG := lwG_at 136 (by decide +kernel) (by decide +kernel)
theorem qs_n1 : Cond.initialized RX1 ∈ lwG := lwG_at 47 (by decide +kernel) (by decide +kernel)
theorem qs_i2 : Cond.instantiable RX2 4 ∈ lwG := lwG_at 154 (by decide +kernel) (by decide +kernel)
theorem qs_n2 : Cond.initialized RX2 ∈ lwG := lwG_at 48 (by decide +kernel) (by decide +kernel)
theorem qs_i3 : Cond.instantiable RX3 3 ∈ lwG := lwG_at 177 (by decide +kernel) (by decide +kernel)
theorem qs_n3 : Cond.initialized RX3 ∈ lwG := lwG_at 49 (by decide +kernel) (by decide +kernel)
theorem qs_i4 : Cond.instantiable RX4 3 ∈ lwG := lwG_at 193 (by decide +kernel) (by decide +kernel)
theorem qs_n4 : Cond.initialized RX4 ∈ lwG := lwG_at 50 (by decide +kernel) (by decide +kernel)
theorem qs_i5 : Cond.instantiable RX5 3 ∈ lwG := lwG_at 119 (by decide +kernel) (by decide +kernel)
theorem qs_n5 : Cond.initialized RX5 ∈ lwG := lwG_at 46 (by decide +kernel) (by decide +kernel)
theorem qs_i6 : Cond.instantiable RX6 9 ∈ lwG := lwG_at 57 (by decide +kernel) (by decide +kernel)
theorem qs_n6 : Cond.initialized RX6 ∈ lwG := lwG_at 44 (by decide +kernel) (by decide +kernel)
theorem qs_i7 : Cond.instantiable RX7 32 ∈ lwG := lwG_at 634 (by decide +kernel) (by decide +kernel)
theorem qs_n7 : Cond.initialized RX7 ∈ lwG := lwG_at 51 (by decide +kernel) (by decide +kernel)
theorem qs_arr : Cond.arrayClass .int ∈ lwG := lwG_at 117 (by decide +kernel) (by decide +kernel)
theorem qs_over : Cond.arrayOver (.object RX4) ∈ lw_tbl := List.mem_of_getElem? (i := 65) (by decide +kernel)
theorem qs_N0 : Cond.methodLinkNest RX6 19 yX0_init "HalfCuts" ∈ lw_tbl := List.mem_of_getElem? (i := 68) (by decide +kernel)
theorem qs_N1 : Cond.methodLinkNest RX6 29 yX5_init "HalfCuts" ∈ lw_tbl := List.mem_of_getElem? (i := 120) (by decide +kernel)
theorem qs_N2 : Cond.methodLinkNest RX6 36 yX1_init "HalfCuts" ∈ lw_tbl := List.mem_of_getElem? (i := 137) (by decide +kernel)
theorem qs_N3 : Cond.methodLinkNest RX6 43 yX2_init "HalfCuts" ∈ lw_tbl := List.mem_of_getElem? (i := 155) (by decide +kernel)
theorem qs_N4 : Cond.methodLinkNest RX6 50 yX3_init "HalfCuts" ∈ lw_tbl := List.mem_of_getElem? (i := 178) (by decide +kernel)
theorem qs_N5 : Cond.methodLinkNest RX6 55 yX4_init "HalfCuts" ∈ lw_tbl := List.mem_of_getElem? (i := 194) (by decide +kernel)
theorem qs_N6 : Cond.methodLinkNest RX0 55 yX6_floatBits "HalfCuts" ∈ lw_tbl := List.mem_of_getElem? (i := 360) (by decide +kernel)
theorem qs_N7 : Cond.methodLinkNest RX0 62 yX6_isCutBy "HalfCuts" ∈ lw_tbl := List.mem_of_getElem? (i := 345) (by decide +kernel)
theorem qs_lx : Cond.methodLink RL 9 yX6_init ∈ lwG := lwG_at 58 (by decide +kernel) (by decide +kernel)
theorem qs_mx : Cond.instanceMethod yX6_init ∈ lwG := lwG_at 59 (by decide +kernel) (by decide +kernel)
theorem qs_cx : Cond.code yX6_init cX6_init 2 none ∈ lwG := lwG_at 60 (by decide +kernel) (by decide +kernel)
theorem qs_kx : Cond.classLink RL 7 RX6 ∈ lwG := lwG_at 56 (by decide +kernel) (by decide +kernel)
theorem qs_lm : Cond.methodLink RL 12 yX7_init ∈ lwG := lwG_at 635 (by decide +kernel) (by decide +kernel)
theorem qs_mm : Cond.instanceMethod yX7_init ∈ lwG := lwG_at 636 (by decide +kernel) (by decide +kernel)
theorem qs_cm : Cond.code yX7_init cX7_init 1 none ∈ lwG := lwG_at 637 (by decide +kernel) (by decide +kernel)
theorem qs_km : Cond.classLink RL 10 RX7 ∈ lwG := lwG_at 633 (by decide +kernel) (by decide +kernel)
theorem kN6.calling {U : State} {g : JFrame} {mk : MethodId} {a : Array Value} (h : kN6 U) : kN6 (U.calling g mk a) := ⟨va_Nw.same (u := U) (U := U.calling g mk a) rfl rfl h.1, va_Nw.same (u := U) (U := U.calling g mk a) rfl rfl h.2.1, va_Nw.same (u := U) (U := U.calling g mk a) rfl rfl h.2.2.1, va_Nw.same (u := U) (U := U.calling g mk a) rfl rfl h.2.2.2.1, va_Nw.same (u := U) (U := U.calling g mk a) rfl rfl h.2.2.2.2.1, va_Nw.same (u := U) (U := U.calling g mk a) rfl rfl h.2.2.2.2.2⟩
theorem kN6.warm {s U : State} (hW : s.WarmedH U.vm) (h : kN6 s) : kN6 U := ⟨va_Nw.warmM hW h.1, va_Nw.warmM hW h.2.1, va_Nw.warmM hW h.2.2.1, va_Nw.warmM hW h.2.2.2.1, va_Nw.warmM hW h.2.2.2.2.1, va_Nw.warmM hW h.2.2.2.2.2⟩
set_option maxHeartbeats 4000000 in
set_option maxRecDepth 100000 in
theorem start_sim (s0 : Sim_circuit) (s1 : Sim_ofCell) (s2 : Sim_ofNet) (s3 : Sim_ofSide) (s4 : Sim_bulk) (s5 : Sim_bound) (s6 : Sim_move) (s7 : Sim_pass) (s8 : Sim_tries) (s9 : Sim_settle) (s10 : Sim_day) (s11 : Sim_least) (s12 : Sim_apart) (s13 : Sim_closest) (s14 : Sim_rack) (s15 : Sim_stow) (s16 : Sim_stowed) (s17 : Sim_reading) (s18 : Sim_back) (s19 : Sim_kinds) (s20 : Sim_bulks) (s21 : Sim_odds) (s22 : Sim_sheet) (s23 : Sim_lose) (s24 : Sim_put) (s25 : Sim_cell) (s26 : Sim_copy) (s27 : Sim_tell) (s28 : Sim_probe) (s29 : Sim_as) (s30 : Sim_trace) (s31 : Sim_fault) (s32 : Sim_many) {p : Program} {e : Env} {s : State} {m : MethodId} {below : List Frame} {meth : Method} {c : Code} (l : Launch) (hrel : Rel x0v x0r m0v m0r) {b L : Nat} {xs : Nat → Int32} (hL : L ≤ 3072) (C0 : lw_At p s m meth c b L xs) : W p l e room_1 s m #[Value.ref b] below meth c s.heap [] 0 0 (lw_Z below #[Value.ref b] s) (entryFrame m ([Value.ref b] : List Value).toArray 4) := by
  obtain ⟨hx, hb, hr, hml, hown, htsT, hX, hbl, hlocks, hgv⟩ := C0
  have hb : c.code = cL_law := hb
  have hown : s.vm.findClass RL = some m.cls := hown
  have hts : ∀ w ∈ lwG, w.before #[Value.ref b] s = true := fun w h => htsT w (List.mem_filter.mp h).1
  obtain ⟨d0, i0, k0⟩ := u_known (C := RX0) (T := TX0) (N := 9) hts iX0 (hts _ qs_i0)
  obtain ⟨d1, i1, k1⟩ := u_known (C := RX1) (T := TX1) (N := 3) hts iX1 (hts _ qs_i1)
  obtain ⟨d2, i2, k2⟩ := u_known (C := RX2) (T := TX2) (N := 4) hts iX2 (hts _ qs_i2)
  obtain ⟨d3, i3, k3⟩ := u_known (C := RX3) (T := TX3) (N := 3) hts iX3 (hts _ qs_i3)
  obtain ⟨d4, i4, k4⟩ := u_known (C := RX4) (T := TX4) (N := 3) hts iX4 (hts _ qs_i4)
  obtain ⟨d5, i5, k5⟩ := u_known (C := RX5) (T := TX5) (N := 3) hts iX5 (hts _ qs_i5)
  obtain ⟨d6, i6, k6⟩ := u_known (C := RX6) (T := TX6) (N := 9) hts iX6 (hts _ qs_i6)
  obtain ⟨d7, i7, k7⟩ := u_known (C := RX7) (T := TX7) (N := 32) hts iX7 (hts _ qs_i7)
  obtain ⟨D, hD⟩ : ∃ D : va_G, D = (fun k => match k with | 0 => d0 | 1 => d1 | 2 => d2 | 3 => d3 | 4 => d4 | 5 => d5 | 6 => d6 | _ => d7, fun k => match k with | 0 => i0 | 1 => i1 | 2 => i2 | 3 => i3 | 4 => i4 | 5 => i5 | 6 => i6 | _ => i7) := ⟨_, rfl⟩
  obtain ⟨cI, kI, comp, hcI, hkI, hki⟩ := Cond.arrayClass_spec (hts _ qs_arr)
  have hK : va_K D vwCl [(cI, .int)] s := by
    refine ⟨fun c q hq => ?_, fun k q hq => ?_⟩
    · rw [hD]
      have hc : c < 8 := (List.getElem?_eq_some_iff.mp hq).1
      rcases (show c = 0 ∨ c = 1 ∨ c = 2 ∨ c = 3 ∨ c = 4 ∨ c = 5 ∨ c = 6 ∨ c = 7 by omega) with rfl | rfl | rfl | rfl | rfl | rfl | rfl | rfl <;> (cases hq; assumption)
    · have hz : k < 1 := (List.getElem?_eq_some_iff.mp hq).1
      rw [show k = 0 by omega] at hq
      cases hq
      exact ⟨fun n z => ⟨fun k h => (by cases h), kI, hkI, comp, hki⟩, hcI⟩
  clear hD
  have hN : kN6 s := ⟨va_Nw.of rfl (htsT _ qs_N0), va_Nw.of rfl (htsT _ qs_N1), va_Nw.of rfl (htsT _ qs_N2), va_Nw.of rfl (htsT _ qs_N3), va_Nw.of rfl (htsT _ qs_N4), va_Nw.of rfl (htsT _ qs_N5)⟩
  have hAO : va_AO RX4 s := va_AO.of (htsT _ qs_over)
  have hA : ∀ q : Nat, s.heap.size ≤ q → lA s q := fun _ h => h
  have hP : va_P D vwCl [] s.heap := fun k q h => by simp at h
  have hD : va_D (lA s) [] := ⟨fun i j x y h => by simp at h, fun k q h => by simp at h⟩
  have hS : va_S (lA s) s.heap s.heap [] := va_S.rf
  have hl := lv_entry ([.ref b]) (n := 4) (Nat.le_of_ble_eq_true rfl)
  rw [lg_entry_eq]
  generalize (lg_sl ([.ref b]) ++ List.replicate (4 - (lg_sl ([.ref b])).length) Slot.unset).toArray = ls at hl ⊢
  have hl : lv_has ls 4 [(0, .ref b)] := hl
  refine va_new (D := D) (ci := 6) (fs := [.null, .null, .null, .null, .null, .null, .null, .int 0, .int 0]) (C := RX6) (T := TX6) (N := 9) hx hb hts iX6 tyX6 tyX6_ok hown (hts _ qs_kx) (hts _ qs_i6) (hts _ qs_n6) hK hP hD hS hA rfl (fun j hj => by rcases (show j = 0 ∨ j = 1 ∨ j = 2 ∨ j = 3 ∨ j = 4 ∨ j = 5 ∨ j = 6 ∨ j = 7 ∨ j = 8 by omega) with rfl | rfl | rfl | rfl | rfl | rfl | rfl | rfl | rfl <;> rfl) (Nat.le_of_ble_eq_true rfl) (Nat.le_of_ble_eq_true rfl) dL_law_0 (fun q0 H hP hD hS => ?_)
  have hP : va_P D vwCl [(q0, .inr (6, [.null, .null, .null, .null, .null, .null, .null, .int 0, .int 0]))] H := hP
  have hD : va_D (lA s) [(q0, .inr (6, [.null, .null, .null, .null, .null, .null, .null, .int 0, .int 0]))] := hD
  refine lv_dup hx hb dL_law_3 rfl ?_
  have hFc := va_free (wc := [(q0, .inr (6, [.null, .null, .null, .null, .null, .null, .null, .int 0, .int 0]))]) hD hS hA [0] rfl
  refine va_callv (va_runI (As := []) (rest := [.ref q0]) ⟨hx, hb, hml, hown, hts⟩ (nX6_init l D cI q0 H.size) (cwI (mc := 28) (ms := 433) 0 hts (kG_S qs_cx) rfl rfl rfl (hts _ qs_n6) (hts _ qs_lx) (hts _ qs_mx) rfl ⟨by decide, by decide, by decide +kernel⟩ ⟨Nat.le_of_ble_eq_true rfl, Nat.le_of_ble_eq_true rfl⟩) ⟨fun a U g mk q => by obtain ⟨z0, z1, zP, zK, zD, zN, zO⟩ := q; exact ⟨z0, z1, zP, va_K.moved (u := U) (U := U.calling g mk a) (Vm.Alike.refl U.vm) zK, zD, zN.calling, va_AO.moved (u := U) (U := U.calling g mk a) (Vm.Alike.refl U.vm) zO⟩, fun U hU hW => ⟨rfl, by rw [hU], by rw [hU]; exact hP, va_K.moved hW.alike hK, hD.weaken (fun _ _ _ _ => trivial), hN.warm hW, va_AO.moved hW.alike hAO⟩⟩ rfl rfl hl.1 rfl (lv_room (Nat.le_of_ble_eq_true rfl)) dL_law_4 ⟨Nat.le_of_ble_eq_true rfl, Nat.le_of_ble_eq_true rfl⟩) hS (fun q _ h => hFc q h) hFc (fun u t H1 locs ht hvm hw hB hz1 hk1 hS => ?_)
  obtain ⟨a, cS⟩ := u
  obtain ⟨ha0, hP1, hD1, hK1⟩ := hB
  have ha0 : a 0 = q0 := ha0
  have hP1 : va_P D vwCl (xW cI cS a x0v x0r) t.heap := hP1
  rw [ht] at hP1
  have hK : va_K D vwCl (kTys cI cS) s := va_K.moved hvm.symm hK1
  obtain ⟨hP, hD⟩ := va_join (wr := []) (w1 := xW cI cS a x0v x0r) hP hD [0] [] rfl rfl (by decide) (by decide) hk1 hFc hP1 hD1
  have hP : va_P D vwCl (xW cI cS a x0v x0r) H1 := hP
  have hD : va_D (lA s) (xW cI cS a x0v x0r) := hD
  refine lv_astore_n (lv' := [(1, .ref q0), (0, .ref b)]) hx hb dL_law_7 rfl hl (by decide) rfl (fun ls hl => ?_)
  refine va_new (D := D) (ci := 7) (fs := [.int 0, .int 0, .null, .null, .null, .int 0, .int 0, .int 0, .int 0, .int 0, .int 0, .int 0, .null, .null, .null, .null, .int 0, .int 0, .int 0, .int 0, .int 0, .null, .null, .null, .null, .int 0, .int 0, .int 0, .null, .int 0, .null, .null]) (C := RX7) (T := TX7) (N := 32) hx hb hts iX7 tyX7 tyX7_ok hown (hts _ qs_km) (hts _ qs_i7) (hts _ qs_n7) hK hP hD hS hA rfl (fun j hj => by rcases (show j = 0 ∨ j = 1 ∨ j = 2 ∨ j = 3 ∨ j = 4 ∨ j = 5 ∨ j = 6 ∨ j = 7 ∨ j = 8 ∨ j = 9 ∨ j = 10 ∨ j = 11 ∨ j = 12 ∨ j = 13 ∨ j = 14 ∨ j = 15 ∨ j = 16 ∨ j = 17 ∨ j = 18 ∨ j = 19 ∨ j = 20 ∨ j = 21 ∨ j = 22 ∨ j = 23 ∨ j = 24 ∨ j = 25 ∨ j = 26 ∨ j = 27 ∨ j = 28 ∨ j = 29 ∨ j = 30 ∨ j = 31 by omega) with rfl | rfl | rfl | rfl | rfl | rfl | rfl | rfl | rfl | rfl | rfl | rfl | rfl | rfl | rfl | rfl | rfl | rfl | rfl | rfl | rfl | rfl | rfl | rfl | rfl | rfl | rfl | rfl | rfl | rfl | rfl | rfl <;> rfl) (Nat.le_of_ble_eq_true rfl) (Nat.le_of_ble_eq_true rfl) dL_law_8 (fun q1 H hP hD hS => ?_)
  refine lv_dup hx hb dL_law_11 rfl ?_
  have hPc := hP.sub (ws' := [(q1, .inr (7, [.int 0, .int 0, .null, .null, .null, .int 0, .int 0, .int 0, .int 0, .int 0, .int 0, .int 0, .null, .null, .null, .null, .int 0, .int 0, .int 0, .int 0, .int 0, .null, .null, .null, .null, .int 0, .int 0, .int 0, .null, .int 0, .null, .null]))]) [29] rfl
  have hDc := hD.sub (ws' := [(q1, .inr (7, [.int 0, .int 0, .null, .null, .null, .int 0, .int 0, .int 0, .int 0, .int 0, .int 0, .int 0, .null, .null, .null, .null, .int 0, .int 0, .int 0, .int 0, .int 0, .null, .null, .null, .null, .int 0, .int 0, .int 0, .null, .int 0, .null, .null]))]) [29] (by decide) rfl
  have hKc := hK.sub (tys' := [(cI, .int)]) [0] rfl
  have hFc := va_free (wc := [(q1, .inr (7, [.int 0, .int 0, .null, .null, .null, .int 0, .int 0, .int 0, .int 0, .int 0, .int 0, .int 0, .null, .null, .null, .null, .int 0, .int 0, .int 0, .int 0, .int 0, .null, .null, .null, .null, .int 0, .int 0, .int 0, .null, .int 0, .null, .null]))]) hD hS hA [29] rfl
  refine va_callv (va_runI (As := []) (rest := [.ref q1]) ⟨hx, hb, hml, hown, hts⟩ (nX7_init l D cI q1 H.size) (cwI (mc := 14) (ms := 327) 0 hts (kG_S qs_cm) rfl rfl rfl (hts _ qs_n7) (hts _ qs_lm) (hts _ qs_mm) rfl ⟨by decide, by decide, by decide +kernel⟩ ⟨Nat.le_of_ble_eq_true rfl, Nat.le_of_ble_eq_true rfl⟩) ⟨fun a U g mk q => by obtain ⟨z0, z1, zP, zK, zD⟩ := q; exact ⟨z0, z1, zP, va_K.moved (u := U) (U := U.calling g mk a) (Vm.Alike.refl U.vm) zK, zD⟩, fun U hU hW => ⟨rfl, by rw [hU], by rw [hU]; exact hPc, va_K.moved hW.alike hKc, hDc.weaken (fun _ _ _ _ => trivial)⟩⟩ rfl rfl hl.1 rfl (lv_room (Nat.le_of_ble_eq_true rfl)) dL_law_12 ⟨Nat.le_of_ble_eq_true rfl, Nat.le_of_ble_eq_true rfl⟩) hS (fun q _ h => hFc q h) hFc (fun bb t H1 locs ht hvm hw hB hz1 hk1 hS => ?_)
  obtain ⟨hb0, hP1, hD1⟩ := hB
  rw [ht] at hP1
  obtain ⟨hP, hD⟩ := va_join (wr := xW cI cS a x0v x0r) (w1 := mW cI bb m0v m0r) hP hD [29] [0, 1, 2, 3, 4, 5, 6, 7, 8, 9, 10, 11, 12, 13, 14, 15, 16, 17, 18, 19, 20, 21, 22, 23, 24, 25, 26, 27, 28] rfl rfl (by decide) (by decide) hk1 hFc hP1 hD1
  refine lv_astore_n (lv' := [(2, .ref q1), (1, .ref q0), (0, .ref b)]) hx hb dL_law_15 rfl hl (by decide) rfl (fun ls hl => ?_)
  refine lv_iconst (v := (0 : Int32)) hx hb dL_law_16 (by decide) ?_
  refine lv_istore_n (lv' := [(3, .int (0 : Int32)), (2, .ref q1), (1, .ref q0), (0, .ref b)]) hx hb dL_law_17 rfl hl (by decide) rfl (fun ls hl => ?_)
  have gx : ∀ i, i < 29 → ∃ e, (xW cI cS a x0v x0r ++ mW cI bb m0v m0r)[i]? = some (a i, e) := fun i hi => by
    rw [List.getElem?_append_left hi]; exact kget rfl hi
  have gm : ∀ j, j < 15 → ∃ e, (xW cI cS a x0v x0r ++ mW cI bb m0v m0r)[29 + j]? = some (bb j, e) := fun j hj => by
    have h1 : (xW cI cS a x0v x0r).length = 29 := rfl
    rw [List.getElem?_append_right (by rw [h1]; omega), h1, Nat.add_sub_cancel_left]; exact kget rfl hj
  have hXX : lC p s m c D cI cS a bb b L xs := by
    refine ⟨⟨⟨hx, hb, hml, hown, hts⟩, hK, va_Nw.of rfl (htsT _ qs_N6), va_Nw.of rfl (htsT _ qs_N7)⟩, ?_, ?_, ?_, ?_, ?_, hX, hbl⟩
    · intro i j hi hj h
      obtain ⟨e1, h1⟩ := gx i hi
      obtain ⟨e2, h2⟩ := gx j hj
      exact hD.1 i j _ _ h1 h2 h
    · intro i j hi hj h
      obtain ⟨e1, h1⟩ := gm i hi
      obtain ⟨e2, h2⟩ := gm j hj
      have := hD.1 _ _ _ _ h1 h2 h
      omega
    · intro i j hi hj h
      obtain ⟨e1, h1⟩ := gx i hi
      obtain ⟨e2, h2⟩ := gm j hj
      have := hD.1 _ _ _ _ h1 h2 h
      omega
    · intro i hi
      obtain ⟨e1, h1⟩ := gx i hi
      exact hD.2 _ _ h1
    · intro i hi
      obtain ⟨e1, h1⟩ := gm i hi
      exact hD.2 _ _ h1
  have hl : lv_has ls 4 [(0, .ref b), (1, .ref (a 0)), (2, .ref (bb 0)), (3, .int (0 : Int32))] := by rw [ha0, hb0]; exact lv_sub hl [3, 2, 1, 0] rfl
  have hPx : va_P D vwCl (xW cI cS a x0v x0r) H1 := hP.sub [0, 1, 2, 3, 4, 5, 6, 7, 8, 9, 10, 11, 12, 13, 14, 15, 16, 17, 18, 19, 20, 21, 22, 23, 24, 25, 26, 27, 28] rfl
  have hPm : va_P D vwCl (mW cI bb m0v m0r) H1 := hP.sub [29, 30, 31, 32, 33, 34, 35, 36, 37, 38, 39, 40, 41, 42, 43] rfl
  exact law_loop hXX hr hlocks hL s0 s1 s2 s3 s4 s5 s6 s7 s8 s9 s10 s11 s12 s13 s14 s15 s16 s17 s18 s19 s20 s21 s22 s23 s24 s25 s26 s27 s28 s29 s30 s31 s32 (L + 2) 0 _ (by omega) (by omega) rfl x0v x0r m0v m0r H1 _ ls hrel hPx hPm hS hl
