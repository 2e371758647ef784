set_option maxHeartbeats 4000000 in
set_option maxRecDepth 100000 in
theorem law_loop {p : Program} {l : Launch} {e : Env} {s : State} {m : MethodId} {below : List Frame} {meth : Method} {c : Code} {D : va_G} {cI cS : ClassId} {a bb : Nat → Nat} {b L : Nat} {xs : Nat → Int32} (X : lC p s m c D cI cS a bb b L xs) (hr : meth.sig.returnType = ret) (hlk : meth.locks = false) (hL : L ≤ 3072) (s0 : Sim_circuit) (s1 : Sim_ofCell) (s2 : Sim_ofNet) (s3 : Sim_ofSide) (s4 : Sim_bulk) (s5 : Sim_bound) (s6 : Sim_move) (s7 : Sim_pass) (s8 : Sim_tries) (s9 : Sim_settle) (s10 : Sim_day) (s11 : Sim_least) (s12 : Sim_apart) (s13 : Sim_closest) (s14 : Sim_rack) (s15 : Sim_stow) (s16 : Sim_stowed) (s17 : Sim_reading) (s18 : Sim_back) (s19 : Sim_kinds) (s20 : Sim_bulks) (s21 : Sim_odds) (s22 : Sim_sheet) (s23 : Sim_lose) (s24 : Sim_put) (s25 : Sim_cell) (s26 : Sim_copy) (s27 : Sim_tell) (s28 : Sim_probe) (s29 : Sim_as) (s30 : Sim_trace) (s31 : Sim_fault) (s32 : Sim_many) :
    ∀ (n i : Nat) (x3 : Int32), i ≤ L + 6 → L + 7 ≤ i + 6 * n → x3 = nI i → ∀ (v : kV) (ar : kR) (mv : kV) (mar : kR) (H : Heap) (locs : List Loc) (ls : Array Slot), Rel v ar mv mar → va_P D vwCl (xW cI cS a v ar) H → va_P D vwCl (mW cI bb mv mar) H → va_S (lA s) s.heap H locs → lv_has ls 4 [(0, .ref b), (1, .ref (a 0)), (2, .ref (bb 0)), (3, .int x3)] → W p l e room_1 s m #[Value.ref b] below meth c H locs 44 801 (lw_Z below #[Value.ref b] s) (F0 m 18 ls []) := by
  have hx := X.1.1.1
  have hb := X.1.1.2.1
  have hX := X.2.2.2.2.2.2.1
  have hbl := X.2.2.2.2.2.2.2
  have hbA : ¬ lA s b := Nat.not_le.mpr hbl
  intro n
  induction n with
  | zero => intro i x3 h1 h2; exact absurd h2 (by omega)
  | succ n ih =>
    intro i x3 hi hin ex v ar mv mar H locs ls hR hP hQ hS hl
    refine lv_iload_n hx hb dL_law_18 rfl (lv_at hl 3 rfl) ?_
    refine lv_aload_n hx hb dL_law_19 rfl (lv_at hl 0 rfl) ?_
    refine va_slen hx hb hX hbl hbA hS dL_law_20 ?_
    refine lv_bipush (v := (6 : Int32)) hx hb dL_law_21 (by decide) ?_
    refine lv_isub hx hb dL_law_23 ?_
    refine lv_icmp_gt (tgt := 1207) hx hb dL_law_24 (by decide) (fun c1 => ?_) (fun c1 => ?_)
    · refine lv_iconst (v := 1) hx hb dL_law_1207 (by decide) ?_
      refine va_forget (fun q hq => hS.2.2 q hq) ?_
      refine W.widen (k := 600000) (n := 7302250) (Nat.le_of_ble_eq_true rfl) (Nat.le_of_ble_eq_true rfl) ?_
      exact lw_ret hx hb hr hlk dL_law_1208
    · have hlt : i + 6 ≤ L := by
        by_cases hz : i + 6 ≤ L
        · exact hz
        · refine absurd ?_ c1
          rw [Int32.lt_iff_toInt_lt, ex, nI_toInt (by omega)]
          have h9 : (Int32.ofNat L - 6 : Int32).toInt = (L : Int) - (6 : Nat) := pk_sub_toInt (a := L) (b := 6) (by omega) (by omega)
          rw [h9]
          omega
      have hv : ∀ k : Nat, k < 6 → vp_in (x3 + nI k) L := fun k hk => by rw [ex, nI_add]; exact vp_in_nI (by omega) (by omega)
      have h0 : vp_in x3 L := by rw [ex]; exact vp_in_nI (by omega) (by omega)
      have h1 : vp_in (x3 + (1 : Int32)) L := hv 1 (by omega)
      have h2 : vp_in (x3 + (2 : Int32)) L := hv 2 (by omega)
      have h3 : vp_in (x3 + (3 : Int32)) L := hv 3 (by omega)
      have h4 : vp_in (x3 + (4 : Int32)) L := hv 4 (by omega)
      have h5 : vp_in (x3 + (5 : Int32)) L := hv 5 (by omega)
      have kk : ∀ (v2 : kV) (ar2 : kR) (mv2 : kV) (mar2 : kR) (H1 : Heap) (locs1 : List Loc), Rel v2 ar2 mv2 mar2 → va_P D vwCl (xW cI cS a v2 ar2) H1 → va_P D vwCl (mW cI bb mv2 mar2) H1 → va_S (lA s) s.heap H1 locs1 → W p l e room_1 s m #[Value.ref b] below meth c H1 locs1 44 801 (lw_Z below #[Value.ref b] s) (F0 m 1201 ls []) := by
        intro v2 ar2 mv2 mar2 H1 locs1 hR hP hQ hS
        refine lv_iinc (v := (x3 + (6 : Int32))) (lv' := [(3, .int (x3 + (6 : Int32))), (0, .ref b), (1, .ref (a 0)), (2, .ref (bb 0))]) hx hb dL_law_1201 hl (k := 3) rfl rfl (by decide) rfl (fun ls hl => ?_)
        refine lv_goto (tgt := 18) hx hb dL_law_1204 (by decide) ?_
        exact ih (i + 6) _ (by omega) (by omega) (by rw [ex]; exact nI_add i 6) v2 ar2 mv2 mar2 H1 locs1 ls hR hP hQ hS (lv_sub hl [1, 2, 3, 0] rfl)
      refine lv_aload_n hx hb dL_law_27 rfl (lv_at hl 0 rfl) ?_
      refine lv_iload_n hx hb dL_law_28 rfl (lv_at hl 3 rfl) ?_
      refine va_sld hx hb hX hbl hbA hS h0 dL_law_29 ?_
      refine lv_bipush (v := (63 : Int32)) hx hb dL_law_30 (by decide) ?_
      refine lv_iand hx hb dL_law_32 ?_
      refine lv_topi (fun w ew => ?_)
      by_cases c0 : w = (0 : Int32)
      · refine lv_tableIn (tgt := 180) (off := (147 : Int)) hx hb dL_law_33 (by rw [c0]; decide) (by rw [c0]; decide) (by rw [c0]; decide) (by decide) ?_
        exact lc_0 X s0 hR h1 h2 h3 h4 h5 hP hQ hS hl kk
      by_cases c1 : w = (1 : Int32)
      · refine lv_tableIn (tgt := 233) (off := (200 : Int)) hx hb dL_law_33 (by rw [c1]; decide) (by rw [c1]; decide) (by rw [c1]; decide) (by decide) ?_
        exact lc_1 X s1 hR h1 h2 h3 h4 h5 hP hQ hS hl kk
      by_cases c2 : w = (2 : Int32)
      · refine lv_tableIn (tgt := 266) (off := (233 : Int)) hx hb dL_law_33 (by rw [c2]; decide) (by rw [c2]; decide) (by rw [c2]; decide) (by decide) ?_
        exact lc_2 X s2 hR h1 h2 h3 h4 h5 hP hQ hS hl kk
      by_cases c3 : w = (3 : Int32)
      · refine lv_tableIn (tgt := 299) (off := (266 : Int)) hx hb dL_law_33 (by rw [c3]; decide) (by rw [c3]; decide) (by rw [c3]; decide) (by decide) ?_
        exact lc_3 X s3 hR h1 h2 h3 h4 h5 hP hQ hS hl kk
      by_cases c4 : w = (4 : Int32)
      · refine lv_tableIn (tgt := 332) (off := (299 : Int)) hx hb dL_law_33 (by rw [c4]; decide) (by rw [c4]; decide) (by rw [c4]; decide) (by decide) ?_
        exact lc_4 X s4 hR h1 h2 h3 h4 h5 hP hQ hS hl kk
      by_cases c5 : w = (5 : Int32)
      · refine lv_tableIn (tgt := 365) (off := (332 : Int)) hx hb dL_law_33 (by rw [c5]; decide) (by rw [c5]; decide) (by rw [c5]; decide) (by decide) ?_
        exact lc_5 X s5 hR h1 h2 h3 h4 h5 hP hQ hS hl kk
      by_cases c6 : w = (6 : Int32)
      · refine lv_tableIn (tgt := 388) (off := (355 : Int)) hx hb dL_law_33 (by rw [c6]; decide) (by rw [c6]; decide) (by rw [c6]; decide) (by decide) ?_
        exact lc_6 X s6 hR h1 h2 h3 h4 h5 hP hQ hS hl kk
      by_cases c7 : w = (7 : Int32)
      · refine lv_tableIn (tgt := 411) (off := (378 : Int)) hx hb dL_law_33 (by rw [c7]; decide) (by rw [c7]; decide) (by rw [c7]; decide) (by decide) ?_
        exact lc_7 X s7 hR h1 h2 h3 h4 h5 hP hQ hS hl kk
      by_cases c8 : w = (8 : Int32)
      · refine lv_tableIn (tgt := 434) (off := (401 : Int)) hx hb dL_law_33 (by rw [c8]; decide) (by rw [c8]; decide) (by rw [c8]; decide) (by decide) ?_
        exact lc_8 X s8 hR h1 h2 h3 h4 h5 hP hQ hS hl kk
      by_cases c9 : w = (9 : Int32)
      · refine lv_tableIn (tgt := 467) (off := (434 : Int)) hx hb dL_law_33 (by rw [c9]; decide) (by rw [c9]; decide) (by rw [c9]; decide) (by decide) ?_
        exact lc_9 X s9 hR h1 h2 h3 h4 h5 hP hQ hS hl kk
      by_cases c10 : w = (10 : Int32)
      · refine lv_tableIn (tgt := 490) (off := (457 : Int)) hx hb dL_law_33 (by rw [c10]; decide) (by rw [c10]; decide) (by rw [c10]; decide) (by decide) ?_
        exact lc_10 X s10 hR h1 h2 h3 h4 h5 hP hQ hS hl kk
      by_cases c11 : w = (11 : Int32)
      · refine lv_tableIn (tgt := 553) (off := (520 : Int)) hx hb dL_law_33 (by rw [c11]; decide) (by rw [c11]; decide) (by rw [c11]; decide) (by decide) ?_
        exact lc_11 X s11 hR h1 h2 h3 h4 h5 hP hQ hS hl kk
      by_cases c12 : w = (12 : Int32)
      · refine lv_tableIn (tgt := 576) (off := (543 : Int)) hx hb dL_law_33 (by rw [c12]; decide) (by rw [c12]; decide) (by rw [c12]; decide) (by decide) ?_
        exact lc_12 X s12 hR h1 h2 h3 h4 h5 hP hQ hS hl kk
      by_cases c13 : w = (13 : Int32)
      · refine lv_tableIn (tgt := 609) (off := (576 : Int)) hx hb dL_law_33 (by rw [c13]; decide) (by rw [c13]; decide) (by rw [c13]; decide) (by decide) ?_
        exact lc_13 X s13 hR h1 h2 h3 h4 h5 hP hQ hS hl kk
      by_cases c14 : w = (14 : Int32)
      · refine lv_tableIn (tgt := 632) (off := (599 : Int)) hx hb dL_law_33 (by rw [c14]; decide) (by rw [c14]; decide) (by rw [c14]; decide) (by decide) ?_
        exact lc_14 X s14 hR h1 h2 h3 h4 h5 hP hQ hS hl kk
      by_cases c15 : w = (15 : Int32)
      · refine lv_tableIn (tgt := 665) (off := (632 : Int)) hx hb dL_law_33 (by rw [c15]; decide) (by rw [c15]; decide) (by rw [c15]; decide) (by decide) ?_
        exact lc_15 X s15 hR h1 h2 h3 h4 h5 hP hQ hS hl kk
      by_cases c16 : w = (16 : Int32)
      · refine lv_tableIn (tgt := 698) (off := (665 : Int)) hx hb dL_law_33 (by rw [c16]; decide) (by rw [c16]; decide) (by rw [c16]; decide) (by decide) ?_
        exact lc_16 X s16 hR h1 h2 h3 h4 h5 hP hQ hS hl kk
      by_cases c17 : w = (17 : Int32)
      · refine lv_tableIn (tgt := 721) (off := (688 : Int)) hx hb dL_law_33 (by rw [c17]; decide) (by rw [c17]; decide) (by rw [c17]; decide) (by decide) ?_
        exact lc_17 X s17 hR h1 h2 h3 h4 h5 hP hQ hS hl kk
      by_cases c18 : w = (18 : Int32)
      · refine lv_tableIn (tgt := 754) (off := (721 : Int)) hx hb dL_law_33 (by rw [c18]; decide) (by rw [c18]; decide) (by rw [c18]; decide) (by decide) ?_
        exact lc_18 X s18 hR h1 h2 h3 h4 h5 hP hQ hS hl kk
      by_cases c19 : w = (19 : Int32)
      · refine lv_tableIn (tgt := 777) (off := (744 : Int)) hx hb dL_law_33 (by rw [c19]; decide) (by rw [c19]; decide) (by rw [c19]; decide) (by decide) ?_
        exact lc_19 X s19 hR h1 h2 h3 h4 h5 hP hQ hS hl kk
      by_cases c20 : w = (20 : Int32)
      · refine lv_tableIn (tgt := 800) (off := (767 : Int)) hx hb dL_law_33 (by rw [c20]; decide) (by rw [c20]; decide) (by rw [c20]; decide) (by decide) ?_
        exact lc_20 X s20 hR h1 h2 h3 h4 h5 hP hQ hS hl kk
      by_cases c21 : w = (21 : Int32)
      · refine lv_tableIn (tgt := 823) (off := (790 : Int)) hx hb dL_law_33 (by rw [c21]; decide) (by rw [c21]; decide) (by rw [c21]; decide) (by decide) ?_
        exact lc_21 X s21 hR h1 h2 h3 h4 h5 hP hQ hS hl kk
      by_cases c22 : w = (22 : Int32)
      · refine lv_tableIn (tgt := 857) (off := (824 : Int)) hx hb dL_law_33 (by rw [c22]; decide) (by rw [c22]; decide) (by rw [c22]; decide) (by decide) ?_
        exact lc_22 X s22 hR h1 h2 h3 h4 h5 hP hQ hS hl kk
      by_cases c23 : w = (23 : Int32)
      · refine lv_tableIn (tgt := 900) (off := (867 : Int)) hx hb dL_law_33 (by rw [c23]; decide) (by rw [c23]; decide) (by rw [c23]; decide) (by decide) ?_
        exact lc_23 X s23 hR h1 h2 h3 h4 h5 hP hQ hS hl kk
      by_cases c24 : w = (24 : Int32)
      · refine lv_tableIn (tgt := 923) (off := (890 : Int)) hx hb dL_law_33 (by rw [c24]; decide) (by rw [c24]; decide) (by rw [c24]; decide) (by decide) ?_
        exact lc_24 X s24 hR h1 h2 h3 h4 h5 hP hQ hS hl kk
      by_cases c25 : w = (25 : Int32)
      · refine lv_tableIn (tgt := 966) (off := (933 : Int)) hx hb dL_law_33 (by rw [c25]; decide) (by rw [c25]; decide) (by rw [c25]; decide) (by decide) ?_
        exact lc_25 X s25 hR h1 h2 h3 h4 h5 hP hQ hS hl kk
      by_cases c26 : w = (26 : Int32)
      · refine lv_tableIn (tgt := 1010) (off := (977 : Int)) hx hb dL_law_33 (by rw [c26]; decide) (by rw [c26]; decide) (by rw [c26]; decide) (by decide) ?_
        exact lc_26 X s26 hR h1 h2 h3 h4 h5 hP hQ hS hl kk
      by_cases c27 : w = (27 : Int32)
      · refine lv_tableIn (tgt := 1073) (off := (1040 : Int)) hx hb dL_law_33 (by rw [c27]; decide) (by rw [c27]; decide) (by rw [c27]; decide) (by decide) ?_
        exact lc_27 X s27 hR h1 h2 h3 h4 h5 hP hQ hS hl kk
      by_cases c28 : w = (28 : Int32)
      · refine lv_tableIn (tgt := 1096) (off := (1063 : Int)) hx hb dL_law_33 (by rw [c28]; decide) (by rw [c28]; decide) (by rw [c28]; decide) (by decide) ?_
        exact lc_28 X s28 hR h1 h2 h3 h4 h5 hP hQ hS hl kk
      by_cases c29 : w = (29 : Int32)
      · refine lv_tableIn (tgt := 1119) (off := (1086 : Int)) hx hb dL_law_33 (by rw [c29]; decide) (by rw [c29]; decide) (by rw [c29]; decide) (by decide) ?_
        exact lc_29 X s29 hR h1 h2 h3 h4 h5 hP hQ hS hl kk
      by_cases c30 : w = (30 : Int32)
      · refine lv_tableIn (tgt := 1152) (off := (1119 : Int)) hx hb dL_law_33 (by rw [c30]; decide) (by rw [c30]; decide) (by rw [c30]; decide) (by decide) ?_
        exact lc_30 X s30 hR h1 h2 h3 h4 h5 hP hQ hS hl kk
      by_cases c31 : w = (31 : Int32)
      · refine lv_tableIn (tgt := 1165) (off := (1132 : Int)) hx hb dL_law_33 (by rw [c31]; decide) (by rw [c31]; decide) (by rw [c31]; decide) (by decide) ?_
        exact lc_31 X s31 hR h1 h2 h3 h4 h5 hP hQ hS hl kk
      by_cases c32 : w = (32 : Int32)
      · refine lv_tableIn (tgt := 1178) (off := (1145 : Int)) hx hb dL_law_33 (by rw [c32]; decide) (by rw [c32]; decide) (by rw [c32]; decide) (by decide) ?_
        exact lc_32 X s32 hR h1 h2 h3 h4 h5 hP hQ hS hl kk
      refine lv_tableOut (tgt := 1201) hx hb dL_law_33 (kswO 33 (by decide) (fun k hk => match k, hk with | 0, _ => lv_neT c0 (by decide) | 1, _ => lv_neT c1 (by decide) | 2, _ => lv_neT c2 (by decide) | 3, _ => lv_neT c3 (by decide) | 4, _ => lv_neT c4 (by decide) | 5, _ => lv_neT c5 (by decide) | 6, _ => lv_neT c6 (by decide) | 7, _ => lv_neT c7 (by decide) | 8, _ => lv_neT c8 (by decide) | 9, _ => lv_neT c9 (by decide) | 10, _ => lv_neT c10 (by decide) | 11, _ => lv_neT c11 (by decide) | 12, _ => lv_neT c12 (by decide) | 13, _ => lv_neT c13 (by decide) | 14, _ => lv_neT c14 (by decide) | 15, _ => lv_neT c15 (by decide) | 16, _ => lv_neT c16 (by decide) | 17, _ => lv_neT c17 (by decide) | 18, _ => lv_neT c18 (by decide) | 19, _ => lv_neT c19 (by decide) | 20, _ => lv_neT c20 (by decide) | 21, _ => lv_neT c21 (by decide) | 22, _ => lv_neT c22 (by decide) | 23, _ => lv_neT c23 (by decide) | 24, _ => lv_neT c24 (by decide) | 25, _ => lv_neT c25 (by decide) | 26, _ => lv_neT c26 (by decide) | 27, _ => lv_neT c27 (by decide) | 28, _ => lv_neT c28 (by decide) | 29, _ => lv_neT c29 (by decide) | 30, _ => lv_neT c30 (by decide) | 31, _ => lv_neT c31 (by decide) | 32, _ => lv_neT c32 (by decide) | n + 33, hk => absurd hk (by omega))) (by decide) ?_
      exact kk v ar mv mar H locs hR hP hQ hS
