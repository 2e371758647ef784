set_option maxHeartbeats 4000000 in
set_option maxRecDepth 100000 in
theorem cX1_run_c {l : Launch} {D : va_G} {cI cS : ClassId} {a : Nat → Nat} (hap : kAp a 29) {h : Nat} (hh : h < 2) {v : kV} {ar : kR} {p2 : Int32} {v2 : kV} {ar2 : kR} (hf : fX1_run h v ar p2 = some (v2, ar2)) : kMet l D cI cS (xW cI cS a) (kA a 29) yX1_run cX1_run 8 none 4 97 [.ref (a 5), .ref (a (2+h)), .int p2] v ar none v2 ar2 := by
  refine kstart (by decide) (Nat.le_of_ble_eq_true rfl) ?_
  intro p e s m args below meth c ls C0 hr hlk hl hP hS
  have C0 : kC p s m c args cX1_run 8 RX1 D cI cS := C0
  have hx := C0.1.1
  have hb := C0.1.2.1
  have hl : lv_has ls 8 [(0, .ref (a 5)), (1, .ref (a (2+h))), (2, .int p2)] := hl
  have hB126 : ∀ (x5 : Int32) (v : kV) (ar : kR) (H : Heap) (locs : List Loc) (ls : Array Slot), fX1_run_126 h p2 x5 v ar = some (v2, ar2) → va_P D vwCl (xW cI cS a v ar) H → va_S (kA a 29) s.heap H locs → lv_has ls 8 [(1, .ref (a (2+h))), (5, .int x5)] → kGo p l e 4 97 s m args below meth c D (xW cI cS a) (kA a 29) none v2 ar2 H locs (F0 m 126 ls []) := by
    intro  x5 v ar H locs ls hf hP hS hl
    unfold fX1_run_126 at hf
    refine lv_aload_n hx hb dX1_run_126 rfl (lv_at hl 0 rfl) ?_
    refine lv_iload hx hb dX1_run_127 (lv_at hl 1 rfl) ?_
    refine xp_H_2 C0 hap hh hP hS q_37 dX1_run_129 (fun H locs hP hS => ?_)
    obtain ⟨rfl, rfl⟩ := kinj2 hf
    exact kret_v C0 hr hlk hP hS dX1_run_132
  have hB120 : ∀ (rec30 : Int32 → Int32 → Int32 → Int32 → kV → kR → Option (kV × kR)) (hrec30 : ∀ (x3 : Int32) (x4 : Int32) (x5 : Int32) (x6 : Int32) (v : kV) (ar : kR) (H : Heap) (locs : List Loc) (ls : Array Slot), rec30 x3 x4 x5 x6 v ar = some (v2, ar2) → va_P D vwCl (xW cI cS a v ar) H → va_S (kA a 29) s.heap H locs → lv_has ls 8 [(0, .ref (a 5)), (1, .ref (a (2+h))), (2, .int p2), (3, .int x3), (4, .int x4), (5, .int x5), (6, .int x6)] → kGo p l e 4 97 s m args below meth c D (xW cI cS a) (kA a 29) none v2 ar2 H locs (F0 m 30 ls [])) , ∀ (x3 : Int32) (x4 : Int32) (x5 : Int32) (x6 : Int32) (v : kV) (ar : kR) (H : Heap) (locs : List Loc) (ls : Array Slot), fX1_run_120 h p2 rec30 x3 x4 x5 x6 v ar = some (v2, ar2) → va_P D vwCl (xW cI cS a v ar) H → va_S (kA a 29) s.heap H locs → lv_has ls 8 [(0, .ref (a 5)), (1, .ref (a (2+h))), (2, .int p2), (3, .int x3), (4, .int x4), (5, .int x5), (6, .int x6)] → kGo p l e 4 97 s m args below meth c D (xW cI cS a) (kA a 29) none v2 ar2 H locs (F0 m 120 ls []) := by
    intro rec30 hrec30 x3 x4 x5 x6 v ar H locs ls hf hP hS hl
    unfold fX1_run_120 at hf
    refine lv_iinc (v := (x6 + (1 : Int32))) (lv' := [(6, .int (x6 + (1 : Int32))), (0, .ref (a 5)), (1, .ref (a (2+h))), (2, .int p2), (3, .int x3), (4, .int x4), (5, .int x5)]) hx hb dX1_run_120 hl (k := 6) rfl rfl (by decide) rfl (fun ls hl => ?_)
    refine lv_goto (tgt := 30) hx hb dX1_run_123 (by decide) ?_
    exact hrec30 _ _ _ _ _ _ _ _ _ hf hP hS (lv_sub hl [1, 2, 3, 4, 5, 6, 0] rfl)
  have hB30 : ∀ (n : Nat), ∀ (x3 : Int32) (x4 : Int32) (x5 : Int32) (x6 : Int32) (v : kV) (ar : kR) (H : Heap) (locs : List Loc) (ls : Array Slot), fX1_run_30 h p2 n x3 x4 x5 x6 v ar = some (v2, ar2) → va_P D vwCl (xW cI cS a v ar) H → va_S (kA a 29) s.heap H locs → lv_has ls 8 [(0, .ref (a 5)), (1, .ref (a (2+h))), (2, .int p2), (3, .int x3), (4, .int x4), (5, .int x5), (6, .int x6)] → kGo p l e 4 97 s m args below meth c D (xW cI cS a) (kA a 29) none v2 ar2 H locs (F0 m 30 ls []) := by
    intro  n
    induction n with
    | zero =>
      intro x3 x4 x5 x6 v ar H locs ls hf
      have hf : (none : Option (kV × kR)) = some (v2, ar2) := hf
      cases hf
    | succ n ih =>
      intro x3 x4 x5 x6 v ar H locs ls hf hP hS hl
      have hf : fX1_run_30b h p2 (fX1_run_30 h p2 n) x3 x4 x5 x6 v ar = some (v2, ar2) := hf
      unfold fX1_run_30b at hf
      refine lv_iload hx hb dX1_run_30 (lv_at hl 6 rfl) ?_
      refine lv_aload_n hx hb dX1_run_32 rfl (lv_at hl 1 rfl) ?_
      refine xg_H_0 C0 hh hP q_30 dX1_run_33 ?_
      refine lv_icmp_ge (tgt := 126) hx hb dX1_run_36 (by decide) (fun c3 => ?_) (fun c3 => ?_)
      · have hf := kif_t c3 hf
        exact hB126 _ _ _ _ _ _ hf hP hS (lv_sub hl [1, 5] rfl)
      · have hf := kif_f c3 hf
        refine lv_aload_n hx hb dX1_run_39 rfl (lv_at hl 1 rfl) ?_
        refine lv_iload_n hx hb dX1_run_40 rfl (lv_at hl 2 rfl) ?_
        refine lv_iload_n hx hb dX1_run_41 rfl (lv_at hl 3 rfl) ?_
        obtain ⟨r5, e4, hf⟩ := kb1_s hf
        refine kcallT (As := [.ref (a (2+h)), .int p2, .int x3]) (rest := []) C0 (cX1_bestCell_c hap hh e4) q_382 kw_X1_bestCell hP hS ⟨Nat.le_of_ble_eq_true rfl, Nat.le_of_ble_eq_true rfl⟩ rfl hl.1 rfl (Nat.le_of_ble_eq_true rfl) dX1_run_42 (fun H locs hP hS => ?_)
        refine lv_istore (lv' := [(7, .int r5), (0, .ref (a 5)), (1, .ref (a (2+h))), (2, .int p2), (3, .int x3), (4, .int x4), (5, .int x5), (6, .int x6)]) hx hb dX1_run_45 hl (by decide) rfl (fun ls hl => ?_)
        refine lv_iload hx hb dX1_run_47 (lv_at hl 0 rfl) ?_
        refine lv_bipush (v := (-9 : Int32)) hx hb dX1_run_49 (by decide) ?_
        refine lv_icmp_ne (tgt := 57) hx hb dX1_run_51 (by decide) (fun c6 => ?_) (fun c6 => ?_)
        · have hf := kif_f c6 hf
          refine lv_aload_n hx hb dX1_run_57 rfl (lv_at hl 2 rfl) ?_
          refine lv_iload hx hb dX1_run_58 (lv_at hl 0 rfl) ?_
          obtain ⟨v9, ar10, e7, hf⟩ := kb2_s hf
          refine kcallV (As := [.int r5]) (rest := []) C0 (cX0_flip_c hap hh e7) q_395 kw_X0_flip (xv_H hh C0.2 hP) hP hS ⟨Nat.le_of_ble_eq_true rfl, Nat.le_of_ble_eq_true rfl⟩ rfl hl.1 rfl (Nat.le_of_ble_eq_true rfl) dX1_run_60 (fun H locs hP hS => ?_)
          refine lv_iload_n hx hb dX1_run_63 rfl (lv_at hl 4 rfl) ?_
          refine lv_iconst (v := (1 : Int32)) hx hb dX1_run_64 (by decide) ?_
          refine lv_iload hx hb dX1_run_65 (lv_at hl 0 rfl) ?_
          refine lv_ishl hx hb dX1_run_67 ?_
          refine lv_ior hx hb dX1_run_68 ?_
          refine lv_istore_n (lv' := [(3, .int (x3 ||| ((1 : Int32) <<< (r5 &&& 31)))), (7, .int r5), (0, .ref (a 5)), (1, .ref (a (2+h))), (2, .int p2), (4, .int x4), (5, .int x5), (6, .int x6)]) hx hb dX1_run_69 rfl hl (by decide) rfl (fun ls hl => ?_)
          refine lv_aload_n hx hb dX1_run_70 rfl (lv_at hl 2 rfl) ?_
          refine xg_P_0 C0 hP q_98 dX1_run_71 ?_
          refine lv_aload_n hx hb dX1_run_74 rfl (lv_at hl 2 rfl) ?_
          refine xg_P_1 C0 hP q_99 dX1_run_75 ?_
          refine lv_iload hx hb dX1_run_78 (lv_at hl 1 rfl) ?_
          obtain ⟨g11, hf⟩ := kgd hf
          refine xt_moved C0 hap hP hS g11 dX1_run_80 (fun H locs hP hS => ?_)
          refine lv_aload_n hx hb dX1_run_81 rfl (lv_at hl 2 rfl) ?_
          refine lv_dup hx hb dX1_run_82 rfl ?_
          refine xg_P_1 C0 hP q_99 dX1_run_83 ?_
          refine lv_iconst (v := (1 : Int32)) hx hb dX1_run_86 (by decide) ?_
          refine lv_iadd hx hb dX1_run_87 ?_
          refine xp_P_1 C0 hap hP hS q_99 dX1_run_88 (fun H locs hP hS => ?_)
          refine lv_aload_n hx hb dX1_run_91 rfl (lv_at hl 3 rfl) ?_
          obtain ⟨r13, e12, hf⟩ := kb1_s hf
          refine kcallV (As := []) (rest := []) C0 (cX0_cuts_c hap hh e12) q_381 kw_X0_cuts (xv_H hh C0.2 hP) hP hS ⟨Nat.le_of_ble_eq_true rfl, Nat.le_of_ble_eq_true rfl⟩ rfl hl.1 rfl (Nat.le_of_ble_eq_true rfl) dX1_run_92 (fun H locs hP hS => ?_)
          refine lv_iload hx hb dX1_run_95 (lv_at hl 5 rfl) ?_
          refine lv_icmp_ge (tgt := 120) hx hb dX1_run_97 (by decide) (fun c14 => ?_) (fun c14 => ?_)
          · have hf := kif_t c14 hf
            exact hB120 _ ih _ _ _ _ _ _ _ _ _ hf hP hS (lv_sub hl [2, 3, 4, 0, 5, 6, 7] rfl)
          · have hf := kif_f c14 hf
            refine lv_aload_n hx hb dX1_run_100 rfl (lv_at hl 3 rfl) ?_
            obtain ⟨r16, e15, hf⟩ := kb1_s hf
            refine kcallV (As := []) (rest := []) C0 (cX0_cuts_c hap hh e15) q_381 kw_X0_cuts (xv_H hh C0.2 hP) hP hS ⟨Nat.le_of_ble_eq_true rfl, Nat.le_of_ble_eq_true rfl⟩ rfl hl.1 rfl (Nat.le_of_ble_eq_true rfl) dX1_run_101 (fun H locs hP hS => ?_)
            refine lv_istore (lv' := [(4, .int r16), (3, .int (x3 ||| ((1 : Int32) <<< (r5 &&& 31)))), (7, .int r5), (0, .ref (a 5)), (1, .ref (a (2+h))), (2, .int p2), (5, .int x5), (6, .int x6)]) hx hb dX1_run_104 hl (by decide) rfl (fun ls hl => ?_)
            refine lv_aload_n hx hb dX1_run_106 rfl (lv_at hl 4 rfl) ?_
            refine xg_H_2 C0 hh hP q_37 dX1_run_107 ?_
            refine lv_istore (lv' := [(5, .int ((upd v9 (14) ((v9 (14)) + (1 : Int32))) (2+5*h+2))), (4, .int r16), (3, .int (x3 ||| ((1 : Int32) <<< (r5 &&& 31)))), (7, .int r5), (0, .ref (a 5)), (1, .ref (a (2+h))), (2, .int p2), (6, .int x6)]) hx hb dX1_run_110 hl (by decide) rfl (fun ls hl => ?_)
            refine lv_aload_n hx hb dX1_run_112 rfl (lv_at hl 4 rfl) ?_
            refine lv_aload_n hx hb dX1_run_113 rfl (lv_at hl 4 rfl) ?_
            refine xg_P_1 C0 hP q_99 dX1_run_114 ?_
            refine xp_P_2 C0 hap hP hS q_101 dX1_run_117 (fun H locs hP hS => ?_)
            exact hB120 _ ih _ _ _ _ _ _ _ _ _ hf hP hS (lv_sub hl [4, 5, 6, 2, 1, 0, 7] rfl)
        · have hf := kif_t c6 hf
          refine lv_goto (tgt := 126) hx hb dX1_run_54 (by decide) ?_
          exact hB126 _ _ _ _ _ _ hf hP hS (lv_sub hl [2, 6] rfl)
  unfold fX1_run at hf
  refine lv_aload_n hx hb dX1_run_0 rfl (lv_at hl 0 rfl) ?_
  refine lv_iconst (v := (0 : Int32)) hx hb dX1_run_1 (by decide) ?_
  refine xp_P_1 C0 hap hP hS q_99 dX1_run_2 (fun H locs hP hS => ?_)
  refine lv_aload_n hx hb dX1_run_5 rfl (lv_at hl 0 rfl) ?_
  refine lv_iconst (v := (0 : Int32)) hx hb dX1_run_6 (by decide) ?_
  refine xp_P_2 C0 hap hP hS q_101 dX1_run_7 (fun H locs hP hS => ?_)
  refine lv_aload_n hx hb dX1_run_10 rfl (lv_at hl 1 rfl) ?_
  refine xg_H_3 C0 hh hP q_40 dX1_run_11 ?_
  refine lv_istore_n (lv' := [(3, .int ((upd (upd v (14) (0 : Int32)) (15) (0 : Int32)) (2+5*h+3))), (0, .ref (a 5)), (1, .ref (a (2+h))), (2, .int p2)]) hx hb dX1_run_14 rfl hl (by decide) rfl (fun ls hl => ?_)
  refine lv_aload_n hx hb dX1_run_15 rfl (lv_at hl 2 rfl) ?_
  obtain ⟨r2, e1, hf⟩ := kb1_s hf
  refine kcallV (As := []) (rest := []) C0 (cX0_cuts_c hap hh e1) q_381 kw_X0_cuts (xv_H hh C0.2 hP) hP hS ⟨Nat.le_of_ble_eq_true rfl, Nat.le_of_ble_eq_true rfl⟩ rfl hl.1 rfl (Nat.le_of_ble_eq_true rfl) dX1_run_16 (fun H locs hP hS => ?_)
  refine lv_istore (lv' := [(4, .int r2), (3, .int ((upd (upd v (14) (0 : Int32)) (15) (0 : Int32)) (2+5*h+3))), (0, .ref (a 5)), (1, .ref (a (2+h))), (2, .int p2)]) hx hb dX1_run_19 hl (by decide) rfl (fun ls hl => ?_)
  refine lv_aload_n hx hb dX1_run_21 rfl (lv_at hl 3 rfl) ?_
  refine xg_H_2 C0 hh hP q_37 dX1_run_22 ?_
  refine lv_istore (lv' := [(5, .int ((upd (upd v (14) (0 : Int32)) (15) (0 : Int32)) (2+5*h+2))), (4, .int r2), (3, .int ((upd (upd v (14) (0 : Int32)) (15) (0 : Int32)) (2+5*h+3))), (0, .ref (a 5)), (1, .ref (a (2+h))), (2, .int p2)]) hx hb dX1_run_25 hl (by decide) rfl (fun ls hl => ?_)
  refine lv_iconst (v := (0 : Int32)) hx hb dX1_run_27 (by decide) ?_
  refine lv_istore (lv' := [(6, .int (0 : Int32)), (5, .int ((upd (upd v (14) (0 : Int32)) (15) (0 : Int32)) (2+5*h+2))), (4, .int r2), (3, .int ((upd (upd v (14) (0 : Int32)) (15) (0 : Int32)) (2+5*h+3))), (0, .ref (a 5)), (1, .ref (a (2+h))), (2, .int p2)]) hx hb dX1_run_28 hl (by decide) rfl (fun ls hl => ?_)
  exact hB30 _ _ _ _ _ _ _ _ _ _ hf hP hS (lv_sub hl [4, 5, 6, 3, 2, 1, 0] rfl)
set_option maxHeartbeats 4000000 in
set_option maxRecDepth 100000 in
theorem cX6_pass_c {l : Launch} {D : va_G} {cI cS : ClassId} {a : Nat → Nat} (hap : kAp a 29) {v : kV} {ar : kR} {p1 : Int32} {r : Int32} {v2 : kV} {ar2 : kR} (hf : fX6_pass v ar p1 = some (r, v2, ar2)) : kMet l D cI cS (xW cI cS a) (kA a 29) yX6_pass cX6_pass 2 (some .int) 5 124 [.ref (a 0), .int p1] v ar (some (.int r)) v2 ar2 := by
  refine kstart (by decide) (Nat.le_of_ble_eq_true rfl) ?_
  intro p e s m args below meth c ls C0 hr hlk hl hP hS
  have C0 : kC p s m c args cX6_pass 2 RX6 D cI cS := C0
  have hx := C0.1.1
  have hb := C0.1.2.1
  have hl : lv_has ls 2 [(0, .ref (a 0)), (1, .int p1)] := hl
  unfold fX6_pass at hf
  refine lv_aload_n hx hb dX6_pass_0 rfl (lv_at hl 0 rfl) ?_
  obtain ⟨r2, e1, hf⟩ := kb1_s hf
  refine kcallV (As := []) (rest := []) C0 (cX6_noCircuit_c hap e1) q_330 kw_X6_noCircuit (xv_HC C0.2 hP) hP hS ⟨Nat.le_of_ble_eq_true rfl, Nat.le_of_ble_eq_true rfl⟩ rfl hl.1 rfl (Nat.le_of_ble_eq_true rfl) dX6_pass_1 (fun H locs hP hS => ?_)
  refine lv_if_eq (tgt := 10) hx hb dX6_pass_4 (by decide) (fun c3 => ?_) (fun c3 => ?_)
  · have hf := kif_t c3 hf
    refine lv_iload_n hx hb dX6_pass_10 rfl (lv_at hl 1 rfl) ?_
    obtain ⟨r5, e4, hf⟩ := kb1_s hf
    refine kcallT (As := [.int p1]) (rest := []) C0 (cX6_isManner_c hap e4) q_374 kw_X6_isManner hP hS ⟨Nat.le_of_ble_eq_true rfl, Nat.le_of_ble_eq_true rfl⟩ rfl hl.1 rfl (Nat.le_of_ble_eq_true rfl) dX6_pass_11 (fun H locs hP hS => ?_)
    refine lv_if_ne (tgt := 20) hx hb dX6_pass_14 (by decide) (fun c6 => ?_) (fun c6 => ?_)
    · have hf := kif_f c6 hf
      refine lv_aload_n hx hb dX6_pass_20 rfl (lv_at hl 0 rfl) ?_
      refine xg_HC_4 C0 hP q_173 dX6_pass_21 ?_
      refine lv_aload_n hx hb dX6_pass_24 rfl (lv_at hl 0 rfl) ?_
      refine xg_HC_1 C0 hP q_170 dX6_pass_25 ?_
      refine lv_iload_n hx hb dX6_pass_28 rfl (lv_at hl 1 rfl) ?_
      obtain ⟨v9, ar10, e7, hf⟩ := kb2_s hf
      refine kcallV (As := [.ref (a (2+0)), .int p1]) (rest := []) C0 (cX1_run_c hap k0_2 e7) q_377 kw_X1_run (xv_P C0.2 hP) hP hS ⟨Nat.le_of_ble_eq_true rfl, Nat.le_of_ble_eq_true rfl⟩ rfl hl.1 rfl (Nat.le_of_ble_eq_true rfl) dX6_pass_29 (fun H locs hP hS => ?_)
      refine lv_aload_n hx hb dX6_pass_32 rfl (lv_at hl 0 rfl) ?_
      refine xg_HC_4 C0 hP q_173 dX6_pass_33 ?_
      refine xg_P_2 C0 hP q_102 dX6_pass_36 ?_
      obtain ⟨rfl, rfl, rfl⟩ := kinj3 hf
      exact kret_i C0 hr hlk hP hS dX6_pass_39
    · have hf := kif_t c6 hf
      refine lv_bipush (v := (-2 : Int32)) hx hb dX6_pass_17 (by decide) ?_
      obtain ⟨rfl, rfl, rfl⟩ := kinj3 hf
      exact kret_i C0 hr hlk hP hS dX6_pass_19
  · have hf := kif_f c3 hf
    refine lv_bipush (v := (-3 : Int32)) hx hb dX6_pass_7 (by decide) ?_
    obtain ⟨rfl, rfl, rfl⟩ := kinj3 hf
    exact kret_i C0 hr hlk hP hS dX6_pass_9
set_option maxHeartbeats 4000000 in
set_option maxRecDepth 100000 in
theorem cX6_isAsked_c {l : Launch} {D : va_G} {cI cS : ClassId} {a : Nat → Nat} (hap : kAp a 29) {v : kV} {ar : kR} {p0 : Int32} {p1 : Int32} {r : Bool} (hf : fX6_isAsked p0 p1 = some r) : kMet l D cI cS (xW cI cS a) (kA a 29) yX6_isAsked cX6_isAsked 2 (some .boolean) 0 0 [.int p0, .int p1] v ar (some (.int (bI r))) v ar := by
  refine kstart (by decide) (Nat.le_of_ble_eq_true rfl) ?_
  intro p e s m args below meth c ls C0 hr hlk hl hP hS
  have C0 : kC p s m c args cX6_isAsked 2 RX6 D cI cS := C0
  have hx := C0.1.1
  have hb := C0.1.2.1
  have hl : lv_has ls 2 [(0, .int p0), (1, .int p1)] := hl
  have hB21 : ∀ (H : Heap) (locs : List Loc) (ls : Array Slot), fX6_isAsked_21 p0 p1 = some r → va_P D vwCl (xW cI cS a v ar) H → va_S (kA a 29) s.heap H locs → lv_has ls 2 [] → kGo p l e 0 0 s m args below meth c D (xW cI cS a) (kA a 29) (some (.int (bI r))) v ar H locs (F0 m 21 ls []) := by
    intro   H locs ls hf hP hS hl
    unfold fX6_isAsked_21 at hf
    refine lv_iconst (v := (1 : Int32)) hx hb dX6_isAsked_21 (by decide) ?_
    refine lv_goto (tgt := 26) hx hb dX6_isAsked_22 (by decide) ?_
    obtain rfl := Option.some.inj hf
    exact kret_z true rfl C0 hr hlk hP hS dX6_isAsked_26
  have hB9 : ∀ (H : Heap) (locs : List Loc) (ls : Array Slot), fX6_isAsked_9 p0 p1 = some r → va_P D vwCl (xW cI cS a v ar) H → va_S (kA a 29) s.heap H locs → lv_has ls 2 [(0, .int p0)] → kGo p l e 0 0 s m args below meth c D (xW cI cS a) (kA a 29) (some (.int (bI r))) v ar H locs (F0 m 9 ls []) := by
    intro   H locs ls hf hP hS hl
    unfold fX6_isAsked_9 at hf
    refine lv_iload_n hx hb dX6_isAsked_9 rfl (lv_at hl 0 rfl) ?_
    refine lv_bipush (v := (10 : Int32)) hx hb dX6_isAsked_10 (by decide) ?_
    refine lv_icmp_lt (tgt := 25) hx hb dX6_isAsked_12 (by decide) (fun c2 => ?_) (fun c2 => ?_)
    · have hf := kif_t c2 hf
      refine lv_iconst (v := (0 : Int32)) hx hb dX6_isAsked_25 (by decide) ?_
      obtain rfl := Option.some.inj hf
      exact kret_z false rfl C0 hr hlk hP hS dX6_isAsked_26
    · have hf := kif_f c2 hf
      refine lv_iload_n hx hb dX6_isAsked_15 rfl (lv_at hl 0 rfl) ?_
      refine lv_bipush (v := (17 : Int32)) hx hb dX6_isAsked_16 (by decide) ?_
      refine lv_icmp_ge (tgt := 25) hx hb dX6_isAsked_18 (by decide) (fun c3 => ?_) (fun c3 => ?_)
      · have hf := kif_t c3 hf
        refine lv_iconst (v := (0 : Int32)) hx hb dX6_isAsked_25 (by decide) ?_
        obtain rfl := Option.some.inj hf
        exact kret_z false rfl C0 hr hlk hP hS dX6_isAsked_26
      · have hf := kif_f c3 hf
        exact hB21 _ _ _ hf hP hS (lv_sub hl [] rfl)
  unfold fX6_isAsked at hf
  refine lv_iload_n hx hb dX6_isAsked_0 rfl (lv_at hl 0 rfl) ?_
  refine lv_if_lt (tgt := 9) hx hb dX6_isAsked_1 (by decide) (fun c1 => ?_) (fun c1 => ?_)
  · have hf := kif_t c1 hf
    exact hB9 _ _ _ hf hP hS (lv_sub hl [0] rfl)
  · have hf := kif_f c1 hf
    refine lv_iload_n hx hb dX6_isAsked_4 rfl (lv_at hl 0 rfl) ?_
    refine lv_iload_n hx hb dX6_isAsked_5 rfl (lv_at hl 1 rfl) ?_
    refine lv_icmp_le (tgt := 21) hx hb dX6_isAsked_6 (by decide) (fun c4 => ?_) (fun c4 => ?_)
    · have hf := kif_t c4 hf
      exact hB21 _ _ _ hf hP hS (lv_sub hl [] rfl)
    · have hf := kif_f c4 hf
      exact hB9 _ _ _ hf hP hS (lv_sub hl [0] rfl)
set_option maxHeartbeats 4000000 in
set_option maxRecDepth 100000 in
theorem cX1_movedAt_c {l : Launch} {D : va_G} {cI cS : ClassId} {a : Nat → Nat} (hap : kAp a 29) {v : kV} {ar : kR} {p1 : Int32} {r : Int32} (hf : fX1_movedAt v ar p1 = some r) : kMet l D cI cS (xW cI cS a) (kA a 29) yX1_movedAt cX1_movedAt 2 (some .int) 0 0 [.ref (a 5), .int p1] v ar (some (.int r)) v ar := by
  refine kstart (by decide) (Nat.le_of_ble_eq_true rfl) ?_
  intro p e s m args below meth c ls C0 hr hlk hl hP hS
  have C0 : kC p s m c args cX1_movedAt 2 RX1 D cI cS := C0
  have hx := C0.1.1
  have hb := C0.1.2.1
  have hl : lv_has ls 2 [(0, .ref (a 5)), (1, .int p1)] := hl
  unfold fX1_movedAt at hf
  refine lv_iload_n hx hb dX1_movedAt_0 rfl (lv_at hl 1 rfl) ?_
  refine lv_if_lt (tgt := 21) hx hb dX1_movedAt_1 (by decide) (fun c1 => ?_) (fun c1 => ?_)
  · have hf := kif_t c1 hf
    refine lv_bipush (v := (-9 : Int32)) hx hb dX1_movedAt_21 (by decide) ?_
    obtain rfl := Option.some.inj hf
    exact kret_i C0 hr hlk hP hS dX1_movedAt_23
  · have hf := kif_f c1 hf
    refine lv_iload_n hx hb dX1_movedAt_4 rfl (lv_at hl 1 rfl) ?_
    refine lv_aload_n hx hb dX1_movedAt_5 rfl (lv_at hl 0 rfl) ?_
    refine xg_P_1 C0 hP q_99 dX1_movedAt_6 ?_
    refine lv_icmp_ge (tgt := 21) hx hb dX1_movedAt_9 (by decide) (fun c2 => ?_) (fun c2 => ?_)
    · have hf := kif_t c2 hf
      refine lv_bipush (v := (-9 : Int32)) hx hb dX1_movedAt_21 (by decide) ?_
      obtain rfl := Option.some.inj hf
      exact kret_i C0 hr hlk hP hS dX1_movedAt_23
    · have hf := kif_f c2 hf
      refine lv_aload_n hx hb dX1_movedAt_12 rfl (lv_at hl 0 rfl) ?_
      refine xg_P_0 C0 hP q_98 dX1_movedAt_13 ?_
      refine lv_iload_n hx hb dX1_movedAt_16 rfl (lv_at hl 1 rfl) ?_
      obtain ⟨g3, hf⟩ := kgd hf
      refine xl_moved C0 hP g3 dX1_movedAt_17 ?_
      refine lv_goto (tgt := 23) hx hb dX1_movedAt_18 (by decide) ?_
      obtain rfl := Option.some.inj hf
      exact kret_i C0 hr hlk hP hS dX1_movedAt_23
set_option maxHeartbeats 4000000 in
set_option maxRecDepth 100000 in
theorem cX6_tries_c {l : Launch} {D : va_G} {cI cS : ClassId} {a : Nat → Nat} (hap : kAp a 29) {v : kV} {ar : kR} {p1 : Int32} {p2 : Int32} {r : Int32} {v2 : kV} {ar2 : kR} (hf : fX6_tries v ar p1 p2 = some (r, v2, ar2)) : kMet l D cI cS (xW cI cS a) (kA a 29) yX6_tries cX6_tries 3 (some .int) 5 124 [.ref (a 0), .int p1, .int p2] v ar (some (.int r)) v2 ar2 := by
  refine kstart (by decide) (Nat.le_of_ble_eq_true rfl) ?_
  intro p e s m args below meth c ls C0 hr hlk hl hP hS
  have C0 : kC p s m c args cX6_tries 3 RX6 D cI cS := C0
  have hx := C0.1.1
  have hb := C0.1.2.1
  have hl : lv_has ls 3 [(0, .ref (a 0)), (1, .int p1), (2, .int p2)] := hl
  unfold fX6_tries at hf
  refine lv_aload_n hx hb dX6_tries_0 rfl (lv_at hl 0 rfl) ?_
  obtain ⟨r2, e1, hf⟩ := kb1_s hf
  refine kcallV (As := []) (rest := []) C0 (cX6_noCircuit_c hap e1) q_330 kw_X6_noCircuit (xv_HC C0.2 hP) hP hS ⟨Nat.le_of_ble_eq_true rfl, Nat.le_of_ble_eq_true rfl⟩ rfl hl.1 rfl (Nat.le_of_ble_eq_true rfl) dX6_tries_1 (fun H locs hP hS => ?_)
  refine lv_if_eq (tgt := 10) hx hb dX6_tries_4 (by decide) (fun c3 => ?_) (fun c3 => ?_)
  · have hf := kif_t c3 hf
    refine lv_iload_n hx hb dX6_tries_10 rfl (lv_at hl 1 rfl) ?_
    obtain ⟨r5, e4, hf⟩ := kb1_s hf
    refine kcallT (As := [.int p1]) (rest := []) C0 (cX6_isManner_c hap e4) q_374 kw_X6_isManner hP hS ⟨Nat.le_of_ble_eq_true rfl, Nat.le_of_ble_eq_true rfl⟩ rfl hl.1 rfl (Nat.le_of_ble_eq_true rfl) dX6_tries_11 (fun H locs hP hS => ?_)
    refine lv_if_eq (tgt := 25) hx hb dX6_tries_14 (by decide) (fun c6 => ?_) (fun c6 => ?_)
    · have hf := kif_t c6 hf
      refine lv_bipush (v := (-2 : Int32)) hx hb dX6_tries_25 (by decide) ?_
      obtain ⟨rfl, rfl, rfl⟩ := kinj3 hf
      exact kret_i C0 hr hlk hP hS dX6_tries_27
    · have hf := kif_f c6 hf
      refine lv_iload_n hx hb dX6_tries_17 rfl (lv_at hl 2 rfl) ?_
      refine lv_iconst (v := (2 : Int32)) hx hb dX6_tries_18 (by decide) ?_
      obtain ⟨r8, e7, hf⟩ := kb1_s hf
      refine kcallT (As := [.int p2, .int (2 : Int32)]) (rest := []) C0 (cX6_isAsked_c hap e7) q_400 kw_X6_isAsked hP hS ⟨Nat.le_of_ble_eq_true rfl, Nat.le_of_ble_eq_true rfl⟩ rfl hl.1 rfl (Nat.le_of_ble_eq_true rfl) dX6_tries_19 (fun H locs hP hS => ?_)
      refine lv_if_ne (tgt := 28) hx hb dX6_tries_22 (by decide) (fun c9 => ?_) (fun c9 => ?_)
      · have hf := kif_f c9 hf
        refine lv_aload_n hx hb dX6_tries_28 rfl (lv_at hl 0 rfl) ?_
        refine xg_HC_2 C0 hP q_171 dX6_tries_29 ?_
        refine lv_aload_n hx hb dX6_tries_32 rfl (lv_at hl 0 rfl) ?_
        refine xg_HC_1 C0 hP q_170 dX6_tries_33 ?_
        obtain ⟨v12, ar13, e10, hf⟩ := kb2_s hf
        refine kcallV (As := [.ref (a (2+0))]) (rest := []) C0 (cX0_become_c hap k1_2 k0_2 e10) q_269 kw_X0_become (xv_H k1_2 C0.2 hP) hP hS ⟨Nat.le_of_ble_eq_true rfl, Nat.le_of_ble_eq_true rfl⟩ rfl hl.1 rfl (Nat.le_of_ble_eq_true rfl) dX6_tries_36 (fun H locs hP hS => ?_)
        refine lv_aload_n hx hb dX6_tries_39 rfl (lv_at hl 0 rfl) ?_
        refine xg_HC_4 C0 hP q_173 dX6_tries_40 ?_
        refine lv_aload_n hx hb dX6_tries_43 rfl (lv_at hl 0 rfl) ?_
        refine xg_HC_2 C0 hP q_171 dX6_tries_44 ?_
        refine lv_iload_n hx hb dX6_tries_47 rfl (lv_at hl 1 rfl) ?_
        obtain ⟨v16, ar17, e14, hf⟩ := kb2_s hf
        refine kcallV (As := [.ref (a (2+1)), .int p1]) (rest := []) C0 (cX1_run_c hap k1_2 e14) q_377 kw_X1_run (xv_P C0.2 hP) hP hS ⟨Nat.le_of_ble_eq_true rfl, Nat.le_of_ble_eq_true rfl⟩ rfl hl.1 rfl (Nat.le_of_ble_eq_true rfl) dX6_tries_48 (fun H locs hP hS => ?_)
        refine lv_iload_n hx hb dX6_tries_51 rfl (lv_at hl 2 rfl) ?_
        by_cases c18 : p2 = (0 : Int32)
        · have hf := kif_t c18 hf
          refine lv_tableIn (tgt := 80) (off := (28 : Int)) hx hb dX6_tries_52 (by rw [c18]; decide) (by rw [c18]; decide) (by rw [c18]; decide) (by decide) ?_
          refine lv_aload_n hx hb dX6_tries_80 rfl (lv_at hl 0 rfl) ?_
          refine xg_HC_4 C0 hP q_173 dX6_tries_81 ?_
          refine xg_P_1 C0 hP q_100 dX6_tries_84 ?_
          obtain ⟨rfl, rfl, rfl⟩ := kinj3 hf
          exact kret_i C0 hr hlk hP hS dX6_tries_87
        · have hf := kif_f c18 hf
          by_cases c19 : p2 = (1 : Int32)
          · have hf := kif_t c19 hf
            refine lv_tableIn (tgt := 88) (off := (36 : Int)) hx hb dX6_tries_52 (by rw [c19]; decide) (by rw [c19]; decide) (by rw [c19]; decide) (by decide) ?_
            refine lv_aload_n hx hb dX6_tries_88 rfl (lv_at hl 0 rfl) ?_
            refine xg_HC_4 C0 hP q_173 dX6_tries_89 ?_
            refine xg_P_2 C0 hP q_102 dX6_tries_92 ?_
            obtain ⟨rfl, rfl, rfl⟩ := kinj3 hf
            exact kret_i C0 hr hlk hP hS dX6_tries_95
          · have hf := kif_f c19 hf
            by_cases c20 : p2 = (2 : Int32)
            · have hf := kif_t c20 hf
              refine lv_tableIn (tgt := 96) (off := (44 : Int)) hx hb dX6_tries_52 (by rw [c20]; decide) (by rw [c20]; decide) (by rw [c20]; decide) (by decide) ?_
              refine lv_aload_n hx hb dX6_tries_96 rfl (lv_at hl 0 rfl) ?_
              refine xg_HC_2 C0 hP q_171 dX6_tries_97 ?_
              obtain ⟨r22, e21, hf⟩ := kb1_s hf
              refine kcallV (As := []) (rest := []) C0 (cX0_cuts_c hap k1_2 e21) q_366 kw_X0_cuts (xv_H k1_2 C0.2 hP) hP hS ⟨Nat.le_of_ble_eq_true rfl, Nat.le_of_ble_eq_true rfl⟩ rfl hl.1 rfl (Nat.le_of_ble_eq_true rfl) dX6_tries_100 (fun H locs hP hS => ?_)
              obtain ⟨rfl, rfl, rfl⟩ := kinj3 hf
              exact kret_i C0 hr hlk hP hS dX6_tries_103
            · have hf := kif_f c20 hf
              refine lv_tableOut (tgt := 104) hx hb dX6_tries_52 (kswO 3 (by decide) (fun k hk => match k, hk with | 0, _ => lv_neT c18 (by decide) | 1, _ => lv_neT c19 (by decide) | 2, _ => lv_neT c20 (by decide) | n + 3, hk => absurd hk (by omega))) (by decide) ?_
              refine lv_aload_n hx hb dX6_tries_104 rfl (lv_at hl 0 rfl) ?_
              refine xg_HC_4 C0 hP q_173 dX6_tries_105 ?_
              refine lv_iload_n hx hb dX6_tries_108 rfl (lv_at hl 2 rfl) ?_
              refine lv_bipush (v := (10 : Int32)) hx hb dX6_tries_109 (by decide) ?_
              refine lv_isub hx hb dX6_tries_111 ?_
              obtain ⟨r24, e23, hf⟩ := kb1_s hf
              refine kcallV (As := [.int (p2 - (10 : Int32))]) (rest := []) C0 (cX1_movedAt_c hap e23) q_403 kw_X1_movedAt (xv_P C0.2 hP) hP hS ⟨Nat.le_of_ble_eq_true rfl, Nat.le_of_ble_eq_true rfl⟩ rfl hl.1 rfl (Nat.le_of_ble_eq_true rfl) dX6_tries_112 (fun H locs hP hS => ?_)
              obtain ⟨rfl, rfl, rfl⟩ := kinj3 hf
              exact kret_i C0 hr hlk hP hS dX6_tries_115
      · have hf := kif_t c9 hf
        refine lv_bipush (v := (-2 : Int32)) hx hb dX6_tries_25 (by decide) ?_
        obtain ⟨rfl, rfl, rfl⟩ := kinj3 hf
        exact kret_i C0 hr hlk hP hS dX6_tries_27
  · have hf := kif_f c3 hf
    refine lv_bipush (v := (-3 : Int32)) hx hb dX6_tries_7 (by decide) ?_
    obtain ⟨rfl, rfl, rfl⟩ := kinj3 hf
    exact kret_i C0 hr hlk hP hS dX6_tries_9
set_option maxHeartbeats 4000000 in
set_option maxRecDepth 100000 in
theorem cX6_settle_c {l : Launch} {D : va_G} {cI cS : ClassId} {a : Nat → Nat} (hap : kAp a 29) {v : kV} {ar : kR} {p1 : Int32} {r : Int32} {v2 : kV} {ar2 : kR} (hf : fX6_settle v ar p1 = some (r, v2, ar2)) : kMet l D cI cS (xW cI cS a) (kA a 29) yX6_settle cX6_settle 5 (some .int) 5 124 [.ref (a 0), .int p1] v ar (some (.int r)) v2 ar2 := by
  refine kstart (by decide) (Nat.le_of_ble_eq_true rfl) ?_
  intro p e s m args below meth c ls C0 hr hlk hl hP hS
  have C0 : kC p s m c args cX6_settle 5 RX6 D cI cS := C0
  have hx := C0.1.1
  have hb := C0.1.2.1
  have hl : lv_has ls 5 [(0, .ref (a 0)), (1, .int p1)] := hl
  have hB75 : ∀ (rec24 : Int32 → Int32 → kV → kR → Option (Int32 × kV × kR)) (hrec24 : ∀ (x2 : Int32) (x3 : Int32) (v : kV) (ar : kR) (H : Heap) (locs : List Loc) (ls : Array Slot), rec24 x2 x3 v ar = some (r, v2, ar2) → va_P D vwCl (xW cI cS a v ar) H → va_S (kA a 29) s.heap H locs → lv_has ls 5 [(0, .ref (a 0)), (1, .int p1), (2, .int x2), (3, .int x3)] → kGo p l e 5 124 s m args below meth c D (xW cI cS a) (kA a 29) (some (.int r)) v2 ar2 H locs (F0 m 24 ls [])) , ∀ (x2 : Int32) (s0 : Int32) (v : kV) (ar : kR) (H : Heap) (locs : List Loc) (ls : Array Slot), fX6_settle_75 p1 rec24 x2 s0 v ar = some (r, v2, ar2) → va_P D vwCl (xW cI cS a v ar) H → va_S (kA a 29) s.heap H locs → lv_has ls 5 [(0, .ref (a 0)), (1, .int p1), (2, .int x2)] → kGo p l e 5 124 s m args below meth c D (xW cI cS a) (kA a 29) (some (.int r)) v2 ar2 H locs (F0 m 75 ls [.int s0]) := by
    intro rec24 hrec24 x2 s0 v ar H locs ls hf hP hS hl
    unfold fX6_settle_75 at hf
    refine lv_istore_n (lv' := [(3, .int s0), (0, .ref (a 0)), (1, .int p1), (2, .int x2)]) hx hb dX6_settle_75 rfl hl (by decide) rfl (fun ls hl => ?_)
    refine lv_goto (tgt := 24) hx hb dX6_settle_76 (by decide) ?_
    exact hrec24 _ _ _ _ _ _ _ hf hP hS (lv_sub hl [1, 2, 3, 0] rfl)
  have hB24 : ∀ (n : Nat), ∀ (x2 : Int32) (x3 : Int32) (v : kV) (ar : kR) (H : Heap) (locs : List Loc) (ls : Array Slot), fX6_settle_24 p1 n x2 x3 v ar = some (r, v2, ar2) → va_P D vwCl (xW cI cS a v ar) H → va_S (kA a 29) s.heap H locs → lv_has ls 5 [(0, .ref (a 0)), (1, .int p1), (2, .int x2), (3, .int x3)] → kGo p l e 5 124 s m args below meth c D (xW cI cS a) (kA a 29) (some (.int r)) v2 ar2 H locs (F0 m 24 ls []) := by
    intro  n
    induction n with
    | zero =>
      intro x2 x3 v ar H locs ls hf
      have hf : (none : Option (Int32 × kV × kR)) = some (r, v2, ar2) := hf
      cases hf
    | succ n ih =>
      intro x2 x3 v ar H locs ls hf hP hS hl
      have hf : fX6_settle_24b p1 (fX6_settle_24 p1 n) x2 x3 v ar = some (r, v2, ar2) := hf
      unfold fX6_settle_24b at hf
      refine lv_iload_n hx hb dX6_settle_24 rfl (lv_at hl 3 rfl) ?_
      refine lv_if_ne (tgt := 79) hx hb dX6_settle_25 (by decide) (fun c7 => ?_) (fun c7 => ?_)
      · have hf := kif_f c7 hf
        refine lv_iload_n hx hb dX6_settle_79 rfl (lv_at hl 2 rfl) ?_
        obtain ⟨rfl, rfl, rfl⟩ := kinj3 hf
        exact kret_i C0 hr hlk hP hS dX6_settle_80
      · have hf := kif_t c7 hf
        refine lv_iload_n hx hb dX6_settle_28 rfl (lv_at hl 2 rfl) ?_
        refine lv_bipush (v := (6 : Int32)) hx hb dX6_settle_29 (by decide) ?_
        refine lv_icmp_gt (tgt := 79) hx hb dX6_settle_31 (by decide) (fun c8 => ?_) (fun c8 => ?_)
        · have hf := kif_t c8 hf
          refine lv_iload_n hx hb dX6_settle_79 rfl (lv_at hl 2 rfl) ?_
          obtain ⟨rfl, rfl, rfl⟩ := kinj3 hf
          exact kret_i C0 hr hlk hP hS dX6_settle_80
        · have hf := kif_f c8 hf
          refine lv_aload_n hx hb dX6_settle_34 rfl (lv_at hl 0 rfl) ?_
          refine xg_HC_1 C0 hP q_170 dX6_settle_35 ?_
          obtain ⟨r10, e9, hf⟩ := kb1_s hf
          refine kcallV (As := []) (rest := []) C0 (cX0_cuts_c hap k0_2 e9) q_366 kw_X0_cuts (xv_H k0_2 C0.2 hP) hP hS ⟨Nat.le_of_ble_eq_true rfl, Nat.le_of_ble_eq_true rfl⟩ rfl hl.1 rfl (Nat.le_of_ble_eq_true rfl) dX6_settle_38 (fun H locs hP hS => ?_)
          refine lv_istore (lv' := [(4, .int r10), (0, .ref (a 0)), (1, .int p1), (2, .int x2), (3, .int x3)]) hx hb dX6_settle_41 hl (by decide) rfl (fun ls hl => ?_)
          refine lv_aload_n hx hb dX6_settle_43 rfl (lv_at hl 1 rfl) ?_
          refine xg_HC_4 C0 hP q_173 dX6_settle_44 ?_
          refine lv_aload_n hx hb dX6_settle_47 rfl (lv_at hl 1 rfl) ?_
          refine xg_HC_1 C0 hP q_170 dX6_settle_48 ?_
          refine lv_iload_n hx hb dX6_settle_51 rfl (lv_at hl 2 rfl) ?_
          obtain ⟨v13, ar14, e11, hf⟩ := kb2_s hf
          refine kcallV (As := [.ref (a (2+0)), .int p1]) (rest := []) C0 (cX1_run_c hap k0_2 e11) q_377 kw_X1_run (xv_P C0.2 hP) hP hS ⟨Nat.le_of_ble_eq_true rfl, Nat.le_of_ble_eq_true rfl⟩ rfl hl.1 rfl (Nat.le_of_ble_eq_true rfl) dX6_settle_52 (fun H locs hP hS => ?_)
          refine lv_iinc (v := (x2 + (1 : Int32))) (lv' := [(2, .int (x2 + (1 : Int32))), (4, .int r10), (0, .ref (a 0)), (1, .int p1), (3, .int x3)]) hx hb dX6_settle_55 hl (k := 3) rfl rfl (by decide) rfl (fun ls hl => ?_)
          refine lv_aload_n hx hb dX6_settle_58 rfl (lv_at hl 2 rfl) ?_
          refine xg_HC_1 C0 hP q_170 dX6_settle_59 ?_
          obtain ⟨r16, e15, hf⟩ := kb1_s hf
          refine kcallV (As := []) (rest := []) C0 (cX0_cuts_c hap k0_2 e15) q_366 kw_X0_cuts (xv_H k0_2 C0.2 hP) hP hS ⟨Nat.le_of_ble_eq_true rfl, Nat.le_of_ble_eq_true rfl⟩ rfl hl.1 rfl (Nat.le_of_ble_eq_true rfl) dX6_settle_62 (fun H locs hP hS => ?_)
          refine lv_iload hx hb dX6_settle_65 (lv_at hl 1 rfl) ?_
          refine lv_icmp_ne (tgt := 74) hx hb dX6_settle_67 (by decide) (fun c17 => ?_) (fun c17 => ?_)
          · have hf := kif_f c17 hf
            refine lv_iconst (v := (0 : Int32)) hx hb dX6_settle_74 (by decide) ?_
            exact hB75 _ ih _ _ _ _ _ _ _ hf hP hS (lv_sub hl [2, 3, 0] rfl)
          · have hf := kif_t c17 hf
            refine lv_iconst (v := (1 : Int32)) hx hb dX6_settle_70 (by decide) ?_
            refine lv_goto (tgt := 75) hx hb dX6_settle_71 (by decide) ?_
            exact hB75 _ ih _ _ _ _ _ _ _ hf hP hS (lv_sub hl [2, 3, 0] rfl)
  unfold fX6_settle at hf
  refine lv_aload_n hx hb dX6_settle_0 rfl (lv_at hl 0 rfl) ?_
  obtain ⟨r2, e1, hf⟩ := kb1_s hf
  refine kcallV (As := []) (rest := []) C0 (cX6_noCircuit_c hap e1) q_330 kw_X6_noCircuit (xv_HC C0.2 hP) hP hS ⟨Nat.le_of_ble_eq_true rfl, Nat.le_of_ble_eq_true rfl⟩ rfl hl.1 rfl (Nat.le_of_ble_eq_true rfl) dX6_settle_1 (fun H locs hP hS => ?_)
  refine lv_if_eq (tgt := 10) hx hb dX6_settle_4 (by decide) (fun c3 => ?_) (fun c3 => ?_)
  · have hf := kif_t c3 hf
    refine lv_iload_n hx hb dX6_settle_10 rfl (lv_at hl 1 rfl) ?_
    obtain ⟨r5, e4, hf⟩ := kb1_s hf
    refine kcallT (As := [.int p1]) (rest := []) C0 (cX6_isManner_c hap e4) q_374 kw_X6_isManner hP hS ⟨Nat.le_of_ble_eq_true rfl, Nat.le_of_ble_eq_true rfl⟩ rfl hl.1 rfl (Nat.le_of_ble_eq_true rfl) dX6_settle_11 (fun H locs hP hS => ?_)
    refine lv_if_ne (tgt := 20) hx hb dX6_settle_14 (by decide) (fun c6 => ?_) (fun c6 => ?_)
    · have hf := kif_f c6 hf
      refine lv_iconst (v := (0 : Int32)) hx hb dX6_settle_20 (by decide) ?_
      refine lv_istore_n (lv' := [(2, .int (0 : Int32)), (0, .ref (a 0)), (1, .int p1)]) hx hb dX6_settle_21 rfl hl (by decide) rfl (fun ls hl => ?_)
      refine lv_iconst (v := (0 : Int32)) hx hb dX6_settle_22 (by decide) ?_
      refine lv_istore_n (lv' := [(3, .int (0 : Int32)), (2, .int (0 : Int32)), (0, .ref (a 0)), (1, .int p1)]) hx hb dX6_settle_23 rfl hl (by decide) rfl (fun ls hl => ?_)
      exact hB24 _ _ _ _ _ _ _ _ hf hP hS (lv_sub hl [2, 3, 1, 0] rfl)
    · have hf := kif_t c6 hf
      refine lv_bipush (v := (-2 : Int32)) hx hb dX6_settle_17 (by decide) ?_
      obtain ⟨rfl, rfl, rfl⟩ := kinj3 hf
      exact kret_i C0 hr hlk hP hS dX6_settle_19
  · have hf := kif_f c3 hf
    refine lv_bipush (v := (-3 : Int32)) hx hb dX6_settle_7 (by decide) ?_
    obtain ⟨rfl, rfl, rfl⟩ := kinj3 hf
    exact kret_i C0 hr hlk hP hS dX6_settle_9
set_option maxHeartbeats 4000000 in
set_option maxRecDepth 100000 in
theorem cX6_isAct_c {l : Launch} {D : va_G} {cI cS : ClassId} {a : Nat → Nat} (hap : kAp a 29) {v : kV} {ar : kR} {p0 : Int32} {p1 : Int32} {r : Bool} (hf : fX6_isAct p0 p1 = some r) : kMet l D cI cS (xW cI cS a) (kA a 29) yX6_isAct cX6_isAct 2 (some .boolean) 1 20 [.int p0, .int p1] v ar (some (.int (bI r))) v ar := by
  refine kstart (by decide) (Nat.le_of_ble_eq_true rfl) ?_
  intro p e s m args below meth c ls C0 hr hlk hl hP hS
  have C0 : kC p s m c args cX6_isAct 2 RX6 D cI cS := C0
  have hx := C0.1.1
  have hb := C0.1.2.1
  have hl : lv_has ls 2 [(0, .int p0), (1, .int p1)] := hl
  have hB28 : ∀ (H : Heap) (locs : List Loc) (ls : Array Slot), fX6_isAct_28 p0 p1 = some r → va_P D vwCl (xW cI cS a v ar) H → va_S (kA a 29) s.heap H locs → lv_has ls 2 [(0, .int p0), (1, .int p1)] → kGo p l e 1 20 s m args below meth c D (xW cI cS a) (kA a 29) (some (.int (bI r))) v ar H locs (F0 m 28 ls []) := by
    intro   H locs ls hf hP hS hl
    unfold fX6_isAct_28 at hf
    refine lv_iload_n hx hb dX6_isAct_28 rfl (lv_at hl 1 rfl) ?_
    refine lv_if_lt (tgt := 46) hx hb dX6_isAct_29 (by decide) (fun c3 => ?_) (fun c3 => ?_)
    · have hf := kif_t c3 hf
      refine lv_iconst (v := (0 : Int32)) hx hb dX6_isAct_46 (by decide) ?_
      obtain rfl := Option.some.inj hf
      exact kret_z false rfl C0 hr hlk hP hS dX6_isAct_47
    · have hf := kif_f c3 hf
      refine lv_iload_n hx hb dX6_isAct_32 rfl (lv_at hl 1 rfl) ?_
      refine lv_bipush (v := (7 : Int32)) hx hb dX6_isAct_33 (by decide) ?_
      refine lv_icmp_ge (tgt := 46) hx hb dX6_isAct_35 (by decide) (fun c4 => ?_) (fun c4 => ?_)
      · have hf := kif_t c4 hf
        refine lv_iconst (v := (0 : Int32)) hx hb dX6_isAct_46 (by decide) ?_
        obtain rfl := Option.some.inj hf
        exact kret_z false rfl C0 hr hlk hP hS dX6_isAct_47
      · have hf := kif_f c4 hf
        refine lv_iload_n hx hb dX6_isAct_38 rfl (lv_at hl 0 rfl) ?_
        refine lv_if_ne (tgt := 46) hx hb dX6_isAct_39 (by decide) (fun c5 => ?_) (fun c5 => ?_)
        · have hf := kif_f c5 hf
          refine lv_iconst (v := (0 : Int32)) hx hb dX6_isAct_46 (by decide) ?_
          obtain rfl := Option.some.inj hf
          exact kret_z false rfl C0 hr hlk hP hS dX6_isAct_47
        · have hf := kif_t c5 hf
          refine lv_iconst (v := (1 : Int32)) hx hb dX6_isAct_42 (by decide) ?_
          refine lv_goto (tgt := 47) hx hb dX6_isAct_43 (by decide) ?_
          obtain rfl := Option.some.inj hf
          exact kret_z true rfl C0 hr hlk hP hS dX6_isAct_47
  unfold fX6_isAct at hf
  refine lv_iload_n hx hb dX6_isAct_0 rfl (lv_at hl 1 rfl) ?_
  refine lv_bipush (v := (20 : Int32)) hx hb dX6_isAct_1 (by decide) ?_
  refine lv_icmp_ne (tgt := 11) hx hb dX6_isAct_3 (by decide) (fun c1 => ?_) (fun c1 => ?_)
  · have hf := kif_f c1 hf
    refine lv_iload_n hx hb dX6_isAct_11 rfl (lv_at hl 1 rfl) ?_
    refine lv_bipush (v := (10 : Int32)) hx hb dX6_isAct_12 (by decide) ?_
    refine lv_icmp_lt (tgt := 28) hx hb dX6_isAct_14 (by decide) (fun c2 => ?_) (fun c2 => ?_)
    · have hf := kif_t c2 hf
      exact hB28 _ _ _ hf hP hS (lv_sub hl [0, 1] rfl)
    · have hf := kif_f c2 hf
      refine lv_iload_n hx hb dX6_isAct_17 rfl (lv_at hl 1 rfl) ?_
      refine lv_bipush (v := (17 : Int32)) hx hb dX6_isAct_18 (by decide) ?_
      refine lv_icmp_ge (tgt := 28) hx hb dX6_isAct_20 (by decide) (fun c6 => ?_) (fun c6 => ?_)
      · have hf := kif_t c6 hf
        exact hB28 _ _ _ hf hP hS (lv_sub hl [0, 1] rfl)
      · have hf := kif_f c6 hf
        refine lv_iload_n hx hb dX6_isAct_23 rfl (lv_at hl 0 rfl) ?_
        obtain ⟨r8, e7, hf⟩ := kb1_s hf
        refine kcallT (As := [.int p0]) (rest := []) C0 (cX6_isBulk_c hap e7) q_348 kw_X6_isBulk hP hS ⟨Nat.le_of_ble_eq_true rfl, Nat.le_of_ble_eq_true rfl⟩ rfl hl.1 rfl (Nat.le_of_ble_eq_true rfl) dX6_isAct_24 (fun H locs hP hS => ?_)
        obtain rfl := Option.some.inj hf
        exact kret_z r8 rfl C0 hr hlk hP hS dX6_isAct_27
  · have hf := kif_t c1 hf
    refine lv_iload_n hx hb dX6_isAct_6 rfl (lv_at hl 0 rfl) ?_
    obtain ⟨r10, e9, hf⟩ := kb1_s hf
    refine kcallT (As := [.int p0]) (rest := []) C0 (cX6_isManner_c hap e9) q_374 kw_X6_isManner hP hS ⟨Nat.le_of_ble_eq_true rfl, Nat.le_of_ble_eq_true rfl⟩ rfl hl.1 rfl (Nat.le_of_ble_eq_true rfl) dX6_isAct_7 (fun H locs hP hS => ?_)
    obtain rfl := Option.some.inj hf
    exact kret_z r10 rfl C0 hr hlk hP hS dX6_isAct_10
set_option maxHeartbeats 4000000 in
set_option maxRecDepth 100000 in
theorem cX6_areActs_c {l : Launch} {D : va_G} {cI cS : ClassId} {a : Nat → Nat} (hap : kAp a 29) {q : Nat} (hq : q < 4) {v : kV} {ar : kR} {p1 : Int32} {p2 : Int32} {r : Bool} (hf : fX6_areActs q v ar p1 p2 = some r) : kMet l D cI cS (xW cI cS a) (kA a 29) yX6_areActs cX6_areActs 4 (some .boolean) 2 41 [.ref (a (8+q)), .int p1, .int p2] v ar (some (.int (bI r))) v ar := by
  refine kstart (by decide) (Nat.le_of_ble_eq_true rfl) ?_
  intro p e s m args below meth c ls C0 hr hlk hl hP hS
  have C0 : kC p s m c args cX6_areActs 4 RX6 D cI cS := C0
  have hx := C0.1.1
  have hb := C0.1.2.1
  have hl : lv_has ls 4 [(0, .ref (a (8+q))), (1, .int p1), (2, .int p2)] := hl
  have hB2 : ∀ (n : Nat), ∀ (x3 : Int32) (H : Heap) (locs : List Loc) (ls : Array Slot), fX6_areActs_2 q v ar p1 p2 n x3 = some r → va_P D vwCl (xW cI cS a v ar) H → va_S (kA a 29) s.heap H locs → lv_has ls 4 [(0, .ref (a (8+q))), (1, .int p1), (2, .int p2), (3, .int x3)] → kGo p l e 2 41 s m args below meth c D (xW cI cS a) (kA a 29) (some (.int (bI r))) v ar H locs (F0 m 2 ls []) := by
    intro  n
    induction n with
    | zero =>
      intro x3 H locs ls hf
      have hf : (none : Option Bool) = some r := hf
      cases hf
    | succ n ih =>
      intro x3 H locs ls hf hP hS hl
      have hf : fX6_areActs_2b q v ar p1 p2 (fX6_areActs_2 q v ar p1 p2 n) x3 = some r := hf
      unfold fX6_areActs_2b at hf
      refine lv_iload_n hx hb dX6_areActs_2 rfl (lv_at hl 3 rfl) ?_
      refine lv_iload_n hx hb dX6_areActs_3 rfl (lv_at hl 2 rfl) ?_
      refine lv_icmp_ge (tgt := 43) hx hb dX6_areActs_4 (by decide) (fun c1 => ?_) (fun c1 => ?_)
      · have hf := kif_t c1 hf
        refine lv_iconst (v := (1 : Int32)) hx hb dX6_areActs_43 (by decide) ?_
        obtain rfl := Option.some.inj hf
        exact kret_z true rfl C0 hr hlk hP hS dX6_areActs_44
      · have hf := kif_f c1 hf
        refine lv_aload_n hx hb dX6_areActs_7 rfl (lv_at hl 0 rfl) ?_
        refine xg_S_2 C0 hq hP q_161 dX6_areActs_8 ?_
        refine lv_iload_n hx hb dX6_areActs_11 rfl (lv_at hl 1 rfl) ?_
        refine lv_iconst (v := (2 : Int32)) hx hb dX6_areActs_12 (by decide) ?_
        refine lv_iload_n hx hb dX6_areActs_13 rfl (lv_at hl 3 rfl) ?_
        refine lv_imul hx hb dX6_areActs_14 ?_
        refine lv_iadd hx hb dX6_areActs_15 ?_
        obtain ⟨g2, hf⟩ := kgd hf
        refine xl_row C0 hq hP g2 dX6_areActs_16 ?_
        refine lv_aload_n hx hb dX6_areActs_17 rfl (lv_at hl 0 rfl) ?_
        refine xg_S_2 C0 hq hP q_161 dX6_areActs_18 ?_
        refine lv_iload_n hx hb dX6_areActs_21 rfl (lv_at hl 1 rfl) ?_
        refine lv_iconst (v := (2 : Int32)) hx hb dX6_areActs_22 (by decide) ?_
        refine lv_iload_n hx hb dX6_areActs_23 rfl (lv_at hl 3 rfl) ?_
        refine lv_imul hx hb dX6_areActs_24 ?_
        refine lv_iadd hx hb dX6_areActs_25 ?_
        refine lv_iconst (v := (1 : Int32)) hx hb dX6_areActs_26 (by decide) ?_
        refine lv_iadd hx hb dX6_areActs_27 ?_
        obtain ⟨g3, hf⟩ := kgd hf
        refine xl_row C0 hq hP g3 dX6_areActs_28 ?_
        obtain ⟨r5, e4, hf⟩ := kb1_s hf
        refine kcallT (As := [.int (ar (13+q) (p1 + ((2 : Int32) * x3)).toNatClampNeg), .int (ar (13+q) ((p1 + ((2 : Int32) * x3)) + (1 : Int32)).toNatClampNeg)]) (rest := []) C0 (cX6_isAct_c hap e4) q_418 kw_X6_isAct hP hS ⟨Nat.le_of_ble_eq_true rfl, Nat.le_of_ble_eq_true rfl⟩ rfl hl.1 rfl (Nat.le_of_ble_eq_true rfl) dX6_areActs_29 (fun H locs hP hS => ?_)
        refine lv_if_ne (tgt := 37) hx hb dX6_areActs_32 (by decide) (fun c6 => ?_) (fun c6 => ?_)
        · have hf := kif_f c6 hf
          refine lv_iinc (v := (x3 + (1 : Int32))) (lv' := [(3, .int (x3 + (1 : Int32))), (0, .ref (a (8+q))), (1, .int p1), (2, .int p2)]) hx hb dX6_areActs_37 hl (k := 3) rfl rfl (by decide) rfl (fun ls hl => ?_)
          refine lv_goto (tgt := 2) hx hb dX6_areActs_40 (by decide) ?_
          exact ih _ _ _ _ hf hP hS (lv_sub hl [1, 2, 3, 0] rfl)
        · have hf := kif_t c6 hf
          refine lv_iconst (v := (0 : Int32)) hx hb dX6_areActs_35 (by decide) ?_
          obtain rfl := Option.some.inj hf
          exact kret_z false rfl C0 hr hlk hP hS dX6_areActs_36
  unfold fX6_areActs at hf
  refine lv_iconst (v := (0 : Int32)) hx hb dX6_areActs_0 (by decide) ?_
  refine lv_istore_n (lv' := [(3, .int (0 : Int32)), (0, .ref (a (8+q))), (1, .int p1), (2, .int p2)]) hx hb dX6_areActs_1 rfl hl (by decide) rfl (fun ls hl => ?_)
  exact hB2 _ _ _ _ _ hf hP hS (lv_sub hl [1, 2, 3, 0] rfl)
set_option maxHeartbeats 4000000 in
set_option maxRecDepth 100000 in
theorem cX6_isDone_c {l : Launch} {D : va_G} {cI cS : ClassId} {a : Nat → Nat} (hap : kAp a 29) {v : kV} {ar : kR} {p1 : Int32} {p2 : Int32} {r : Bool} {v2 : kV} {ar2 : kR} (hf : fX6_isDone v ar p1 p2 = some (r, v2, ar2)) : kMet l D cI cS (xW cI cS a) (kA a 29) yX6_isDone cX6_isDone 5 (some .boolean) 1 23 [.ref (a 0), .int p1, .int p2] v ar (some (.int (bI r))) v2 ar2 := by
  refine kstart (by decide) (Nat.le_of_ble_eq_true rfl) ?_
  intro p e s m args below meth c ls C0 hr hlk hl hP hS
  have C0 : kC p s m c args cX6_isDone 5 RX6 D cI cS := C0
  have hx := C0.1.1
  have hb := C0.1.2.1
  have hl : lv_has ls 5 [(0, .ref (a 0)), (1, .int p1), (2, .int p2)] := hl
  have hB56 : ∀ (x3 : Int32) (x4 : Int32) (v : kV) (ar : kR) (H : Heap) (locs : List Loc) (ls : Array Slot), fX6_isDone_56 p1 p2 x3 x4 v ar = some (r, v2, ar2) → va_P D vwCl (xW cI cS a v ar) H → va_S (kA a 29) s.heap H locs → lv_has ls 5 [(0, .ref (a 0)), (1, .int p1), (3, .int x3), (4, .int x4)] → kGo p l e 1 23 s m args below meth c D (xW cI cS a) (kA a 29) (some (.int (bI r))) v2 ar2 H locs (F0 m 56 ls []) := by
    intro  x3 x4 v ar H locs ls hf hP hS hl
    unfold fX6_isDone_56 at hf
    refine lv_iload_n hx hb dX6_isDone_56 rfl (lv_at hl 2 rfl) ?_
    refine lv_if_eq (tgt := 72) hx hb dX6_isDone_57 (by decide) (fun c5 => ?_) (fun c5 => ?_)
    · have hf := kif_t c5 hf
      refine lv_aload_n hx hb dX6_isDone_72 rfl (lv_at hl 0 rfl) ?_
      refine xg_HC_2 C0 hP q_171 dX6_isDone_73 ?_
      refine lv_iload hx hb dX6_isDone_76 (lv_at hl 3 rfl) ?_
      refine lv_aload_n hx hb dX6_isDone_78 rfl (lv_at hl 0 rfl) ?_
      refine xg_HC_2 C0 hP q_171 dX6_isDone_79 ?_
      refine xg_H_5 C0 k1_2 hP q_46 dX6_isDone_82 ?_
      refine lv_iload hx hb dX6_isDone_85 (lv_at hl 3 rfl) ?_
      obtain ⟨g6, hf⟩ := kgd hf
      refine xl_kind C0 k1_2 hP g6 dX6_isDone_87 ?_
      refine lv_iload_n hx hb dX6_isDone_88 rfl (lv_at hl 1 rfl) ?_
      obtain ⟨v9, ar10, e7, hf⟩ := kb2_s hf
      refine kcallV (As := [.int x4, .int (ar (4*1+0) x4.toNatClampNeg), .int p1]) (rest := []) C0 (cX0_set_c hap k1_2 e7) q_351 kw_X0_set (xv_H k1_2 C0.2 hP) hP hS ⟨Nat.le_of_ble_eq_true rfl, Nat.le_of_ble_eq_true rfl⟩ rfl hl.1 rfl (Nat.le_of_ble_eq_true rfl) dX6_isDone_89 (fun H locs hP hS => ?_)
      refine lv_iconst (v := (1 : Int32)) hx hb dX6_isDone_92 (by decide) ?_
      obtain ⟨rfl, rfl, rfl⟩ := kinj3 hf
      exact kret_z true rfl C0 hr hlk hP hS dX6_isDone_93
    · have hf := kif_f c5 hf
      refine lv_aload_n hx hb dX6_isDone_60 rfl (lv_at hl 0 rfl) ?_
      refine xg_HC_2 C0 hP q_171 dX6_isDone_61 ?_
      refine lv_iload hx hb dX6_isDone_64 (lv_at hl 3 rfl) ?_
      obtain ⟨v13, ar14, e11, hf⟩ := kb2_s hf
      refine kcallV (As := [.int x4]) (rest := []) C0 (cX0_flip_c hap k1_2 e11) q_362 kw_X0_flip (xv_H k1_2 C0.2 hP) hP hS ⟨Nat.le_of_ble_eq_true rfl, Nat.le_of_ble_eq_true rfl⟩ rfl hl.1 rfl (Nat.le_of_ble_eq_true rfl) dX6_isDone_66 (fun H locs hP hS => ?_)
      refine lv_goto (tgt := 92) hx hb dX6_isDone_69 (by decide) ?_
      refine lv_iconst (v := (1 : Int32)) hx hb dX6_isDone_92 (by decide) ?_
      obtain ⟨rfl, rfl, rfl⟩ := kinj3 hf
      exact kret_z true rfl C0 hr hlk hP hS dX6_isDone_93
  have hB24 : ∀ (x3 : Int32) (s0 : Int32) (v : kV) (ar : kR) (H : Heap) (locs : List Loc) (ls : Array Slot), fX6_isDone_24 p1 p2 x3 s0 v ar = some (r, v2, ar2) → va_P D vwCl (xW cI cS a v ar) H → va_S (kA a 29) s.heap H locs → lv_has ls 5 [(0, .ref (a 0)), (1, .int p1), (3, .int x3)] → kGo p l e 1 23 s m args below meth c D (xW cI cS a) (kA a 29) (some (.int (bI r))) v2 ar2 H locs (F0 m 24 ls [.int s0]) := by
    intro  x3 s0 v ar H locs ls hf hP hS hl
    unfold fX6_isDone_24 at hf
    refine lv_istore (lv' := [(4, .int s0), (0, .ref (a 0)), (1, .int p1), (3, .int x3)]) hx hb dX6_isDone_24 hl (by decide) rfl (fun ls hl => ?_)
    refine lv_iload hx hb dX6_isDone_26 (lv_at hl 0 rfl) ?_
    refine lv_aload_n hx hb dX6_isDone_28 rfl (lv_at hl 1 rfl) ?_
    refine xg_HC_2 C0 hP q_171 dX6_isDone_29 ?_
    refine xg_H_0 C0 k1_2 hP q_31 dX6_isDone_32 ?_
    refine lv_icmp_ge (tgt := 54) hx hb dX6_isDone_35 (by decide) (fun c3 => ?_) (fun c3 => ?_)
    · have hf := kif_t c3 hf
      refine lv_iconst (v := (0 : Int32)) hx hb dX6_isDone_54 (by decide) ?_
      obtain ⟨rfl, rfl, rfl⟩ := kinj3 hf
      exact kret_z false rfl C0 hr hlk hP hS dX6_isDone_55
    · have hf := kif_f c3 hf
      refine lv_iload_n hx hb dX6_isDone_38 rfl (lv_at hl 3 rfl) ?_
      refine lv_if_eq (tgt := 56) hx hb dX6_isDone_39 (by decide) (fun c4 => ?_) (fun c4 => ?_)
      · have hf := kif_t c4 hf
        exact hB56 _ _ _ _ _ _ _ hf hP hS (lv_sub hl [1, 2, 3, 0] rfl)
      · have hf := kif_f c4 hf
        refine lv_aload_n hx hb dX6_isDone_42 rfl (lv_at hl 1 rfl) ?_
        refine xg_HC_2 C0 hP q_171 dX6_isDone_43 ?_
        refine lv_iload hx hb dX6_isDone_46 (lv_at hl 0 rfl) ?_
        obtain ⟨r16, e15, hf⟩ := kb1_s hf
        refine kcallV (As := [.int s0]) (rest := []) C0 (cX0_isFixed_c hap k1_2 e15) q_286 kw_X0_isFixed (xv_H k1_2 C0.2 hP) hP hS ⟨Nat.le_of_ble_eq_true rfl, Nat.le_of_ble_eq_true rfl⟩ rfl hl.1 rfl (Nat.le_of_ble_eq_true rfl) dX6_isDone_48 (fun H locs hP hS => ?_)
        refine lv_if_eq (tgt := 56) hx hb dX6_isDone_51 (by decide) (fun c17 => ?_) (fun c17 => ?_)
        · have hf := kif_t c17 hf
          exact hB56 _ _ _ _ _ _ _ hf hP hS (lv_sub hl [1, 2, 3, 0] rfl)
        · have hf := kif_f c17 hf
          refine lv_iconst (v := (0 : Int32)) hx hb dX6_isDone_54 (by decide) ?_
          obtain ⟨rfl, rfl, rfl⟩ := kinj3 hf
          exact kret_z false rfl C0 hr hlk hP hS dX6_isDone_55
  have hB11 : ∀ (s0 : Int32) (v : kV) (ar : kR) (H : Heap) (locs : List Loc) (ls : Array Slot), fX6_isDone_11 p1 p2 s0 v ar = some (r, v2, ar2) → va_P D vwCl (xW cI cS a v ar) H → va_S (kA a 29) s.heap H locs → lv_has ls 5 [(0, .ref (a 0)), (1, .int p1), (2, .int p2)] → kGo p l e 1 23 s m args below meth c D (xW cI cS a) (kA a 29) (some (.int (bI r))) v2 ar2 H locs (F0 m 11 ls [.int s0]) := by
    intro  s0 v ar H locs ls hf hP hS hl
    unfold fX6_isDone_11 at hf
    refine lv_istore_n (lv' := [(3, .int s0), (0, .ref (a 0)), (1, .int p1), (2, .int p2)]) hx hb dX6_isDone_11 rfl hl (by decide) rfl (fun ls hl => ?_)
    refine lv_iload_n hx hb dX6_isDone_12 rfl (lv_at hl 0 rfl) ?_
    refine lv_if_eq (tgt := 20) hx hb dX6_isDone_13 (by decide) (fun c2 => ?_) (fun c2 => ?_)
    · have hf := kif_t c2 hf
      refine lv_iload_n hx hb dX6_isDone_20 rfl (lv_at hl 3 rfl) ?_
      refine lv_bipush (v := (10 : Int32)) hx hb dX6_isDone_21 (by decide) ?_
      refine lv_isub hx hb dX6_isDone_23 ?_
      exact hB24 _ _ _ _ _ _ _ hf hP hS (lv_sub hl [1, 2, 0] rfl)
    · have hf := kif_f c2 hf
      refine lv_iload_n hx hb dX6_isDone_16 rfl (lv_at hl 3 rfl) ?_
      refine lv_goto (tgt := 24) hx hb dX6_isDone_17 (by decide) ?_
      exact hB24 _ _ _ _ _ _ _ hf hP hS (lv_sub hl [1, 2, 0] rfl)
  unfold fX6_isDone at hf
  refine lv_iload_n hx hb dX6_isDone_0 rfl (lv_at hl 2 rfl) ?_
  refine lv_bipush (v := (10 : Int32)) hx hb dX6_isDone_1 (by decide) ?_
  refine lv_icmp_ge (tgt := 10) hx hb dX6_isDone_3 (by decide) (fun c1 => ?_) (fun c1 => ?_)
  · have hf := kif_t c1 hf
    refine lv_iconst (v := (0 : Int32)) hx hb dX6_isDone_10 (by decide) ?_
    exact hB11 _ _ _ _ _ _ hf hP hS (lv_sub hl [0, 1, 2] rfl)
  · have hf := kif_f c1 hf
    refine lv_iconst (v := (1 : Int32)) hx hb dX6_isDone_6 (by decide) ?_
    refine lv_goto (tgt := 11) hx hb dX6_isDone_7 (by decide) ?_
    exact hB11 _ _ _ _ _ _ hf hP hS (lv_sub hl [0, 1, 2] rfl)
set_option maxHeartbeats 4000000 in
set_option maxRecDepth 100000 in
theorem cX6_firstWrong_c {l : Launch} {D : va_G} {cI cS : ClassId} {a : Nat → Nat} (hap : kAp a 29) {q : Nat} (hq : q < 4) {v : kV} {ar : kR} {p2 : Int32} {p3 : Int32} {r : Int32} {v2 : kV} {ar2 : kR} (hf : fX6_firstWrong q v ar p2 p3 = some (r, v2, ar2)) : kMet l D cI cS (xW cI cS a) (kA a 29) yX6_firstWrong cX6_firstWrong 7 (some .int) 5 124 [.ref (a 0), .ref (a (8+q)), .int p2, .int p3] v ar (some (.int r)) v2 ar2 := by
  refine kstart (by decide) (Nat.le_of_ble_eq_true rfl) ?_
  intro p e s m args below meth c ls C0 hr hlk hl hP hS
  have C0 : kC p s m c args cX6_firstWrong 7 RX6 D cI cS := C0
  have hx := C0.1.1
  have hb := C0.1.2.1
  have hl : lv_has ls 7 [(0, .ref (a 0)), (1, .ref (a (8+q))), (2, .int p2), (3, .int p3)] := hl
  have hB85 : ∀ (rec14 : Int32 → kV → kR → Option (Int32 × kV × kR)) (hrec14 : ∀ (x4 : Int32) (v : kV) (ar : kR) (H : Heap) (locs : List Loc) (ls : Array Slot), rec14 x4 v ar = some (r, v2, ar2) → va_P D vwCl (xW cI cS a v ar) H → va_S (kA a 29) s.heap H locs → lv_has ls 7 [(0, .ref (a 0)), (1, .ref (a (8+q))), (2, .int p2), (3, .int p3), (4, .int x4)] → kGo p l e 5 124 s m args below meth c D (xW cI cS a) (kA a 29) (some (.int r)) v2 ar2 H locs (F0 m 14 ls [])) , ∀ (x4 : Int32) (v : kV) (ar : kR) (H : Heap) (locs : List Loc) (ls : Array Slot), fX6_firstWrong_85 q p2 p3 rec14 x4 v ar = some (r, v2, ar2) → va_P D vwCl (xW cI cS a v ar) H → va_S (kA a 29) s.heap H locs → lv_has ls 7 [(0, .ref (a 0)), (1, .ref (a (8+q))), (2, .int p2), (3, .int p3), (4, .int x4)] → kGo p l e 5 124 s m args below meth c D (xW cI cS a) (kA a 29) (some (.int r)) v2 ar2 H locs (F0 m 85 ls []) := by
    intro rec14 hrec14 x4 v ar H locs ls hf hP hS hl
    unfold fX6_firstWrong_85 at hf
    refine lv_iinc (v := (x4 + (1 : Int32))) (lv' := [(4, .int (x4 + (1 : Int32))), (0, .ref (a 0)), (1, .ref (a (8+q))), (2, .int p2), (3, .int p3)]) hx hb dX6_firstWrong_85 hl (k := 4) rfl rfl (by decide) rfl (fun ls hl => ?_)
    refine lv_goto (tgt := 14) hx hb dX6_firstWrong_88 (by decide) ?_
    exact hrec14 _ _ _ _ _ _ hf hP hS (lv_sub hl [1, 2, 3, 4, 0] rfl)
  have hB14 : ∀ (n : Nat), ∀ (x4 : Int32) (v : kV) (ar : kR) (H : Heap) (locs : List Loc) (ls : Array Slot), fX6_firstWrong_14 q p2 p3 n x4 v ar = some (r, v2, ar2) → va_P D vwCl (xW cI cS a v ar) H → va_S (kA a 29) s.heap H locs → lv_has ls 7 [(0, .ref (a 0)), (1, .ref (a (8+q))), (2, .int p2), (3, .int p3), (4, .int x4)] → kGo p l e 5 124 s m args below meth c D (xW cI cS a) (kA a 29) (some (.int r)) v2 ar2 H locs (F0 m 14 ls []) := by
    intro  n
    induction n with
    | zero =>
      intro x4 v ar H locs ls hf
      have hf : (none : Option (Int32 × kV × kR)) = some (r, v2, ar2) := hf
      cases hf
    | succ n ih =>
      intro x4 v ar H locs ls hf hP hS hl
      have hf : fX6_firstWrong_14b q p2 p3 (fX6_firstWrong_14 q p2 p3 n) x4 v ar = some (r, v2, ar2) := hf
      unfold fX6_firstWrong_14b at hf
      refine lv_iload hx hb dX6_firstWrong_14 (lv_at hl 4 rfl) ?_
      refine lv_iload_n hx hb dX6_firstWrong_16 rfl (lv_at hl 3 rfl) ?_
      refine lv_icmp_ge (tgt := 91) hx hb dX6_firstWrong_17 (by decide) (fun c5 => ?_) (fun c5 => ?_)
      · have hf := kif_t c5 hf
        refine lv_bipush (v := (-9 : Int32)) hx hb dX6_firstWrong_91 (by decide) ?_
        obtain ⟨rfl, rfl, rfl⟩ := kinj3 hf
        exact kret_i C0 hr hlk hP hS dX6_firstWrong_93
      · have hf := kif_f c5 hf
        refine lv_aload_n hx hb dX6_firstWrong_20 rfl (lv_at hl 1 rfl) ?_
        refine xg_S_2 C0 hq hP q_161 dX6_firstWrong_21 ?_
        refine lv_iload_n hx hb dX6_firstWrong_24 rfl (lv_at hl 2 rfl) ?_
        refine lv_iconst (v := (2 : Int32)) hx hb dX6_firstWrong_25 (by decide) ?_
        refine lv_iload hx hb dX6_firstWrong_26 (lv_at hl 4 rfl) ?_
        refine lv_imul hx hb dX6_firstWrong_28 ?_
        refine lv_iadd hx hb dX6_firstWrong_29 ?_
        obtain ⟨g6, hf⟩ := kgd hf
        refine xl_row C0 hq hP g6 dX6_firstWrong_30 ?_
        refine lv_istore (lv' := [(5, .int (ar (13+q) (p2 + ((2 : Int32) * x4)).toNatClampNeg)), (0, .ref (a 0)), (1, .ref (a (8+q))), (2, .int p2), (3, .int p3), (4, .int x4)]) hx hb dX6_firstWrong_31 hl (by decide) rfl (fun ls hl => ?_)
        refine lv_aload_n hx hb dX6_firstWrong_33 rfl (lv_at hl 2 rfl) ?_
        refine xg_S_2 C0 hq hP q_161 dX6_firstWrong_34 ?_
        refine lv_iload_n hx hb dX6_firstWrong_37 rfl (lv_at hl 3 rfl) ?_
        refine lv_iconst (v := (2 : Int32)) hx hb dX6_firstWrong_38 (by decide) ?_
        refine lv_iload hx hb dX6_firstWrong_39 (lv_at hl 5 rfl) ?_
        refine lv_imul hx hb dX6_firstWrong_41 ?_
        refine lv_iadd hx hb dX6_firstWrong_42 ?_
        refine lv_iconst (v := (1 : Int32)) hx hb dX6_firstWrong_43 (by decide) ?_
        refine lv_iadd hx hb dX6_firstWrong_44 ?_
        obtain ⟨g7, hf⟩ := kgd hf
        refine xl_row C0 hq hP g7 dX6_firstWrong_45 ?_
        refine lv_istore (lv' := [(6, .int (ar (13+q) ((p2 + ((2 : Int32) * x4)) + (1 : Int32)).toNatClampNeg)), (5, .int (ar (13+q) (p2 + ((2 : Int32) * x4)).toNatClampNeg)), (0, .ref (a 0)), (1, .ref (a (8+q))), (2, .int p2), (3, .int p3), (4, .int x4)]) hx hb dX6_firstWrong_46 hl (by decide) rfl (fun ls hl => ?_)
        refine lv_iload hx hb dX6_firstWrong_48 (lv_at hl 0 rfl) ?_
        refine lv_bipush (v := (20 : Int32)) hx hb dX6_firstWrong_50 (by decide) ?_
        refine lv_icmp_ne (tgt := 71) hx hb dX6_firstWrong_52 (by decide) (fun c8 => ?_) (fun c8 => ?_)
        · have hf := kif_f c8 hf
          refine lv_aload_n hx hb dX6_firstWrong_71 rfl (lv_at hl 2 rfl) ?_
          refine lv_iload hx hb dX6_firstWrong_72 (lv_at hl 1 rfl) ?_
          refine lv_iload hx hb dX6_firstWrong_74 (lv_at hl 0 rfl) ?_
          obtain ⟨r10, v11, ar12, e9, hf⟩ := kb3_s hf
          refine kcallV (As := [.int (ar (13+q) (p2 + ((2 : Int32) * x4)).toNatClampNeg), .int (ar (13+q) ((p2 + ((2 : Int32) * x4)) + (1 : Int32)).toNatClampNeg)]) (rest := []) C0 (cX6_isDone_c hap e9) q_425 kw_X6_isDone (xv_HC C0.2 hP) hP hS ⟨Nat.le_of_ble_eq_true rfl, Nat.le_of_ble_eq_true rfl⟩ rfl hl.1 rfl (Nat.le_of_ble_eq_true rfl) dX6_firstWrong_76 (fun H locs hP hS => ?_)
          refine lv_if_ne (tgt := 85) hx hb dX6_firstWrong_79 (by decide) (fun c13 => ?_) (fun c13 => ?_)
          · have hf := kif_f c13 hf
            exact hB85 _ ih _ _ _ _ _ _ hf hP hS (lv_sub hl [2, 3, 4, 5, 6] rfl)
          · have hf := kif_t c13 hf
            refine lv_iload hx hb dX6_firstWrong_82 (lv_at hl 6 rfl) ?_
            obtain ⟨rfl, rfl, rfl⟩ := kinj3 hf
            exact kret_i C0 hr hlk hP hS dX6_firstWrong_84
        · have hf := kif_t c8 hf
          refine lv_aload_n hx hb dX6_firstWrong_55 rfl (lv_at hl 2 rfl) ?_
          refine xg_HC_4 C0 hP q_173 dX6_firstWrong_56 ?_
          refine lv_aload_n hx hb dX6_firstWrong_59 rfl (lv_at hl 2 rfl) ?_
          refine xg_HC_2 C0 hP q_171 dX6_firstWrong_60 ?_
          refine lv_iload hx hb dX6_firstWrong_63 (lv_at hl 1 rfl) ?_
          obtain ⟨v16, ar17, e14, hf⟩ := kb2_s hf
          refine kcallV (As := [.ref (a (2+1)), .int (ar (13+q) (p2 + ((2 : Int32) * x4)).toNatClampNeg)]) (rest := []) C0 (cX1_run_c hap k1_2 e14) q_377 kw_X1_run (xv_P C0.2 hP) hP hS ⟨Nat.le_of_ble_eq_true rfl, Nat.le_of_ble_eq_true rfl⟩ rfl hl.1 rfl (Nat.le_of_ble_eq_true rfl) dX6_firstWrong_65 (fun H locs hP hS => ?_)
          refine lv_goto (tgt := 85) hx hb dX6_firstWrong_68 (by decide) ?_
          exact hB85 _ ih _ _ _ _ _ _ hf hP hS (lv_sub hl [2, 3, 4, 5, 6] rfl)
  unfold fX6_firstWrong at hf
  refine lv_aload_n hx hb dX6_firstWrong_0 rfl (lv_at hl 0 rfl) ?_
  refine xg_HC_2 C0 hP q_171 dX6_firstWrong_1 ?_
  refine lv_aload_n hx hb dX6_firstWrong_4 rfl (lv_at hl 0 rfl) ?_
  refine xg_HC_1 C0 hP q_170 dX6_firstWrong_5 ?_
  obtain ⟨v3, ar4, e1, hf⟩ := kb2_s hf
  refine kcallV (As := [.ref (a (2+0))]) (rest := []) C0 (cX0_become_c hap k1_2 k0_2 e1) q_269 kw_X0_become (xv_H k1_2 C0.2 hP) hP hS ⟨Nat.le_of_ble_eq_true rfl, Nat.le_of_ble_eq_true rfl⟩ rfl hl.1 rfl (Nat.le_of_ble_eq_true rfl) dX6_firstWrong_8 (fun H locs hP hS => ?_)
  refine lv_iconst (v := (0 : Int32)) hx hb dX6_firstWrong_11 (by decide) ?_
  refine lv_istore (lv' := [(4, .int (0 : Int32)), (0, .ref (a 0)), (1, .ref (a (8+q))), (2, .int p2), (3, .int p3)]) hx hb dX6_firstWrong_12 hl (by decide) rfl (fun ls hl => ?_)
  exact hB14 _ _ _ _ _ _ _ hf hP hS (lv_sub hl [1, 2, 3, 4, 0] rfl)
set_option maxHeartbeats 4000000 in
set_option maxRecDepth 100000 in
theorem cX6_afterDay_c {l : Launch} {D : va_G} {cI cS : ClassId} {a : Nat → Nat} (hap : kAp a 29) {v : kV} {ar : kR} {p1 : Int32} {r : Int32} (hf : fX6_afterDay v ar p1 = some r) : kMet l D cI cS (xW cI cS a) (kA a 29) yX6_afterDay cX6_afterDay 2 (some .int) 3 66 [.ref (a 0), .int p1] v ar (some (.int r)) v ar := by
  refine kstart (by decide) (Nat.le_of_ble_eq_true rfl) ?_
  intro p e s m args below meth c ls C0 hr hlk hl hP hS
  have C0 : kC p s m c args cX6_afterDay 2 RX6 D cI cS := C0
  have hx := C0.1.1
  have hb := C0.1.2.1
  have hl : lv_has ls 2 [(0, .ref (a 0)), (1, .int p1)] := hl
  unfold fX6_afterDay at hf
  refine lv_iload_n hx hb dX6_afterDay_0 rfl (lv_at hl 1 rfl) ?_
  by_cases c1 : p1 = (0 : Int32)
  · have hf := kif_t c1 hf
    refine lv_tableIn (tgt := 36) (off := (35 : Int)) hx hb dX6_afterDay_1 (by rw [c1]; decide) (by rw [c1]; decide) (by rw [c1]; decide) (by decide) ?_
    refine lv_aload_n hx hb dX6_afterDay_36 rfl (lv_at hl 0 rfl) ?_
    refine xg_HC_2 C0 hP q_171 dX6_afterDay_37 ?_
    obtain ⟨r3, e2, hf⟩ := kb1_s hf
    refine kcallV (As := []) (rest := []) C0 (cX0_cuts_c hap k1_2 e2) q_366 kw_X0_cuts (xv_H k1_2 C0.2 hP) hP hS ⟨Nat.le_of_ble_eq_true rfl, Nat.le_of_ble_eq_true rfl⟩ rfl hl.1 rfl (Nat.le_of_ble_eq_true rfl) dX6_afterDay_40 (fun H locs hP hS => ?_)
    obtain rfl := Option.some.inj hf
    exact kret_i C0 hr hlk hP hS dX6_afterDay_43
  · have hf := kif_f c1 hf
    by_cases c4 : p1 = (1 : Int32)
    · have hf := kif_t c4 hf
      refine lv_tableIn (tgt := 82) (off := (81 : Int)) hx hb dX6_afterDay_1 (by rw [c4]; decide) (by rw [c4]; decide) (by rw [c4]; decide) (by decide) ?_
      refine lv_aload_n hx hb dX6_afterDay_82 rfl (lv_at hl 0 rfl) ?_
      refine lv_iload_n hx hb dX6_afterDay_83 rfl (lv_at hl 1 rfl) ?_
      refine lv_bipush (v := (10 : Int32)) hx hb dX6_afterDay_84 (by decide) ?_
      refine lv_isub hx hb dX6_afterDay_86 ?_
      obtain ⟨r6, e5, hf⟩ := kb1_s hf
      refine kcallV (As := [.int (p1 - (10 : Int32))]) (rest := []) C0 (cX6_isCell_c hap e5) q_278 kw_X6_isCell (xv_HC C0.2 hP) hP hS ⟨Nat.le_of_ble_eq_true rfl, Nat.le_of_ble_eq_true rfl⟩ rfl hl.1 rfl (Nat.le_of_ble_eq_true rfl) dX6_afterDay_87 (fun H locs hP hS => ?_)
      refine lv_if_eq (tgt := 110) hx hb dX6_afterDay_90 (by decide) (fun c7 => ?_) (fun c7 => ?_)
      · have hf := kif_t c7 hf
        refine lv_bipush (v := (-9 : Int32)) hx hb dX6_afterDay_110 (by decide) ?_
        obtain rfl := Option.some.inj hf
        exact kret_i C0 hr hlk hP hS dX6_afterDay_112
      · have hf := kif_f c7 hf
        refine lv_aload_n hx hb dX6_afterDay_93 rfl (lv_at hl 0 rfl) ?_
        refine xg_HC_2 C0 hP q_171 dX6_afterDay_94 ?_
        refine lv_iload_n hx hb dX6_afterDay_97 rfl (lv_at hl 1 rfl) ?_
        refine lv_bipush (v := (10 : Int32)) hx hb dX6_afterDay_98 (by decide) ?_
        refine lv_isub hx hb dX6_afterDay_100 ?_
        obtain ⟨r9, e8, hf⟩ := kb1_s hf
        refine kcallV (As := [.int (p1 - (10 : Int32))]) (rest := []) C0 (cX0_gain_c hap k1_2 e8) q_294 kw_X0_gain (xv_H k1_2 C0.2 hP) hP hS ⟨Nat.le_of_ble_eq_true rfl, Nat.le_of_ble_eq_true rfl⟩ rfl hl.1 rfl (Nat.le_of_ble_eq_true rfl) dX6_afterDay_101 (fun H locs hP hS => ?_)
        refine lv_bipush (v := (10 : Int32)) hx hb dX6_afterDay_104 (by decide) ?_
        refine lv_iadd hx hb dX6_afterDay_106 ?_
        refine lv_goto (tgt := 112) hx hb dX6_afterDay_107 (by decide) ?_
        obtain rfl := Option.some.inj hf
        exact kret_i C0 hr hlk hP hS dX6_afterDay_112
    · have hf := kif_f c4 hf
      by_cases c10 : p1 = (2 : Int32)
      · have hf := kif_t c10 hf
        refine lv_tableIn (tgt := 44) (off := (43 : Int)) hx hb dX6_afterDay_1 (by rw [c10]; decide) (by rw [c10]; decide) (by rw [c10]; decide) (by decide) ?_
        refine lv_aload_n hx hb dX6_afterDay_44 rfl (lv_at hl 0 rfl) ?_
        refine xg_HC_2 C0 hP q_171 dX6_afterDay_45 ?_
        refine xg_H_2 C0 k1_2 hP q_38 dX6_afterDay_48 ?_
        obtain rfl := Option.some.inj hf
        exact kret_i C0 hr hlk hP hS dX6_afterDay_51
      · have hf := kif_f c10 hf
        by_cases c11 : p1 = (3 : Int32)
        · have hf := kif_t c11 hf
          refine lv_tableIn (tgt := 52) (off := (51 : Int)) hx hb dX6_afterDay_1 (by rw [c11]; decide) (by rw [c11]; decide) (by rw [c11]; decide) (by decide) ?_
          refine lv_aload_n hx hb dX6_afterDay_52 rfl (lv_at hl 0 rfl) ?_
          refine xg_HC_2 C0 hP q_171 dX6_afterDay_53 ?_
          refine lv_aload_n hx hb dX6_afterDay_56 rfl (lv_at hl 0 rfl) ?_
          refine xg_HC_2 C0 hP q_171 dX6_afterDay_57 ?_
          obtain ⟨r13, e12, hf⟩ := kb1_s hf
          refine kcallV (As := []) (rest := [.ref (a (2+1))]) C0 (cX0_left_c hap k1_2 e12) q_334 kw_X0_left (xv_H k1_2 C0.2 hP) hP hS ⟨Nat.le_of_ble_eq_true rfl, Nat.le_of_ble_eq_true rfl⟩ rfl hl.1 rfl (Nat.le_of_ble_eq_true rfl) dX6_afterDay_60 (fun H locs hP hS => ?_)
          obtain ⟨r15, e14, hf⟩ := kb1_s hf
          refine kcallV (As := [.int r13]) (rest := []) C0 (cX0_weightOf_c hap k1_2 e14) q_338 kw_X0_weightOf (xv_H k1_2 C0.2 hP) hP hS ⟨Nat.le_of_ble_eq_true rfl, Nat.le_of_ble_eq_true rfl⟩ rfl hl.1 rfl (Nat.le_of_ble_eq_true rfl) dX6_afterDay_63 (fun H locs hP hS => ?_)
          obtain rfl := Option.some.inj hf
          exact kret_i C0 hr hlk hP hS dX6_afterDay_66
        · have hf := kif_f c11 hf
          by_cases c16 : p1 = (4 : Int32)
          · have hf := kif_t c16 hf
            refine lv_tableIn (tgt := 67) (off := (66 : Int)) hx hb dX6_afterDay_1 (by rw [c16]; decide) (by rw [c16]; decide) (by rw [c16]; decide) (by decide) ?_
            refine lv_aload_n hx hb dX6_afterDay_67 rfl (lv_at hl 0 rfl) ?_
            refine xg_HC_2 C0 hP q_171 dX6_afterDay_68 ?_
            refine lv_aload_n hx hb dX6_afterDay_71 rfl (lv_at hl 0 rfl) ?_
            refine xg_HC_2 C0 hP q_171 dX6_afterDay_72 ?_
            obtain ⟨r18, e17, hf⟩ := kb1_s hf
            refine kcallV (As := []) (rest := [.ref (a (2+1))]) C0 (cX0_left_c hap k1_2 e17) q_334 kw_X0_left (xv_H k1_2 C0.2 hP) hP hS ⟨Nat.le_of_ble_eq_true rfl, Nat.le_of_ble_eq_true rfl⟩ rfl hl.1 rfl (Nat.le_of_ble_eq_true rfl) dX6_afterDay_75 (fun H locs hP hS => ?_)
            obtain ⟨r20, e19, hf⟩ := kb1_s hf
            refine kcallV (As := [.int r18]) (rest := []) C0 (cX0_shareOf_c hap k1_2 e19) q_305 kw_X0_shareOf (xv_H k1_2 C0.2 hP) hP hS ⟨Nat.le_of_ble_eq_true rfl, Nat.le_of_ble_eq_true rfl⟩ rfl hl.1 rfl (Nat.le_of_ble_eq_true rfl) dX6_afterDay_78 (fun H locs hP hS => ?_)
            obtain rfl := Option.some.inj hf
            exact kret_i C0 hr hlk hP hS dX6_afterDay_81
          · have hf := kif_f c16 hf
            refine lv_tableOut (tgt := 82) hx hb dX6_afterDay_1 (kswO 5 (by decide) (fun k hk => match k, hk with | 0, _ => lv_neT c1 (by decide) | 1, _ => lv_neT c4 (by decide) | 2, _ => lv_neT c10 (by decide) | 3, _ => lv_neT c11 (by decide) | 4, _ => lv_neT c16 (by decide) | n + 5, hk => absurd hk (by omega))) (by decide) ?_
            refine lv_aload_n hx hb dX6_afterDay_82 rfl (lv_at hl 0 rfl) ?_
            refine lv_iload_n hx hb dX6_afterDay_83 rfl (lv_at hl 1 rfl) ?_
            refine lv_bipush (v := (10 : Int32)) hx hb dX6_afterDay_84 (by decide) ?_
            refine lv_isub hx hb dX6_afterDay_86 ?_
            obtain ⟨r22, e21, hf⟩ := kb1_s hf
            refine kcallV (As := [.int (p1 - (10 : Int32))]) (rest := []) C0 (cX6_isCell_c hap e21) q_278 kw_X6_isCell (xv_HC C0.2 hP) hP hS ⟨Nat.le_of_ble_eq_true rfl, Nat.le_of_ble_eq_true rfl⟩ rfl hl.1 rfl (Nat.le_of_ble_eq_true rfl) dX6_afterDay_87 (fun H locs hP hS => ?_)
            refine lv_if_eq (tgt := 110) hx hb dX6_afterDay_90 (by decide) (fun c23 => ?_) (fun c23 => ?_)
            · have hf := kif_t c23 hf
              refine lv_bipush (v := (-9 : Int32)) hx hb dX6_afterDay_110 (by decide) ?_
              obtain rfl := Option.some.inj hf
              exact kret_i C0 hr hlk hP hS dX6_afterDay_112
            · have hf := kif_f c23 hf
              refine lv_aload_n hx hb dX6_afterDay_93 rfl (lv_at hl 0 rfl) ?_
              refine xg_HC_2 C0 hP q_171 dX6_afterDay_94 ?_
              refine lv_iload_n hx hb dX6_afterDay_97 rfl (lv_at hl 1 rfl) ?_
              refine lv_bipush (v := (10 : Int32)) hx hb dX6_afterDay_98 (by decide) ?_
              refine lv_isub hx hb dX6_afterDay_100 ?_
              obtain ⟨r25, e24, hf⟩ := kb1_s hf
              refine kcallV (As := [.int (p1 - (10 : Int32))]) (rest := []) C0 (cX0_gain_c hap k1_2 e24) q_294 kw_X0_gain (xv_H k1_2 C0.2 hP) hP hS ⟨Nat.le_of_ble_eq_true rfl, Nat.le_of_ble_eq_true rfl⟩ rfl hl.1 rfl (Nat.le_of_ble_eq_true rfl) dX6_afterDay_101 (fun H locs hP hS => ?_)
              refine lv_bipush (v := (10 : Int32)) hx hb dX6_afterDay_104 (by decide) ?_
              refine lv_iadd hx hb dX6_afterDay_106 ?_
              refine lv_goto (tgt := 112) hx hb dX6_afterDay_107 (by decide) ?_
              obtain rfl := Option.some.inj hf
              exact kret_i C0 hr hlk hP hS dX6_afterDay_112
