set_option maxHeartbeats 4000000 in
set_option maxRecDepth 100000 in
theorem cX7_ofSide_c {l : Launch} {D : va_G} {cI cS : ClassId} {a : Nat → Nat} (hap : kAp a 15) {v : kV} {ar : kR} {p1 : Int32} {p2 : Int32} {r : Int32} (hf : fX7_ofSide v ar p1 p2 = some r) : kMet l D cI cS (mW cI a) (kA a 15) yX7_ofSide cX7_ofSide 4 (some .int) 4 88 [.ref (a 0), .int p1, .int p2] v ar (some (.int r)) v ar := by
  refine kstart (by decide) (Nat.le_of_ble_eq_true rfl) ?_
  intro p e s m args below meth c ls C0 hr hlk hl hP hS
  have C0 : kC p s m c args cX7_ofSide 4 RX7 D cI cS := C0
  have hx := C0.1.1
  have hb := C0.1.2.1
  have hl : lv_has ls 4 [(0, .ref (a 0)), (1, .int p1), (2, .int p2)] := hl
  have hB45 : ∀ (s0 : Int32) (H : Heap) (locs : List Loc) (ls : Array Slot), fX7_ofSide_45 v ar p1 p2 s0 = some r → va_P D vwCl (mW cI a v ar) H → va_S (kA a 15) s.heap H locs → lv_has ls 4 [(0, .ref (a 0)), (1, .int p1), (2, .int p2)] → kGo p l e 4 88 s m args below meth c D (mW cI a) (kA a 15) (some (.int r)) v ar H locs (F0 m 45 ls [.int s0]) := by
    intro  s0 H locs ls hf hP hS hl
    unfold fX7_ofSide_45 at hf
    refine lv_istore_n (lv' := [(3, .int s0), (0, .ref (a 0)), (1, .int p1), (2, .int p2)]) hx hb dX7_ofSide_45 rfl hl (by decide) rfl (fun ls hl => ?_)
    refine lv_iload_n hx hb dX7_ofSide_46 rfl (lv_at hl 3 rfl) ?_
    refine lv_if_ne (tgt := 54) hx hb dX7_ofSide_47 (by decide) (fun c8 => ?_) (fun c8 => ?_)
    · have hf := kif_f c8 hf
      refine lv_iload_n hx hb dX7_ofSide_54 rfl (lv_at hl 3 rfl) ?_
      refine lv_iconst (v := (1 : Int32)) hx hb dX7_ofSide_55 (by decide) ?_
      refine lv_icmp_ne (tgt := 67) hx hb dX7_ofSide_56 (by decide) (fun c9 => ?_) (fun c9 => ?_)
      · have hf := kif_f c9 hf
        refine lv_iload_n hx hb dX7_ofSide_67 rfl (lv_at hl 3 rfl) ?_
        refine lv_iconst (v := (2 : Int32)) hx hb dX7_ofSide_68 (by decide) ?_
        refine lv_icmp_ne (tgt := 84) hx hb dX7_ofSide_69 (by decide) (fun c10 => ?_) (fun c10 => ?_)
        · have hf := kif_f c10 hf
          refine lv_iload_n hx hb dX7_ofSide_84 rfl (lv_at hl 3 rfl) ?_
          refine lv_iconst (v := (3 : Int32)) hx hb dX7_ofSide_85 (by decide) ?_
          refine lv_icmp_ne (tgt := 109) hx hb dX7_ofSide_86 (by decide) (fun c11 => ?_) (fun c11 => ?_)
          · have hf := kif_f c11 hf
            refine lv_bipush (v := (-2 : Int32)) hx hb dX7_ofSide_109 (by decide) ?_
            obtain rfl := Option.some.inj hf
            exact kret_i C0 hr hlk hP hS dX7_ofSide_111
          · have hf := kif_t c11 hf
            refine lv_aload_n hx hb dX7_ofSide_89 rfl (lv_at hl 1 rfl) ?_
            refine lv_iload_n hx hb dX7_ofSide_90 rfl (lv_at hl 2 rfl) ?_
            refine lv_aload_n hx hb dX7_ofSide_91 rfl (lv_at hl 1 rfl) ?_
            refine xg_M_7 C0 hP q_604 dX7_ofSide_92 ?_
            obtain ⟨r13, e12, hf⟩ := kb1_s hf
            refine kcallV (As := [.int p1, .int (v (7))]) (rest := []) C0 (cX7_isWithin_c hap e12) q_790 kw_X7_isWithin (xv_M C0.2 hP) hP hS ⟨Nat.le_of_ble_eq_true rfl, Nat.le_of_ble_eq_true rfl⟩ rfl hl.1 rfl (Nat.le_of_ble_eq_true rfl) dX7_ofSide_95 (fun H locs hP hS => ?_)
            refine lv_if_eq (tgt := 105) hx hb dX7_ofSide_98 (by decide) (fun c14 => ?_) (fun c14 => ?_)
            · have hf := kif_t c14 hf
              refine lv_iconst (v := (0 : Int32)) hx hb dX7_ofSide_105 (by decide) ?_
              refine lv_goto (tgt := 111) hx hb dX7_ofSide_106 (by decide) ?_
              obtain rfl := Option.some.inj hf
              exact kret_i C0 hr hlk hP hS dX7_ofSide_111
            · have hf := kif_f c14 hf
              refine lv_iconst (v := (1 : Int32)) hx hb dX7_ofSide_101 (by decide) ?_
              refine lv_goto (tgt := 111) hx hb dX7_ofSide_102 (by decide) ?_
              obtain rfl := Option.some.inj hf
              exact kret_i C0 hr hlk hP hS dX7_ofSide_111
        · have hf := kif_t c10 hf
          refine lv_aload_n hx hb dX7_ofSide_72 rfl (lv_at hl 1 rfl) ?_
          refine lv_iload_n hx hb dX7_ofSide_73 rfl (lv_at hl 2 rfl) ?_
          refine lv_aload_n hx hb dX7_ofSide_74 rfl (lv_at hl 1 rfl) ?_
          refine xg_M_7 C0 hP q_604 dX7_ofSide_75 ?_
          obtain ⟨r16, e15, hf⟩ := kb1_s hf
          refine kcallV (As := [.int p1, .int (v (7))]) (rest := []) C0 (cX7_shareOf_c hap e15) q_786 kw_X7_shareOf (xv_M C0.2 hP) hP hS ⟨Nat.le_of_ble_eq_true rfl, Nat.le_of_ble_eq_true rfl⟩ rfl hl.1 rfl (Nat.le_of_ble_eq_true rfl) dX7_ofSide_78 (fun H locs hP hS => ?_)
          refine lv_goto (tgt := 111) hx hb dX7_ofSide_81 (by decide) ?_
          obtain rfl := Option.some.inj hf
          exact kret_i C0 hr hlk hP hS dX7_ofSide_111
      · have hf := kif_t c9 hf
        refine lv_aload_n hx hb dX7_ofSide_59 rfl (lv_at hl 1 rfl) ?_
        refine lv_iload_n hx hb dX7_ofSide_60 rfl (lv_at hl 0 rfl) ?_
        obtain ⟨r18, e17, hf⟩ := kb1_s hf
        refine kcallV (As := [.int s0]) (rest := []) C0 (cX7_weightOfSet_c hap e17) q_769 kw_X7_weightOfSet (xv_M C0.2 hP) hP hS ⟨Nat.le_of_ble_eq_true rfl, Nat.le_of_ble_eq_true rfl⟩ rfl hl.1 rfl (Nat.le_of_ble_eq_true rfl) dX7_ofSide_61 (fun H locs hP hS => ?_)
        refine lv_goto (tgt := 111) hx hb dX7_ofSide_64 (by decide) ?_
        obtain rfl := Option.some.inj hf
        exact kret_i C0 hr hlk hP hS dX7_ofSide_111
    · have hf := kif_t c8 hf
      refine lv_iload_n hx hb dX7_ofSide_50 rfl (lv_at hl 0 rfl) ?_
      refine lv_goto (tgt := 111) hx hb dX7_ofSide_51 (by decide) ?_
      obtain rfl := Option.some.inj hf
      exact kret_i C0 hr hlk hP hS dX7_ofSide_111
  unfold fX7_ofSide at hf
  refine lv_aload_n hx hb dX7_ofSide_0 rfl (lv_at hl 0 rfl) ?_
  refine xg_M_5 C0 hP q_602 dX7_ofSide_1 ?_
  refine lv_if_ne (tgt := 10) hx hb dX7_ofSide_4 (by decide) (fun c1 => ?_) (fun c1 => ?_)
  · have hf := kif_f c1 hf
    refine lv_iload_n hx hb dX7_ofSide_10 rfl (lv_at hl 1 rfl) ?_
    refine lv_iconst (v := (0 : Int32)) hx hb dX7_ofSide_11 (by decide) ?_
    refine lv_iconst (v := (1 : Int32)) hx hb dX7_ofSide_12 (by decide) ?_
    obtain ⟨r3, e2, hf⟩ := kb1_s hf
    refine kcallT (As := [.int p1, .int (0 : Int32), .int (1 : Int32)]) (rest := []) C0 (cX7_within_c hap e2) q_701 kw_X7_within hP hS ⟨Nat.le_of_ble_eq_true rfl, Nat.le_of_ble_eq_true rfl⟩ rfl hl.1 rfl (Nat.le_of_ble_eq_true rfl) dX7_ofSide_13 (fun H locs hP hS => ?_)
    refine lv_if_ne (tgt := 22) hx hb dX7_ofSide_16 (by decide) (fun c4 => ?_) (fun c4 => ?_)
    · have hf := kif_f c4 hf
      refine lv_iload_n hx hb dX7_ofSide_22 rfl (lv_at hl 1 rfl) ?_
      refine lv_iconst (v := (1 : Int32)) hx hb dX7_ofSide_23 (by decide) ?_
      refine lv_icmp_ne (tgt := 34) hx hb dX7_ofSide_24 (by decide) (fun c5 => ?_) (fun c5 => ?_)
      · have hf := kif_f c5 hf
        refine lv_aload_n hx hb dX7_ofSide_34 rfl (lv_at hl 0 rfl) ?_
        obtain ⟨r7, e6, hf⟩ := kb1_s hf
        refine kcallV (As := []) (rest := []) C0 (cX7_all_c hap e6) q_765 kw_X7_all (xv_M C0.2 hP) hP hS ⟨Nat.le_of_ble_eq_true rfl, Nat.le_of_ble_eq_true rfl⟩ rfl hl.1 rfl (Nat.le_of_ble_eq_true rfl) dX7_ofSide_35 (fun H locs hP hS => ?_)
        refine lv_aload_n hx hb dX7_ofSide_38 rfl (lv_at hl 0 rfl) ?_
        refine xg_M_7 C0 hP q_604 dX7_ofSide_39 ?_
        refine lv_iconst (v := (-1 : Int32)) hx hb dX7_ofSide_42 (by decide) ?_
        refine lv_ixor hx hb dX7_ofSide_43 ?_
        refine lv_iand hx hb dX7_ofSide_44 ?_
        exact hB45 _ _ _ _ hf hP hS (lv_sub hl [0, 1, 2] rfl)
      · have hf := kif_t c5 hf
        refine lv_aload_n hx hb dX7_ofSide_27 rfl (lv_at hl 0 rfl) ?_
        refine xg_M_7 C0 hP q_604 dX7_ofSide_28 ?_
        refine lv_goto (tgt := 45) hx hb dX7_ofSide_31 (by decide) ?_
        exact hB45 _ _ _ _ hf hP hS (lv_sub hl [0, 1, 2] rfl)
    · have hf := kif_t c4 hf
      refine lv_bipush (v := (-2 : Int32)) hx hb dX7_ofSide_19 (by decide) ?_
      obtain rfl := Option.some.inj hf
      exact kret_i C0 hr hlk hP hS dX7_ofSide_21
  · have hf := kif_t c1 hf
    refine lv_bipush (v := (-3 : Int32)) hx hb dX7_ofSide_7 (by decide) ?_
    obtain rfl := Option.some.inj hf
    exact kret_i C0 hr hlk hP hS dX7_ofSide_9
set_option maxHeartbeats 4000000 in
set_option maxRecDepth 100000 in
theorem cX7_bulk_c {l : Launch} {D : va_G} {cI cS : ClassId} {a : Nat → Nat} (hap : kAp a 15) {v : kV} {ar : kR} {p1 : Int32} {p2 : Int32} {r : Int32} {v2 : kV} {ar2 : kR} (hf : fX7_bulk v ar p1 p2 = some (r, v2, ar2)) : kMet l D cI cS (mW cI a) (kA a 15) yX7_bulk cX7_bulk 4 (some .int) 1 22 [.ref (a 0), .int p1, .int p2] v ar (some (.int r)) v2 ar2 := by
  refine kstart (by decide) (Nat.le_of_ble_eq_true rfl) ?_
  intro p e s m args below meth c ls C0 hr hlk hl hP hS
  have C0 : kC p s m c args cX7_bulk 4 RX7 D cI cS := C0
  have hx := C0.1.1
  have hb := C0.1.2.1
  have hl : lv_has ls 4 [(0, .ref (a 0)), (1, .int p1), (2, .int p2)] := hl
  unfold fX7_bulk at hf
  refine lv_aload_n hx hb dX7_bulk_0 rfl (lv_at hl 0 rfl) ?_
  refine lv_iload_n hx hb dX7_bulk_1 rfl (lv_at hl 1 rfl) ?_
  obtain ⟨r2, e1, hf⟩ := kb1_s hf
  refine kcallV (As := [.int p1]) (rest := []) C0 (cX7_isCell_c hap e1) q_741 kw_X7_isCell (xv_M C0.2 hP) hP hS ⟨Nat.le_of_ble_eq_true rfl, Nat.le_of_ble_eq_true rfl⟩ rfl hl.1 rfl (Nat.le_of_ble_eq_true rfl) dX7_bulk_2 (fun H locs hP hS => ?_)
  refine lv_if_ne (tgt := 10) hx hb dX7_bulk_5 (by decide) (fun c3 => ?_) (fun c3 => ?_)
  · have hf := kif_f c3 hf
    refine lv_iload_n hx hb dX7_bulk_10 rfl (lv_at hl 2 rfl) ?_
    refine lv_iconst (v := (1 : Int32)) hx hb dX7_bulk_11 (by decide) ?_
    refine lv_bipush (v := (9 : Int32)) hx hb dX7_bulk_12 (by decide) ?_
    obtain ⟨r5, e4, hf⟩ := kb1_s hf
    refine kcallT (As := [.int p2, .int (1 : Int32), .int (9 : Int32)]) (rest := []) C0 (cX7_within_c hap e4) q_701 kw_X7_within hP hS ⟨Nat.le_of_ble_eq_true rfl, Nat.le_of_ble_eq_true rfl⟩ rfl hl.1 rfl (Nat.le_of_ble_eq_true rfl) dX7_bulk_14 (fun H locs hP hS => ?_)
    refine lv_if_ne (tgt := 23) hx hb dX7_bulk_17 (by decide) (fun c6 => ?_) (fun c6 => ?_)
    · have hf := kif_f c6 hf
      refine lv_aload_n hx hb dX7_bulk_23 rfl (lv_at hl 0 rfl) ?_
      refine xg_M_14 C0 hP q_611 dX7_bulk_24 ?_
      refine lv_iload_n hx hb dX7_bulk_27 rfl (lv_at hl 1 rfl) ?_
      obtain ⟨g7, hf⟩ := kgd hf
      refine ml_bulk C0 hP g7 dX7_bulk_28 ?_
      refine lv_istore_n (lv' := [(3, .int (ar (5) p1.toNatClampNeg)), (0, .ref (a 0)), (1, .int p1), (2, .int p2)]) hx hb dX7_bulk_29 rfl hl (by decide) rfl (fun ls hl => ?_)
      refine lv_aload_n hx hb dX7_bulk_30 rfl (lv_at hl 1 rfl) ?_
      refine xg_M_14 C0 hP q_611 dX7_bulk_31 ?_
      refine lv_iload_n hx hb dX7_bulk_34 rfl (lv_at hl 2 rfl) ?_
      refine lv_iload_n hx hb dX7_bulk_35 rfl (lv_at hl 3 rfl) ?_
      obtain ⟨g8, hf⟩ := kgd hf
      refine mt_bulk C0 hap hP hS g8 dX7_bulk_36 (fun H locs hP hS => ?_)
      refine lv_iload_n hx hb dX7_bulk_37 rfl (lv_at hl 0 rfl) ?_
      obtain ⟨rfl, rfl, rfl⟩ := kinj3 hf
      exact kret_i C0 hr hlk hP hS dX7_bulk_38
    · have hf := kif_t c6 hf
      refine lv_bipush (v := (-2 : Int32)) hx hb dX7_bulk_20 (by decide) ?_
      obtain ⟨rfl, rfl, rfl⟩ := kinj3 hf
      exact kret_i C0 hr hlk hP hS dX7_bulk_22
  · have hf := kif_t c3 hf
    refine lv_iconst (v := (-1 : Int32)) hx hb dX7_bulk_8 (by decide) ?_
    obtain ⟨rfl, rfl, rfl⟩ := kinj3 hf
    exact kret_i C0 hr hlk hP hS dX7_bulk_9
set_option maxHeartbeats 4000000 in
set_option maxRecDepth 100000 in
theorem cX7_bound_c {l : Launch} {D : va_G} {cI cS : ClassId} {a : Nat → Nat} (hap : kAp a 15) {v : kV} {ar : kR} {p1 : Int32} {r : Int32} {v2 : kV} {ar2 : kR} (hf : fX7_bound v ar p1 = some (r, v2, ar2)) : kMet l D cI cS (mW cI a) (kA a 15) yX7_bound cX7_bound 3 (some .int) 1 22 [.ref (a 0), .int p1] v ar (some (.int r)) v2 ar2 := by
  refine kstart (by decide) (Nat.le_of_ble_eq_true rfl) ?_
  intro p e s m args below meth c ls C0 hr hlk hl hP hS
  have C0 : kC p s m c args cX7_bound 3 RX7 D cI cS := C0
  have hx := C0.1.1
  have hb := C0.1.2.1
  have hl : lv_has ls 3 [(0, .ref (a 0)), (1, .int p1)] := hl
  unfold fX7_bound at hf
  refine lv_aload_n hx hb dX7_bound_0 rfl (lv_at hl 0 rfl) ?_
  refine xg_M_5 C0 hP q_602 dX7_bound_1 ?_
  refine lv_if_ne (tgt := 10) hx hb dX7_bound_4 (by decide) (fun c1 => ?_) (fun c1 => ?_)
  · have hf := kif_f c1 hf
    refine lv_iload_n hx hb dX7_bound_10 rfl (lv_at hl 1 rfl) ?_
    refine lv_ldc (v := (1056964608 : Int32)) hx hb C0.1.2.2.2.1 (C0.1.2.2.2.2 _ q_802) dX7_bound_11 ?_
    refine lv_ldc (v := (1065353216 : Int32)) hx hb C0.1.2.2.2.1 (C0.1.2.2.2.2 _ q_596) dX7_bound_13 ?_
    obtain ⟨r3, e2, hf⟩ := kb1_s hf
    refine kcallT (As := [.int p1, .int (1056964608 : Int32), .int (1065353216 : Int32)]) (rest := []) C0 (cX7_within_c hap e2) q_701 kw_X7_within hP hS ⟨Nat.le_of_ble_eq_true rfl, Nat.le_of_ble_eq_true rfl⟩ rfl hl.1 rfl (Nat.le_of_ble_eq_true rfl) dX7_bound_15 (fun H locs hP hS => ?_)
    refine lv_if_ne (tgt := 24) hx hb dX7_bound_18 (by decide) (fun c4 => ?_) (fun c4 => ?_)
    · have hf := kif_f c4 hf
      refine lv_aload_n hx hb dX7_bound_24 rfl (lv_at hl 0 rfl) ?_
      refine xg_M_9 C0 hP q_606 dX7_bound_25 ?_
      refine lv_istore_n (lv' := [(2, .int (v (9))), (0, .ref (a 0)), (1, .int p1)]) hx hb dX7_bound_28 rfl hl (by decide) rfl (fun ls hl => ?_)
      refine lv_aload_n hx hb dX7_bound_29 rfl (lv_at hl 1 rfl) ?_
      refine lv_iload_n hx hb dX7_bound_30 rfl (lv_at hl 2 rfl) ?_
      refine xp_M_9 C0 hap hP hS q_606 dX7_bound_31 (fun H locs hP hS => ?_)
      refine lv_iload_n hx hb dX7_bound_34 rfl (lv_at hl 0 rfl) ?_
      obtain ⟨rfl, rfl, rfl⟩ := kinj3 hf
      exact kret_i C0 hr hlk hP hS dX7_bound_35
    · have hf := kif_t c4 hf
      refine lv_bipush (v := (-2 : Int32)) hx hb dX7_bound_21 (by decide) ?_
      obtain ⟨rfl, rfl, rfl⟩ := kinj3 hf
      exact kret_i C0 hr hlk hP hS dX7_bound_23
  · have hf := kif_t c1 hf
    refine lv_bipush (v := (-3 : Int32)) hx hb dX7_bound_7 (by decide) ?_
    obtain ⟨rfl, rfl, rfl⟩ := kinj3 hf
    exact kret_i C0 hr hlk hP hS dX7_bound_9
set_option maxHeartbeats 4000000 in
set_option maxRecDepth 100000 in
theorem cX7_move_c {l : Launch} {D : va_G} {cI cS : ClassId} {a : Nat → Nat} (hap : kAp a 15) {v : kV} {ar : kR} {p1 : Int32} {r : Int32} {v2 : kV} {ar2 : kR} (hf : fX7_move v ar p1 = some (r, v2, ar2)) : kMet l D cI cS (mW cI a) (kA a 15) yX7_move cX7_move 2 (some .int) 2 46 [.ref (a 0), .int p1] v ar (some (.int r)) v2 ar2 := by
  refine kstart (by decide) (Nat.le_of_ble_eq_true rfl) ?_
  intro p e s m args below meth c ls C0 hr hlk hl hP hS
  have C0 : kC p s m c args cX7_move 2 RX7 D cI cS := C0
  have hx := C0.1.1
  have hb := C0.1.2.1
  have hl : lv_has ls 2 [(0, .ref (a 0)), (1, .int p1)] := hl
  unfold fX7_move at hf
  refine lv_aload_n hx hb dX7_move_0 rfl (lv_at hl 0 rfl) ?_
  refine lv_iload_n hx hb dX7_move_1 rfl (lv_at hl 1 rfl) ?_
  obtain ⟨r2, e1, hf⟩ := kb1_s hf
  refine kcallV (As := [.int p1]) (rest := []) C0 (cX7_isCell_c hap e1) q_741 kw_X7_isCell (xv_M C0.2 hP) hP hS ⟨Nat.le_of_ble_eq_true rfl, Nat.le_of_ble_eq_true rfl⟩ rfl hl.1 rfl (Nat.le_of_ble_eq_true rfl) dX7_move_2 (fun H locs hP hS => ?_)
  refine lv_if_ne (tgt := 10) hx hb dX7_move_5 (by decide) (fun c3 => ?_) (fun c3 => ?_)
  · have hf := kif_f c3 hf
    refine lv_aload_n hx hb dX7_move_10 rfl (lv_at hl 0 rfl) ?_
    refine xg_M_8 C0 hP q_605 dX7_move_11 ?_
    refine lv_iload_n hx hb dX7_move_14 rfl (lv_at hl 1 rfl) ?_
    obtain ⟨r5, e4, hf⟩ := kb1_s hf
    refine kcallT (As := [.int (v (8)), .int p1]) (rest := []) C0 (cX7_isOf_c hap e4) q_734 kw_X7_isOf hP hS ⟨Nat.le_of_ble_eq_true rfl, Nat.le_of_ble_eq_true rfl⟩ rfl hl.1 rfl (Nat.le_of_ble_eq_true rfl) dX7_move_15 (fun H locs hP hS => ?_)
    refine lv_if_eq (tgt := 24) hx hb dX7_move_18 (by decide) (fun c6 => ?_) (fun c6 => ?_)
    · have hf := kif_t c6 hf
      refine lv_aload_n hx hb dX7_move_24 rfl (lv_at hl 0 rfl) ?_
      refine lv_dup hx hb dX7_move_25 rfl ?_
      refine xg_M_7 C0 hP q_604 dX7_move_26 ?_
      refine lv_iconst (v := (1 : Int32)) hx hb dX7_move_29 (by decide) ?_
      refine lv_iload_n hx hb dX7_move_30 rfl (lv_at hl 1 rfl) ?_
      refine lv_ishl hx hb dX7_move_31 ?_
      refine lv_ixor hx hb dX7_move_32 ?_
      refine xp_M_7 C0 hap hP hS q_604 dX7_move_33 (fun H locs hP hS => ?_)
      refine lv_aload_n hx hb dX7_move_36 rfl (lv_at hl 0 rfl) ?_
      refine lv_aload_n hx hb dX7_move_37 rfl (lv_at hl 0 rfl) ?_
      refine xg_M_7 C0 hP q_604 dX7_move_38 ?_
      obtain ⟨r8, e7, hf⟩ := kb1_s hf
      refine kcallV (As := [.int ((upd v (7) ((v (7)) ^^^ ((1 : Int32) <<< (p1 &&& 31)))) (7))]) (rest := []) C0 (cX7_cutsBy_c hap e7) q_757 kw_X7_cutsBy (xv_M C0.2 hP) hP hS ⟨Nat.le_of_ble_eq_true rfl, Nat.le_of_ble_eq_true rfl⟩ rfl hl.1 rfl (Nat.le_of_ble_eq_true rfl) dX7_move_41 (fun H locs hP hS => ?_)
      obtain ⟨rfl, rfl, rfl⟩ := kinj3 hf
      exact kret_i C0 hr hlk hP hS dX7_move_44
    · have hf := kif_f c6 hf
      refine lv_bipush (v := (-3 : Int32)) hx hb dX7_move_21 (by decide) ?_
      obtain ⟨rfl, rfl, rfl⟩ := kinj3 hf
      exact kret_i C0 hr hlk hP hS dX7_move_23
  · have hf := kif_t c3 hf
    refine lv_iconst (v := (-1 : Int32)) hx hb dX7_move_8 (by decide) ?_
    obtain ⟨rfl, rfl, rfl⟩ := kinj3 hf
    exact kret_i C0 hr hlk hP hS dX7_move_9
set_option maxHeartbeats 4000000 in
set_option maxRecDepth 100000 in
theorem cX7_isBetter_c {l : Launch} {D : va_G} {cI cS : ClassId} {a : Nat → Nat} (hap : kAp a 15) {v : kV} {ar : kR} {p1 : Int32} {p2 : Int32} {p3 : Int32} {p4 : Int32} {r : Bool} (hf : fX7_isBetter v ar p1 p2 p3 p4 = some r) : kMet l D cI cS (mW cI a) (kA a 15) yX7_isBetter cX7_isBetter 7 (some .boolean) 3 68 [.ref (a 0), .int p1, .int p2, .int p3, .int p4] v ar (some (.int (bI r))) v ar := by
  refine kstart (by decide) (Nat.le_of_ble_eq_true rfl) ?_
  intro p e s m args below meth c ls C0 hr hlk hl hP hS
  have C0 : kC p s m c args cX7_isBetter 7 RX7 D cI cS := C0
  have hx := C0.1.1
  have hb := C0.1.2.1
  have hl : lv_has ls 7 [(0, .ref (a 0)), (1, .int p1), (2, .int p2), (3, .int p3), (4, .int p4)] := hl
  unfold fX7_isBetter at hf
  refine lv_aload_n hx hb dX7_isBetter_0 rfl (lv_at hl 0 rfl) ?_
  refine lv_iload_n hx hb dX7_isBetter_1 rfl (lv_at hl 1 rfl) ?_
  refine lv_iload hx hb dX7_isBetter_2 (lv_at hl 4 rfl) ?_
  obtain ⟨r2, e1, hf⟩ := kb1_s hf
  refine kcallV (As := [.int p1, .int p4]) (rest := []) C0 (cX7_gainOf_c hap e1) q_753 kw_X7_gainOf (xv_M C0.2 hP) hP hS ⟨Nat.le_of_ble_eq_true rfl, Nat.le_of_ble_eq_true rfl⟩ rfl hl.1 rfl (Nat.le_of_ble_eq_true rfl) dX7_isBetter_4 (fun H locs hP hS => ?_)
  refine lv_istore (lv' := [(5, .int r2), (0, .ref (a 0)), (1, .int p1), (2, .int p2), (3, .int p3), (4, .int p4)]) hx hb dX7_isBetter_7 hl (by decide) rfl (fun ls hl => ?_)
  refine lv_aload_n hx hb dX7_isBetter_9 rfl (lv_at hl 1 rfl) ?_
  refine lv_iload_n hx hb dX7_isBetter_10 rfl (lv_at hl 3 rfl) ?_
  refine lv_iload hx hb dX7_isBetter_11 (lv_at hl 5 rfl) ?_
  obtain ⟨r4, e3, hf⟩ := kb1_s hf
  refine kcallV (As := [.int p2, .int p4]) (rest := []) C0 (cX7_gainOf_c hap e3) q_753 kw_X7_gainOf (xv_M C0.2 hP) hP hS ⟨Nat.le_of_ble_eq_true rfl, Nat.le_of_ble_eq_true rfl⟩ rfl hl.1 rfl (Nat.le_of_ble_eq_true rfl) dX7_isBetter_13 (fun H locs hP hS => ?_)
  refine lv_istore (lv' := [(6, .int r4), (5, .int r2), (0, .ref (a 0)), (1, .int p1), (2, .int p2), (3, .int p3), (4, .int p4)]) hx hb dX7_isBetter_16 hl (by decide) rfl (fun ls hl => ?_)
  refine lv_iload_n hx hb dX7_isBetter_18 rfl (lv_at hl 5 rfl) ?_
  refine lv_iconst (v := (2 : Int32)) hx hb dX7_isBetter_19 (by decide) ?_
  refine lv_icmp_ne (tgt := 48) hx hb dX7_isBetter_20 (by decide) (fun c5 => ?_) (fun c5 => ?_)
  · have hf := kif_f c5 hf
    refine lv_iload hx hb dX7_isBetter_48 (lv_at hl 1 rfl) ?_
    refine lv_iload hx hb dX7_isBetter_50 (lv_at hl 0 rfl) ?_
    refine lv_icmp_eq (tgt := 70) hx hb dX7_isBetter_52 (by decide) (fun c6 => ?_) (fun c6 => ?_)
    · have hf := kif_t c6 hf
      refine lv_iload_n hx hb dX7_isBetter_70 rfl (lv_at hl 5 rfl) ?_
      refine lv_iconst (v := (1 : Int32)) hx hb dX7_isBetter_71 (by decide) ?_
      refine lv_icmp_ne (tgt := 92) hx hb dX7_isBetter_72 (by decide) (fun c7 => ?_) (fun c7 => ?_)
      · have hf := kif_f c7 hf
        refine lv_iconst (v := (0 : Int32)) hx hb dX7_isBetter_92 (by decide) ?_
        obtain rfl := Option.some.inj hf
        exact kret_z false rfl C0 hr hlk hP hS dX7_isBetter_93
      · have hf := kif_t c7 hf
        refine lv_aload_n hx hb dX7_isBetter_75 rfl (lv_at hl 2 rfl) ?_
        refine lv_iload_n hx hb dX7_isBetter_76 rfl (lv_at hl 3 rfl) ?_
        obtain ⟨r9, e8, hf⟩ := kb1_s hf
        refine kcallV (As := [.int p1]) (rest := []) C0 (cX7_weightOf_c hap e8) q_745 kw_X7_weightOf (xv_M C0.2 hP) hP hS ⟨Nat.le_of_ble_eq_true rfl, Nat.le_of_ble_eq_true rfl⟩ rfl hl.1 rfl (Nat.le_of_ble_eq_true rfl) dX7_isBetter_77 (fun H locs hP hS => ?_)
        refine lv_aload_n hx hb dX7_isBetter_80 rfl (lv_at hl 2 rfl) ?_
        refine lv_iload_n hx hb dX7_isBetter_81 rfl (lv_at hl 4 rfl) ?_
        obtain ⟨r11, e10, hf⟩ := kb1_s hf
        refine kcallV (As := [.int p2]) (rest := [.int r9]) C0 (cX7_weightOf_c hap e10) q_745 kw_X7_weightOf (xv_M C0.2 hP) hP hS ⟨Nat.le_of_ble_eq_true rfl, Nat.le_of_ble_eq_true rfl⟩ rfl hl.1 rfl (Nat.le_of_ble_eq_true rfl) dX7_isBetter_82 (fun H locs hP hS => ?_)
        refine lv_icmp_le (tgt := 92) hx hb dX7_isBetter_85 (by decide) (fun c12 => ?_) (fun c12 => ?_)
        · have hf := kif_t c12 hf
          refine lv_iconst (v := (0 : Int32)) hx hb dX7_isBetter_92 (by decide) ?_
          obtain rfl := Option.some.inj hf
          exact kret_z false rfl C0 hr hlk hP hS dX7_isBetter_93
        · have hf := kif_f c12 hf
          refine lv_iconst (v := (1 : Int32)) hx hb dX7_isBetter_88 (by decide) ?_
          refine lv_goto (tgt := 93) hx hb dX7_isBetter_89 (by decide) ?_
          obtain rfl := Option.some.inj hf
          exact kret_z true rfl C0 hr hlk hP hS dX7_isBetter_93
    · have hf := kif_f c6 hf
      refine lv_iload hx hb dX7_isBetter_55 (lv_at hl 1 rfl) ?_
      refine lv_iload hx hb dX7_isBetter_57 (lv_at hl 0 rfl) ?_
      refine lv_icmp_le (tgt := 66) hx hb dX7_isBetter_59 (by decide) (fun c13 => ?_) (fun c13 => ?_)
      · have hf := kif_t c13 hf
        refine lv_iconst (v := (0 : Int32)) hx hb dX7_isBetter_66 (by decide) ?_
        refine lv_goto (tgt := 93) hx hb dX7_isBetter_67 (by decide) ?_
        obtain rfl := Option.some.inj hf
        exact kret_z false rfl C0 hr hlk hP hS dX7_isBetter_93
      · have hf := kif_f c13 hf
        refine lv_iconst (v := (1 : Int32)) hx hb dX7_isBetter_62 (by decide) ?_
        refine lv_goto (tgt := 93) hx hb dX7_isBetter_63 (by decide) ?_
        obtain rfl := Option.some.inj hf
        exact kret_z true rfl C0 hr hlk hP hS dX7_isBetter_93
  · have hf := kif_t c5 hf
    refine lv_iload hx hb dX7_isBetter_23 (lv_at hl 1 rfl) ?_
    refine lv_aload_n hx hb dX7_isBetter_25 rfl (lv_at hl 2 rfl) ?_
    refine lv_iload_n hx hb dX7_isBetter_26 rfl (lv_at hl 4 rfl) ?_
    obtain ⟨r15, e14, hf⟩ := kb1_s hf
    refine kcallV (As := [.int p2]) (rest := [.int r2]) C0 (cX7_weightOf_c hap e14) q_745 kw_X7_weightOf (xv_M C0.2 hP) hP hS ⟨Nat.le_of_ble_eq_true rfl, Nat.le_of_ble_eq_true rfl⟩ rfl hl.1 rfl (Nat.le_of_ble_eq_true rfl) dX7_isBetter_27 (fun H locs hP hS => ?_)
    refine lv_imul hx hb dX7_isBetter_30 ?_
    refine lv_iload hx hb dX7_isBetter_31 (lv_at hl 0 rfl) ?_
    refine lv_aload_n hx hb dX7_isBetter_33 rfl (lv_at hl 2 rfl) ?_
    refine lv_iload_n hx hb dX7_isBetter_34 rfl (lv_at hl 3 rfl) ?_
    obtain ⟨r17, e16, hf⟩ := kb1_s hf
    refine kcallV (As := [.int p1]) (rest := [.int r4, .int (r2 * r15)]) C0 (cX7_weightOf_c hap e16) q_745 kw_X7_weightOf (xv_M C0.2 hP) hP hS ⟨Nat.le_of_ble_eq_true rfl, Nat.le_of_ble_eq_true rfl⟩ rfl hl.1 rfl (Nat.le_of_ble_eq_true rfl) dX7_isBetter_35 (fun H locs hP hS => ?_)
    refine lv_imul hx hb dX7_isBetter_38 ?_
    refine lv_icmp_le (tgt := 46) hx hb dX7_isBetter_39 (by decide) (fun c18 => ?_) (fun c18 => ?_)
    · have hf := kif_t c18 hf
      refine lv_iconst (v := (0 : Int32)) hx hb dX7_isBetter_46 (by decide) ?_
      obtain rfl := Option.some.inj hf
      exact kret_z false rfl C0 hr hlk hP hS dX7_isBetter_47
    · have hf := kif_f c18 hf
      refine lv_iconst (v := (1 : Int32)) hx hb dX7_isBetter_42 (by decide) ?_
      refine lv_goto (tgt := 47) hx hb dX7_isBetter_43 (by decide) ?_
      obtain rfl := Option.some.inj hf
      exact kret_z true rfl C0 hr hlk hP hS dX7_isBetter_47
set_option maxHeartbeats 4000000 in
set_option maxRecDepth 100000 in
theorem cX7_bestOf_c {l : Launch} {D : va_G} {cI cS : ClassId} {a : Nat → Nat} (hap : kAp a 15) {v : kV} {ar : kR} {p1 : Int32} {p2 : Int32} {p3 : Int32} {r : Int32} (hf : fX7_bestOf v ar p1 p2 p3 = some r) : kMet l D cI cS (mW cI a) (kA a 15) yX7_bestOf cX7_bestOf 8 (some .int) 4 94 [.ref (a 0), .int p1, .int p2, .int p3] v ar (some (.int r)) v ar := by
  refine kstart (by decide) (Nat.le_of_ble_eq_true rfl) ?_
  intro p e s m args below meth c ls C0 hr hlk hl hP hS
  have C0 : kC p s m c args cX7_bestOf 8 RX7 D cI cS := C0
  have hx := C0.1.1
  have hb := C0.1.2.1
  have hl : lv_has ls 8 [(0, .ref (a 0)), (1, .int p1), (2, .int p2), (3, .int p3)] := hl
  have hB100 : ∀ (rec7 : Int32 → Int32 → Option Int32) (hrec7 : ∀ (x4 : Int32) (x5 : Int32) (H : Heap) (locs : List Loc) (ls : Array Slot), rec7 x4 x5 = some r → va_P D vwCl (mW cI a v ar) H → va_S (kA a 15) s.heap H locs → lv_has ls 8 [(0, .ref (a 0)), (1, .int p1), (2, .int p2), (3, .int p3), (4, .int x4), (5, .int x5)] → kGo p l e 4 94 s m args below meth c D (mW cI a) (kA a 15) (some (.int r)) v ar H locs (F0 m 7 ls [])) , ∀ (x5 : Int32) (s0 : Int32) (H : Heap) (locs : List Loc) (ls : Array Slot), fX7_bestOf_100 v ar p1 p2 p3 rec7 x5 s0 = some r → va_P D vwCl (mW cI a v ar) H → va_S (kA a 15) s.heap H locs → lv_has ls 8 [(0, .ref (a 0)), (1, .int p1), (2, .int p2), (3, .int p3), (5, .int x5)] → kGo p l e 4 94 s m args below meth c D (mW cI a) (kA a 15) (some (.int r)) v ar H locs (F0 m 100 ls [.int s0]) := by
    intro rec7 hrec7 x5 s0 H locs ls hf hP hS hl
    unfold fX7_bestOf_100 at hf
    refine lv_istore (lv' := [(4, .int s0), (0, .ref (a 0)), (1, .int p1), (2, .int p2), (3, .int p3), (5, .int x5)]) hx hb dX7_bestOf_100 hl (by decide) rfl (fun ls hl => ?_)
    refine lv_iinc (v := (x5 + (1 : Int32))) (lv' := [(5, .int (x5 + (1 : Int32))), (4, .int s0), (0, .ref (a 0)), (1, .int p1), (2, .int p2), (3, .int p3)]) hx hb dX7_bestOf_102 hl (k := 5) rfl rfl (by decide) rfl (fun ls hl => ?_)
    refine lv_goto (tgt := 7) hx hb dX7_bestOf_105 (by decide) ?_
    exact hrec7 _ _ _ _ _ hf hP hS (lv_sub hl [2, 3, 4, 5, 1, 0] rfl)
  have hB98 : ∀ (rec7 : Int32 → Int32 → Option Int32) (hrec7 : ∀ (x4 : Int32) (x5 : Int32) (H : Heap) (locs : List Loc) (ls : Array Slot), rec7 x4 x5 = some r → va_P D vwCl (mW cI a v ar) H → va_S (kA a 15) s.heap H locs → lv_has ls 8 [(0, .ref (a 0)), (1, .int p1), (2, .int p2), (3, .int p3), (4, .int x4), (5, .int x5)] → kGo p l e 4 94 s m args below meth c D (mW cI a) (kA a 15) (some (.int r)) v ar H locs (F0 m 7 ls [])) , ∀ (x4 : Int32) (x5 : Int32) (H : Heap) (locs : List Loc) (ls : Array Slot), fX7_bestOf_98 v ar p1 p2 p3 rec7 x4 x5 = some r → va_P D vwCl (mW cI a v ar) H → va_S (kA a 15) s.heap H locs → lv_has ls 8 [(0, .ref (a 0)), (1, .int p1), (2, .int p2), (3, .int p3), (4, .int x4), (5, .int x5)] → kGo p l e 4 94 s m args below meth c D (mW cI a) (kA a 15) (some (.int r)) v ar H locs (F0 m 98 ls []) := by
    intro rec7 hrec7 x4 x5 H locs ls hf hP hS hl
    unfold fX7_bestOf_98 at hf
    refine lv_iload hx hb dX7_bestOf_98 (lv_at hl 4 rfl) ?_
    exact hB100 _ hrec7 _ _ _ _ _ hf hP hS (lv_sub hl [0, 1, 2, 3, 5] rfl)
  have hB93 : ∀ (rec7 : Int32 → Int32 → Option Int32) (hrec7 : ∀ (x4 : Int32) (x5 : Int32) (H : Heap) (locs : List Loc) (ls : Array Slot), rec7 x4 x5 = some r → va_P D vwCl (mW cI a v ar) H → va_S (kA a 15) s.heap H locs → lv_has ls 8 [(0, .ref (a 0)), (1, .int p1), (2, .int p2), (3, .int p3), (4, .int x4), (5, .int x5)] → kGo p l e 4 94 s m args below meth c D (mW cI a) (kA a 15) (some (.int r)) v ar H locs (F0 m 7 ls [])) , ∀ (x5 : Int32) (H : Heap) (locs : List Loc) (ls : Array Slot), fX7_bestOf_93 v ar p1 p2 p3 rec7 x5 = some r → va_P D vwCl (mW cI a v ar) H → va_S (kA a 15) s.heap H locs → lv_has ls 8 [(0, .ref (a 0)), (1, .int p1), (2, .int p2), (3, .int p3), (5, .int x5)] → kGo p l e 4 94 s m args below meth c D (mW cI a) (kA a 15) (some (.int r)) v ar H locs (F0 m 93 ls []) := by
    intro rec7 hrec7 x5 H locs ls hf hP hS hl
    unfold fX7_bestOf_93 at hf
    refine lv_iload hx hb dX7_bestOf_93 (lv_at hl 4 rfl) ?_
    refine lv_goto (tgt := 100) hx hb dX7_bestOf_95 (by decide) ?_
    exact hB100 _ hrec7 _ _ _ _ _ hf hP hS (lv_sub hl [0, 1, 2, 3, 4] rfl)
  have hB66 : ∀ (rec7 : Int32 → Int32 → Option Int32) (hrec7 : ∀ (x4 : Int32) (x5 : Int32) (H : Heap) (locs : List Loc) (ls : Array Slot), rec7 x4 x5 = some r → va_P D vwCl (mW cI a v ar) H → va_S (kA a 15) s.heap H locs → lv_has ls 8 [(0, .ref (a 0)), (1, .int p1), (2, .int p2), (3, .int p3), (4, .int x4), (5, .int x5)] → kGo p l e 4 94 s m args below meth c D (mW cI a) (kA a 15) (some (.int r)) v ar H locs (F0 m 7 ls [])) , ∀ (x4 : Int32) (x5 : Int32) (s0 : Int32) (H : Heap) (locs : List Loc) (ls : Array Slot), fX7_bestOf_66 v ar p1 p2 p3 rec7 x4 x5 s0 = some r → va_P D vwCl (mW cI a v ar) H → va_S (kA a 15) s.heap H locs → lv_has ls 8 [(0, .ref (a 0)), (1, .int p1), (2, .int p2), (3, .int p3), (4, .int x4), (5, .int x5)] → kGo p l e 4 94 s m args below meth c D (mW cI a) (kA a 15) (some (.int r)) v ar H locs (F0 m 66 ls [.int s0]) := by
    intro rec7 hrec7 x4 x5 s0 H locs ls hf hP hS hl
    unfold fX7_bestOf_66 at hf
    refine lv_istore (lv' := [(7, .int s0), (0, .ref (a 0)), (1, .int p1), (2, .int p2), (3, .int p3), (4, .int x4), (5, .int x5)]) hx hb dX7_bestOf_66 hl (by decide) rfl (fun ls hl => ?_)
    refine lv_iload hx hb dX7_bestOf_68 (lv_at hl 0 rfl) ?_
    refine lv_if_eq (tgt := 98) hx hb dX7_bestOf_70 (by decide) (fun c5 => ?_) (fun c5 => ?_)
    · have hf := kif_t c5 hf
      exact hB98 _ hrec7 _ _ _ _ _ hf hP hS (lv_sub hl [1, 2, 3, 4, 5, 6] rfl)
    · have hf := kif_f c5 hf
      refine lv_iload hx hb dX7_bestOf_73 (lv_at hl 5 rfl) ?_
      refine lv_bipush (v := (-9 : Int32)) hx hb dX7_bestOf_75 (by decide) ?_
      refine lv_icmp_eq (tgt := 93) hx hb dX7_bestOf_77 (by decide) (fun c6 => ?_) (fun c6 => ?_)
      · have hf := kif_t c6 hf
        exact hB93 _ hrec7 _ _ _ _ hf hP hS (lv_sub hl [1, 2, 3, 4, 6] rfl)
      · have hf := kif_f c6 hf
        refine lv_aload_n hx hb dX7_bestOf_80 rfl (lv_at hl 1 rfl) ?_
        refine lv_iload hx hb dX7_bestOf_81 (lv_at hl 6 rfl) ?_
        refine lv_iload hx hb dX7_bestOf_83 (lv_at hl 5 rfl) ?_
        refine lv_iload_n hx hb dX7_bestOf_85 rfl (lv_at hl 2 rfl) ?_
        refine lv_iload_n hx hb dX7_bestOf_86 rfl (lv_at hl 3 rfl) ?_
        obtain ⟨r8, e7, hf⟩ := kb1_s hf
        refine kcallV (As := [.int x5, .int x4, .int p1, .int p2]) (rest := []) C0 (cX7_isBetter_c hap e7) q_819 kw_X7_isBetter (xv_M C0.2 hP) hP hS ⟨Nat.le_of_ble_eq_true rfl, Nat.le_of_ble_eq_true rfl⟩ rfl hl.1 rfl (Nat.le_of_ble_eq_true rfl) dX7_bestOf_87 (fun H locs hP hS => ?_)
        refine lv_if_eq (tgt := 98) hx hb dX7_bestOf_90 (by decide) (fun c9 => ?_) (fun c9 => ?_)
        · have hf := kif_t c9 hf
          exact hB98 _ hrec7 _ _ _ _ _ hf hP hS (lv_sub hl [1, 2, 3, 4, 5, 6] rfl)
        · have hf := kif_f c9 hf
          exact hB93 _ hrec7 _ _ _ _ hf hP hS (lv_sub hl [1, 2, 3, 4, 6] rfl)
  have hB65 : ∀ (rec7 : Int32 → Int32 → Option Int32) (hrec7 : ∀ (x4 : Int32) (x5 : Int32) (H : Heap) (locs : List Loc) (ls : Array Slot), rec7 x4 x5 = some r → va_P D vwCl (mW cI a v ar) H → va_S (kA a 15) s.heap H locs → lv_has ls 8 [(0, .ref (a 0)), (1, .int p1), (2, .int p2), (3, .int p3), (4, .int x4), (5, .int x5)] → kGo p l e 4 94 s m args below meth c D (mW cI a) (kA a 15) (some (.int r)) v ar H locs (F0 m 7 ls [])) , ∀ (x4 : Int32) (x5 : Int32) (H : Heap) (locs : List Loc) (ls : Array Slot), fX7_bestOf_65 v ar p1 p2 p3 rec7 x4 x5 = some r → va_P D vwCl (mW cI a v ar) H → va_S (kA a 15) s.heap H locs → lv_has ls 8 [(0, .ref (a 0)), (1, .int p1), (2, .int p2), (3, .int p3), (4, .int x4), (5, .int x5)] → kGo p l e 4 94 s m args below meth c D (mW cI a) (kA a 15) (some (.int r)) v ar H locs (F0 m 65 ls []) := by
    intro rec7 hrec7 x4 x5 H locs ls hf hP hS hl
    unfold fX7_bestOf_65 at hf
    refine lv_iconst (v := (0 : Int32)) hx hb dX7_bestOf_65 (by decide) ?_
    exact hB66 _ hrec7 _ _ _ _ _ _ hf hP hS (lv_sub hl [0, 1, 2, 3, 4, 5] rfl)
  have hB7 : ∀ (n : Nat), ∀ (x4 : Int32) (x5 : Int32) (H : Heap) (locs : List Loc) (ls : Array Slot), fX7_bestOf_7 v ar p1 p2 p3 n x4 x5 = some r → va_P D vwCl (mW cI a v ar) H → va_S (kA a 15) s.heap H locs → lv_has ls 8 [(0, .ref (a 0)), (1, .int p1), (2, .int p2), (3, .int p3), (4, .int x4), (5, .int x5)] → kGo p l e 4 94 s m args below meth c D (mW cI a) (kA a 15) (some (.int r)) v ar H locs (F0 m 7 ls []) := by
    intro  n
    induction n with
    | zero =>
      intro x4 x5 H locs ls hf
      have hf : (none : Option Int32) = some r := hf
      cases hf
    | succ n ih =>
      intro x4 x5 H locs ls hf hP hS hl
      have hf : fX7_bestOf_7b v ar p1 p2 p3 (fX7_bestOf_7 v ar p1 p2 p3 n) x4 x5 = some r := hf
      unfold fX7_bestOf_7b at hf
      refine lv_iload hx hb dX7_bestOf_7 (lv_at hl 5 rfl) ?_
      refine lv_aload_n hx hb dX7_bestOf_9 rfl (lv_at hl 0 rfl) ?_
      refine xg_M_5 C0 hP q_602 dX7_bestOf_10 ?_
      refine lv_icmp_ge (tgt := 108) hx hb dX7_bestOf_13 (by decide) (fun c1 => ?_) (fun c1 => ?_)
      · have hf := kif_t c1 hf
        refine lv_iload hx hb dX7_bestOf_108 (lv_at hl 4 rfl) ?_
        obtain rfl := Option.some.inj hf
        exact kret_i C0 hr hlk hP hS dX7_bestOf_110
      · have hf := kif_f c1 hf
        refine lv_iload_n hx hb dX7_bestOf_16 rfl (lv_at hl 2 rfl) ?_
        refine lv_iconst (v := (1 : Int32)) hx hb dX7_bestOf_17 (by decide) ?_
        refine lv_iload hx hb dX7_bestOf_18 (lv_at hl 5 rfl) ?_
        refine lv_ishl hx hb dX7_bestOf_20 ?_
        refine lv_ixor hx hb dX7_bestOf_21 ?_
        refine lv_istore (lv' := [(6, .int (p2 ^^^ ((1 : Int32) <<< (x5 &&& 31)))), (0, .ref (a 0)), (1, .int p1), (2, .int p2), (3, .int p3), (4, .int x4), (5, .int x5)]) hx hb dX7_bestOf_22 hl (by decide) rfl (fun ls hl => ?_)
        refine lv_iload_n hx hb dX7_bestOf_24 rfl (lv_at hl 4 rfl) ?_
        refine lv_iload hx hb dX7_bestOf_25 (lv_at hl 6 rfl) ?_
        obtain ⟨r3, e2, hf⟩ := kb1_s hf
        refine kcallT (As := [.int p3, .int x5]) (rest := []) C0 (cX7_isOf_c hap e2) q_734 kw_X7_isOf hP hS ⟨Nat.le_of_ble_eq_true rfl, Nat.le_of_ble_eq_true rfl⟩ rfl hl.1 rfl (Nat.le_of_ble_eq_true rfl) dX7_bestOf_27 (fun H locs hP hS => ?_)
        refine lv_if_ne (tgt := 65) hx hb dX7_bestOf_30 (by decide) (fun c4 => ?_) (fun c4 => ?_)
        · have hf := kif_f c4 hf
          exact hB65 _ ih _ _ _ _ _ hf hP hS (lv_sub hl [1, 2, 3, 4, 5, 6] rfl)
        · have hf := kif_t c4 hf
          refine lv_aload_n hx hb dX7_bestOf_33 rfl (lv_at hl 1 rfl) ?_
          refine xg_M_8 C0 hP q_605 dX7_bestOf_34 ?_
          refine lv_iload hx hb dX7_bestOf_37 (lv_at hl 6 rfl) ?_
          obtain ⟨r11, e10, hf⟩ := kb1_s hf
          refine kcallT (As := [.int (v (8)), .int x5]) (rest := []) C0 (cX7_isOf_c hap e10) q_734 kw_X7_isOf hP hS ⟨Nat.le_of_ble_eq_true rfl, Nat.le_of_ble_eq_true rfl⟩ rfl hl.1 rfl (Nat.le_of_ble_eq_true rfl) dX7_bestOf_39 (fun H locs hP hS => ?_)
          refine lv_if_ne (tgt := 65) hx hb dX7_bestOf_42 (by decide) (fun c12 => ?_) (fun c12 => ?_)
          · have hf := kif_f c12 hf
            exact hB65 _ ih _ _ _ _ _ hf hP hS (lv_sub hl [1, 2, 3, 4, 5, 6] rfl)
          · have hf := kif_t c12 hf
            refine lv_aload_n hx hb dX7_bestOf_45 rfl (lv_at hl 1 rfl) ?_
            refine lv_iload hx hb dX7_bestOf_46 (lv_at hl 0 rfl) ?_
            refine lv_iload hx hb dX7_bestOf_48 (lv_at hl 6 rfl) ?_
            refine lv_ishr hx hb dX7_bestOf_50 ?_
            refine lv_iconst (v := (1 : Int32)) hx hb dX7_bestOf_51 (by decide) ?_
            refine lv_iand hx hb dX7_bestOf_52 ?_
            refine lv_iload hx hb dX7_bestOf_53 (lv_at hl 0 rfl) ?_
            obtain ⟨r14, e13, hf⟩ := kb1_s hf
            refine kcallV (As := [.int (((p2 ^^^ ((1 : Int32) <<< (x5 &&& 31))) >>> (x5 &&& 31)) &&& (1 : Int32)), .int (p2 ^^^ ((1 : Int32) <<< (x5 &&& 31)))]) (rest := []) C0 (cX7_isWithin_c hap e13) q_790 kw_X7_isWithin (xv_M C0.2 hP) hP hS ⟨Nat.le_of_ble_eq_true rfl, Nat.le_of_ble_eq_true rfl⟩ rfl hl.1 rfl (Nat.le_of_ble_eq_true rfl) dX7_bestOf_55 (fun H locs hP hS => ?_)
            refine lv_if_eq (tgt := 65) hx hb dX7_bestOf_58 (by decide) (fun c15 => ?_) (fun c15 => ?_)
            · have hf := kif_t c15 hf
              exact hB65 _ ih _ _ _ _ _ hf hP hS (lv_sub hl [1, 2, 3, 4, 5, 6] rfl)
            · have hf := kif_f c15 hf
              refine lv_iconst (v := (1 : Int32)) hx hb dX7_bestOf_61 (by decide) ?_
              refine lv_goto (tgt := 66) hx hb dX7_bestOf_62 (by decide) ?_
              exact hB66 _ ih _ _ _ _ _ _ hf hP hS (lv_sub hl [1, 2, 3, 4, 5, 6] rfl)
  unfold fX7_bestOf at hf
  refine lv_bipush (v := (-9 : Int32)) hx hb dX7_bestOf_0 (by decide) ?_
  refine lv_istore (lv' := [(4, .int (-9 : Int32)), (0, .ref (a 0)), (1, .int p1), (2, .int p2), (3, .int p3)]) hx hb dX7_bestOf_2 hl (by decide) rfl (fun ls hl => ?_)
  refine lv_iconst (v := (0 : Int32)) hx hb dX7_bestOf_4 (by decide) ?_
  refine lv_istore (lv' := [(5, .int (0 : Int32)), (4, .int (-9 : Int32)), (0, .ref (a 0)), (1, .int p1), (2, .int p2), (3, .int p3)]) hx hb dX7_bestOf_5 hl (by decide) rfl (fun ls hl => ?_)
  exact hB7 _ _ _ _ _ _ hf hP hS (lv_sub hl [2, 3, 4, 5, 1, 0] rfl)
set_option maxHeartbeats 4000000 in
set_option maxRecDepth 100000 in
theorem cX7_findPass_c {l : Launch} {D : va_G} {cI cS : ClassId} {a : Nat → Nat} (hap : kAp a 15) {v : kV} {ar : kR} {p1 : Int32} {v2 : kV} {ar2 : kR} (hf : fX7_findPass v ar p1 = some (v2, ar2)) : kMet l D cI cS (mW cI a) (kA a 15) yX7_findPass cX7_findPass 6 none 5 121 [.ref (a 0), .int p1] v ar none v2 ar2 := by
  refine kstart (by decide) (Nat.le_of_ble_eq_true rfl) ?_
  intro p e s m args below meth c ls C0 hr hlk hl hP hS
  have C0 : kC p s m c args cX7_findPass 6 RX7 D cI cS := C0
  have hx := C0.1.1
  have hb := C0.1.2.1
  have hl : lv_has ls 6 [(0, .ref (a 0)), (1, .int p1)] := hl
  have hB116 : ∀ (rec44 : Int32 → Int32 → Int32 → Int32 → kV → kR → Option (kV × kR)) (hrec44 : ∀ (x2 : Int32) (x3 : Int32) (x4 : Int32) (x5 : Int32) (v : kV) (ar : kR) (H : Heap) (locs : List Loc) (ls : Array Slot), rec44 x2 x3 x4 x5 v ar = some (v2, ar2) → va_P D vwCl (mW cI a v ar) H → va_S (kA a 15) s.heap H locs → lv_has ls 6 [(0, .ref (a 0)), (1, .int p1), (2, .int x2), (3, .int x3), (4, .int x4), (5, .int x5)] → kGo p l e 5 121 s m args below meth c D (mW cI a) (kA a 15) none v2 ar2 H locs (F0 m 44 ls [])) , ∀ (x2 : Int32) (x3 : Int32) (x4 : Int32) (v : kV) (ar : kR) (H : Heap) (locs : List Loc) (ls : Array Slot), fX7_findPass_116 p1 rec44 x2 x3 x4 v ar = some (v2, ar2) → va_P D vwCl (mW cI a v ar) H → va_S (kA a 15) s.heap H locs → lv_has ls 6 [(0, .ref (a 0)), (1, .int p1), (2, .int x2), (3, .int x3), (4, .int x4)] → kGo p l e 5 121 s m args below meth c D (mW cI a) (kA a 15) none v2 ar2 H locs (F0 m 116 ls []) := by
    intro rec44 hrec44 x2 x3 x4 v ar H locs ls hf hP hS hl
    unfold fX7_findPass_116 at hf
    refine lv_aload_n hx hb dX7_findPass_116 rfl (lv_at hl 0 rfl) ?_
    refine lv_iload_n hx hb dX7_findPass_117 rfl (lv_at hl 1 rfl) ?_
    refine lv_iload_n hx hb dX7_findPass_118 rfl (lv_at hl 2 rfl) ?_
    refine lv_iload_n hx hb dX7_findPass_119 rfl (lv_at hl 3 rfl) ?_
    obtain ⟨r11, e10, hf⟩ := kb1_s hf
    refine kcallV (As := [.int p1, .int x2, .int x3]) (rest := []) C0 (cX7_bestOf_c hap e10) q_815 kw_X7_bestOf (xv_M C0.2 hP) hP hS ⟨Nat.le_of_ble_eq_true rfl, Nat.le_of_ble_eq_true rfl⟩ rfl hl.1 rfl (Nat.le_of_ble_eq_true rfl) dX7_findPass_120 (fun H locs hP hS => ?_)
    refine lv_istore (lv' := [(5, .int r11), (0, .ref (a 0)), (1, .int p1), (2, .int x2), (3, .int x3), (4, .int x4)]) hx hb dX7_findPass_123 hl (by decide) rfl (fun ls hl => ?_)
    refine lv_goto (tgt := 44) hx hb dX7_findPass_125 (by decide) ?_
    exact hrec44 _ _ _ _ _ _ _ _ _ hf hP hS (lv_sub hl [1, 2, 3, 4, 5, 0] rfl)
  have hB44 : ∀ (n : Nat), ∀ (x2 : Int32) (x3 : Int32) (x4 : Int32) (x5 : Int32) (v : kV) (ar : kR) (H : Heap) (locs : List Loc) (ls : Array Slot), fX7_findPass_44 p1 n x2 x3 x4 x5 v ar = some (v2, ar2) → va_P D vwCl (mW cI a v ar) H → va_S (kA a 15) s.heap H locs → lv_has ls 6 [(0, .ref (a 0)), (1, .int p1), (2, .int x2), (3, .int x3), (4, .int x4), (5, .int x5)] → kGo p l e 5 121 s m args below meth c D (mW cI a) (kA a 15) none v2 ar2 H locs (F0 m 44 ls []) := by
    intro  n
    induction n with
    | zero =>
      intro x2 x3 x4 x5 v ar H locs ls hf
      have hf : (none : Option (kV × kR)) = some (v2, ar2) := hf
      cases hf
    | succ n ih =>
      intro x2 x3 x4 x5 v ar H locs ls hf hP hS hl
      have hf : fX7_findPass_44b p1 (fX7_findPass_44 p1 n) x2 x3 x4 x5 v ar = some (v2, ar2) := hf
      unfold fX7_findPass_44b at hf
      refine lv_iload hx hb dX7_findPass_44 (lv_at hl 5 rfl) ?_
      refine lv_bipush (v := (-9 : Int32)) hx hb dX7_findPass_46 (by decide) ?_
      refine lv_icmp_eq (tgt := 128) hx hb dX7_findPass_48 (by decide) (fun c5 => ?_) (fun c5 => ?_)
      · have hf := kif_t c5 hf
        obtain ⟨rfl, rfl⟩ := kinj2 hf
        exact kret_v C0 hr hlk hP hS dX7_findPass_128
      · have hf := kif_f c5 hf
        refine lv_aload_n hx hb dX7_findPass_51 rfl (lv_at hl 0 rfl) ?_
        refine xg_M_24 C0 hP q_621 dX7_findPass_52 ?_
        refine lv_aload_n hx hb dX7_findPass_55 rfl (lv_at hl 0 rfl) ?_
        refine xg_M_25 C0 hP q_622 dX7_findPass_56 ?_
        refine lv_iload hx hb dX7_findPass_59 (lv_at hl 5 rfl) ?_
        obtain ⟨g6, hf⟩ := kgd hf
        refine mt_moved C0 hap hP hS g6 dX7_findPass_61 (fun H locs hP hS => ?_)
        refine lv_aload_n hx hb dX7_findPass_62 rfl (lv_at hl 0 rfl) ?_
        refine lv_dup hx hb dX7_findPass_63 rfl ?_
        refine xg_M_25 C0 hP q_622 dX7_findPass_64 ?_
        refine lv_iconst (v := (1 : Int32)) hx hb dX7_findPass_67 (by decide) ?_
        refine lv_iadd hx hb dX7_findPass_68 ?_
        refine xp_M_25 C0 hap hP hS q_622 dX7_findPass_69 (fun H locs hP hS => ?_)
        refine lv_iload_n hx hb dX7_findPass_72 rfl (lv_at hl 3 rfl) ?_
        refine lv_iconst (v := (1 : Int32)) hx hb dX7_findPass_73 (by decide) ?_
        refine lv_iload hx hb dX7_findPass_74 (lv_at hl 5 rfl) ?_
        refine lv_ishl hx hb dX7_findPass_76 ?_
        refine lv_ior hx hb dX7_findPass_77 ?_
        refine lv_istore_n (lv' := [(3, .int (x3 ||| ((1 : Int32) <<< (x5 &&& 31)))), (0, .ref (a 0)), (1, .int p1), (2, .int x2), (4, .int x4), (5, .int x5)]) hx hb dX7_findPass_78 rfl hl (by decide) rfl (fun ls hl => ?_)
        refine lv_iload_n hx hb dX7_findPass_79 rfl (lv_at hl 3 rfl) ?_
        refine lv_iconst (v := (1 : Int32)) hx hb dX7_findPass_80 (by decide) ?_
        refine lv_iload hx hb dX7_findPass_81 (lv_at hl 5 rfl) ?_
        refine lv_ishl hx hb dX7_findPass_83 ?_
        refine lv_ixor hx hb dX7_findPass_84 ?_
        refine lv_istore_n (lv' := [(2, .int (x2 ^^^ ((1 : Int32) <<< (x5 &&& 31)))), (3, .int (x3 ||| ((1 : Int32) <<< (x5 &&& 31)))), (0, .ref (a 0)), (1, .int p1), (4, .int x4), (5, .int x5)]) hx hb dX7_findPass_85 rfl hl (by decide) rfl (fun ls hl => ?_)
        refine lv_aload_n hx hb dX7_findPass_86 rfl (lv_at hl 2 rfl) ?_
        refine lv_iload_n hx hb dX7_findPass_87 rfl (lv_at hl 0 rfl) ?_
        obtain ⟨r8, e7, hf⟩ := kb1_s hf
        refine kcallV (As := [.int (x2 ^^^ ((1 : Int32) <<< (x5 &&& 31)))]) (rest := []) C0 (cX7_cutsBy_c hap e7) q_757 kw_X7_cutsBy (xv_M C0.2 hP) hP hS ⟨Nat.le_of_ble_eq_true rfl, Nat.le_of_ble_eq_true rfl⟩ rfl hl.1 rfl (Nat.le_of_ble_eq_true rfl) dX7_findPass_88 (fun H locs hP hS => ?_)
        refine lv_iload hx hb dX7_findPass_91 (lv_at hl 4 rfl) ?_
        refine lv_icmp_ge (tgt := 116) hx hb dX7_findPass_93 (by decide) (fun c9 => ?_) (fun c9 => ?_)
        · have hf := kif_t c9 hf
          exact hB116 _ ih _ _ _ _ _ _ _ _ hf hP hS (lv_sub hl [2, 3, 0, 1, 4] rfl)
        · have hf := kif_f c9 hf
          refine lv_aload_n hx hb dX7_findPass_96 rfl (lv_at hl 2 rfl) ?_
          refine lv_iload_n hx hb dX7_findPass_97 rfl (lv_at hl 0 rfl) ?_
          obtain ⟨r13, e12, hf⟩ := kb1_s hf
          refine kcallV (As := [.int (x2 ^^^ ((1 : Int32) <<< (x5 &&& 31)))]) (rest := []) C0 (cX7_cutsBy_c hap e12) q_757 kw_X7_cutsBy (xv_M C0.2 hP) hP hS ⟨Nat.le_of_ble_eq_true rfl, Nat.le_of_ble_eq_true rfl⟩ rfl hl.1 rfl (Nat.le_of_ble_eq_true rfl) dX7_findPass_98 (fun H locs hP hS => ?_)
          refine lv_istore (lv' := [(4, .int r13), (2, .int (x2 ^^^ ((1 : Int32) <<< (x5 &&& 31)))), (3, .int (x3 ||| ((1 : Int32) <<< (x5 &&& 31)))), (0, .ref (a 0)), (1, .int p1), (5, .int x5)]) hx hb dX7_findPass_101 hl (by decide) rfl (fun ls hl => ?_)
          refine lv_aload_n hx hb dX7_findPass_103 rfl (lv_at hl 3 rfl) ?_
          refine lv_aload_n hx hb dX7_findPass_104 rfl (lv_at hl 3 rfl) ?_
          refine xg_M_25 C0 hP q_622 dX7_findPass_105 ?_
          refine xp_M_26 C0 hap hP hS q_623 dX7_findPass_108 (fun H locs hP hS => ?_)
          refine lv_aload_n hx hb dX7_findPass_111 rfl (lv_at hl 3 rfl) ?_
          refine lv_iload_n hx hb dX7_findPass_112 rfl (lv_at hl 1 rfl) ?_
          refine xp_M_27 C0 hap hP hS q_624 dX7_findPass_113 (fun H locs hP hS => ?_)
          exact hB116 _ ih _ _ _ _ _ _ _ _ hf hP hS (lv_sub hl [3, 4, 1, 2, 0] rfl)
  unfold fX7_findPass at hf
  refine lv_aload_n hx hb dX7_findPass_0 rfl (lv_at hl 0 rfl) ?_
  refine xg_M_7 C0 hP q_604 dX7_findPass_1 ?_
  refine lv_istore_n (lv' := [(2, .int (v (7))), (0, .ref (a 0)), (1, .int p1)]) hx hb dX7_findPass_4 rfl hl (by decide) rfl (fun ls hl => ?_)
  refine lv_iconst (v := (0 : Int32)) hx hb dX7_findPass_5 (by decide) ?_
  refine lv_istore_n (lv' := [(3, .int (0 : Int32)), (2, .int (v (7))), (0, .ref (a 0)), (1, .int p1)]) hx hb dX7_findPass_6 rfl hl (by decide) rfl (fun ls hl => ?_)
  refine lv_aload_n hx hb dX7_findPass_7 rfl (lv_at hl 2 rfl) ?_
  refine lv_aload_n hx hb dX7_findPass_8 rfl (lv_at hl 2 rfl) ?_
  refine xg_M_7 C0 hP q_604 dX7_findPass_9 ?_
  obtain ⟨r2, e1, hf⟩ := kb1_s hf
  refine kcallV (As := [.int (v (7))]) (rest := []) C0 (cX7_cutsBy_c hap e1) q_757 kw_X7_cutsBy (xv_M C0.2 hP) hP hS ⟨Nat.le_of_ble_eq_true rfl, Nat.le_of_ble_eq_true rfl⟩ rfl hl.1 rfl (Nat.le_of_ble_eq_true rfl) dX7_findPass_12 (fun H locs hP hS => ?_)
  refine lv_istore (lv' := [(4, .int r2), (3, .int (0 : Int32)), (2, .int (v (7))), (0, .ref (a 0)), (1, .int p1)]) hx hb dX7_findPass_15 hl (by decide) rfl (fun ls hl => ?_)
  refine lv_aload_n hx hb dX7_findPass_17 rfl (lv_at hl 3 rfl) ?_
  refine lv_iconst (v := (0 : Int32)) hx hb dX7_findPass_18 (by decide) ?_
  refine xp_M_25 C0 hap hP hS q_622 dX7_findPass_19 (fun H locs hP hS => ?_)
  refine lv_aload_n hx hb dX7_findPass_22 rfl (lv_at hl 3 rfl) ?_
  refine lv_iconst (v := (0 : Int32)) hx hb dX7_findPass_23 (by decide) ?_
  refine xp_M_26 C0 hap hP hS q_623 dX7_findPass_24 (fun H locs hP hS => ?_)
  refine lv_aload_n hx hb dX7_findPass_27 rfl (lv_at hl 3 rfl) ?_
  refine lv_aload_n hx hb dX7_findPass_28 rfl (lv_at hl 3 rfl) ?_
  refine xg_M_7 C0 hP q_604 dX7_findPass_29 ?_
  refine xp_M_27 C0 hap hP hS q_624 dX7_findPass_32 (fun H locs hP hS => ?_)
  refine lv_aload_n hx hb dX7_findPass_35 rfl (lv_at hl 3 rfl) ?_
  refine lv_iload_n hx hb dX7_findPass_36 rfl (lv_at hl 4 rfl) ?_
  refine lv_iload_n hx hb dX7_findPass_37 rfl (lv_at hl 2 rfl) ?_
  refine lv_iload_n hx hb dX7_findPass_38 rfl (lv_at hl 1 rfl) ?_
  obtain ⟨r4, e3, hf⟩ := kb1_s hf
  refine kcallV (As := [.int p1, .int (v (7)), .int (0 : Int32)]) (rest := []) C0 (cX7_bestOf_c hap e3) q_815 kw_X7_bestOf (xv_M C0.2 hP) hP hS ⟨Nat.le_of_ble_eq_true rfl, Nat.le_of_ble_eq_true rfl⟩ rfl hl.1 rfl (Nat.le_of_ble_eq_true rfl) dX7_findPass_39 (fun H locs hP hS => ?_)
  refine lv_istore (lv' := [(5, .int r4), (4, .int r2), (3, .int (0 : Int32)), (2, .int (v (7))), (0, .ref (a 0)), (1, .int p1)]) hx hb dX7_findPass_42 hl (by decide) rfl (fun ls hl => ?_)
  exact hB44 _ _ _ _ _ _ _ _ _ _ hf hP hS (lv_sub hl [4, 5, 3, 2, 1, 0] rfl)
set_option maxHeartbeats 4000000 in
set_option maxRecDepth 100000 in
theorem cX7_pass_c {l : Launch} {D : va_G} {cI cS : ClassId} {a : Nat → Nat} (hap : kAp a 15) {v : kV} {ar : kR} {p1 : Int32} {r : Int32} {v2 : kV} {ar2 : kR} (hf : fX7_pass v ar p1 = some (r, v2, ar2)) : kMet l D cI cS (mW cI a) (kA a 15) yX7_pass cX7_pass 2 (some .int) 6 146 [.ref (a 0), .int p1] v ar (some (.int r)) v2 ar2 := by
  refine kstart (by decide) (Nat.le_of_ble_eq_true rfl) ?_
  intro p e s m args below meth c ls C0 hr hlk hl hP hS
  have C0 : kC p s m c args cX7_pass 2 RX7 D cI cS := C0
  have hx := C0.1.1
  have hb := C0.1.2.1
  have hl : lv_has ls 2 [(0, .ref (a 0)), (1, .int p1)] := hl
  unfold fX7_pass at hf
  refine lv_aload_n hx hb dX7_pass_0 rfl (lv_at hl 0 rfl) ?_
  refine xg_M_5 C0 hP q_602 dX7_pass_1 ?_
  refine lv_if_ne (tgt := 10) hx hb dX7_pass_4 (by decide) (fun c1 => ?_) (fun c1 => ?_)
  · have hf := kif_f c1 hf
    refine lv_iload_n hx hb dX7_pass_10 rfl (lv_at hl 1 rfl) ?_
    refine lv_iconst (v := (0 : Int32)) hx hb dX7_pass_11 (by decide) ?_
    refine lv_iconst (v := (2 : Int32)) hx hb dX7_pass_12 (by decide) ?_
    obtain ⟨r3, e2, hf⟩ := kb1_s hf
    refine kcallT (As := [.int p1, .int (0 : Int32), .int (2 : Int32)]) (rest := []) C0 (cX7_within_c hap e2) q_701 kw_X7_within hP hS ⟨Nat.le_of_ble_eq_true rfl, Nat.le_of_ble_eq_true rfl⟩ rfl hl.1 rfl (Nat.le_of_ble_eq_true rfl) dX7_pass_13 (fun H locs hP hS => ?_)
    refine lv_if_ne (tgt := 22) hx hb dX7_pass_16 (by decide) (fun c4 => ?_) (fun c4 => ?_)
    · have hf := kif_f c4 hf
      refine lv_aload_n hx hb dX7_pass_22 rfl (lv_at hl 0 rfl) ?_
      refine lv_iload_n hx hb dX7_pass_23 rfl (lv_at hl 1 rfl) ?_
      obtain ⟨v7, ar8, e5, hf⟩ := kb2_s hf
      refine kcallV (As := [.int p1]) (rest := []) C0 (cX7_findPass_c hap e5) q_811 kw_X7_findPass (xv_M C0.2 hP) hP hS ⟨Nat.le_of_ble_eq_true rfl, Nat.le_of_ble_eq_true rfl⟩ rfl hl.1 rfl (Nat.le_of_ble_eq_true rfl) dX7_pass_24 (fun H locs hP hS => ?_)
      refine lv_aload_n hx hb dX7_pass_27 rfl (lv_at hl 0 rfl) ?_
      refine lv_aload_n hx hb dX7_pass_28 rfl (lv_at hl 0 rfl) ?_
      refine xg_M_27 C0 hP q_624 dX7_pass_29 ?_
      refine xp_M_7 C0 hap hP hS q_604 dX7_pass_32 (fun H locs hP hS => ?_)
      refine lv_aload_n hx hb dX7_pass_35 rfl (lv_at hl 0 rfl) ?_
      refine xg_M_26 C0 hP q_623 dX7_pass_36 ?_
      obtain ⟨rfl, rfl, rfl⟩ := kinj3 hf
      exact kret_i C0 hr hlk hP hS dX7_pass_39
    · have hf := kif_t c4 hf
      refine lv_bipush (v := (-2 : Int32)) hx hb dX7_pass_19 (by decide) ?_
      obtain ⟨rfl, rfl, rfl⟩ := kinj3 hf
      exact kret_i C0 hr hlk hP hS dX7_pass_21
  · have hf := kif_t c1 hf
    refine lv_bipush (v := (-3 : Int32)) hx hb dX7_pass_7 (by decide) ?_
    obtain ⟨rfl, rfl, rfl⟩ := kinj3 hf
    exact kret_i C0 hr hlk hP hS dX7_pass_9
set_option maxHeartbeats 4000000 in
set_option maxRecDepth 100000 in
theorem cX7_tries_c {l : Launch} {D : va_G} {cI cS : ClassId} {a : Nat → Nat} (hap : kAp a 15) {v : kV} {ar : kR} {p1 : Int32} {p2 : Int32} {r : Int32} {v2 : kV} {ar2 : kR} (hf : fX7_tries v ar p1 p2 = some (r, v2, ar2)) : kMet l D cI cS (mW cI a) (kA a 15) yX7_tries cX7_tries 3 (some .int) 6 146 [.ref (a 0), .int p1, .int p2] v ar (some (.int r)) v2 ar2 := by
  refine kstart (by decide) (Nat.le_of_ble_eq_true rfl) ?_
  intro p e s m args below meth c ls C0 hr hlk hl hP hS
  have C0 : kC p s m c args cX7_tries 3 RX7 D cI cS := C0
  have hx := C0.1.1
  have hb := C0.1.2.1
  have hl : lv_has ls 3 [(0, .ref (a 0)), (1, .int p1), (2, .int p2)] := hl
  have hB42 : ∀ (v : kV) (ar : kR) (H : Heap) (locs : List Loc) (ls : Array Slot), fX7_tries_42 p1 p2 v ar = some (r, v2, ar2) → va_P D vwCl (mW cI a v ar) H → va_S (kA a 15) s.heap H locs → lv_has ls 3 [(0, .ref (a 0)), (1, .int p1), (2, .int p2)] → kGo p l e 6 146 s m args below meth c D (mW cI a) (kA a 15) (some (.int r)) v2 ar2 H locs (F0 m 42 ls []) := by
    intro  v ar H locs ls hf hP hS hl
    unfold fX7_tries_42 at hf
    refine lv_aload_n hx hb dX7_tries_42 rfl (lv_at hl 0 rfl) ?_
    refine lv_iload_n hx hb dX7_tries_43 rfl (lv_at hl 1 rfl) ?_
    obtain ⟨v10, ar11, e8, hf⟩ := kb2_s hf
    refine kcallV (As := [.int p1]) (rest := []) C0 (cX7_findPass_c hap e8) q_811 kw_X7_findPass (xv_M C0.2 hP) hP hS ⟨Nat.le_of_ble_eq_true rfl, Nat.le_of_ble_eq_true rfl⟩ rfl hl.1 rfl (Nat.le_of_ble_eq_true rfl) dX7_tries_44 (fun H locs hP hS => ?_)
    refine lv_iload_n hx hb dX7_tries_47 rfl (lv_at hl 2 rfl) ?_
    refine lv_bipush (v := (10 : Int32)) hx hb dX7_tries_48 (by decide) ?_
    refine lv_icmp_lt (tgt := 79) hx hb dX7_tries_50 (by decide) (fun c12 => ?_) (fun c12 => ?_)
    · have hf := kif_t c12 hf
      refine lv_iload_n hx hb dX7_tries_79 rfl (lv_at hl 2 rfl) ?_
      refine lv_if_ne (tgt := 90) hx hb dX7_tries_80 (by decide) (fun c13 => ?_) (fun c13 => ?_)
      · have hf := kif_f c13 hf
        refine lv_iload_n hx hb dX7_tries_90 rfl (lv_at hl 2 rfl) ?_
        refine lv_iconst (v := (1 : Int32)) hx hb dX7_tries_91 (by decide) ?_
        refine lv_icmp_ne (tgt := 102) hx hb dX7_tries_92 (by decide) (fun c14 => ?_) (fun c14 => ?_)
        · have hf := kif_f c14 hf
          refine lv_aload_n hx hb dX7_tries_102 rfl (lv_at hl 0 rfl) ?_
          refine lv_aload_n hx hb dX7_tries_103 rfl (lv_at hl 0 rfl) ?_
          refine xg_M_27 C0 hP q_624 dX7_tries_104 ?_
          obtain ⟨r16, e15, hf⟩ := kb1_s hf
          refine kcallV (As := [.int (v10 (27))]) (rest := []) C0 (cX7_cutsBy_c hap e15) q_757 kw_X7_cutsBy (xv_M C0.2 hP) hP hS ⟨Nat.le_of_ble_eq_true rfl, Nat.le_of_ble_eq_true rfl⟩ rfl hl.1 rfl (Nat.le_of_ble_eq_true rfl) dX7_tries_107 (fun H locs hP hS => ?_)
          obtain ⟨rfl, rfl, rfl⟩ := kinj3 hf
          exact kret_i C0 hr hlk hP hS dX7_tries_110
        · have hf := kif_t c14 hf
          refine lv_aload_n hx hb dX7_tries_95 rfl (lv_at hl 0 rfl) ?_
          refine xg_M_26 C0 hP q_623 dX7_tries_96 ?_
          refine lv_goto (tgt := 110) hx hb dX7_tries_99 (by decide) ?_
          obtain ⟨rfl, rfl, rfl⟩ := kinj3 hf
          exact kret_i C0 hr hlk hP hS dX7_tries_110
      · have hf := kif_t c13 hf
        refine lv_aload_n hx hb dX7_tries_83 rfl (lv_at hl 0 rfl) ?_
        refine xg_M_25 C0 hP q_622 dX7_tries_84 ?_
        refine lv_goto (tgt := 110) hx hb dX7_tries_87 (by decide) ?_
        obtain ⟨rfl, rfl, rfl⟩ := kinj3 hf
        exact kret_i C0 hr hlk hP hS dX7_tries_110
    · have hf := kif_f c12 hf
      refine lv_iload_n hx hb dX7_tries_53 rfl (lv_at hl 2 rfl) ?_
      refine lv_bipush (v := (10 : Int32)) hx hb dX7_tries_54 (by decide) ?_
      refine lv_isub hx hb dX7_tries_56 ?_
      refine lv_aload_n hx hb dX7_tries_57 rfl (lv_at hl 0 rfl) ?_
      refine xg_M_25 C0 hP q_622 dX7_tries_58 ?_
      refine lv_icmp_ge (tgt := 76) hx hb dX7_tries_61 (by decide) (fun c17 => ?_) (fun c17 => ?_)
      · have hf := kif_t c17 hf
        refine lv_bipush (v := (-9 : Int32)) hx hb dX7_tries_76 (by decide) ?_
        obtain ⟨rfl, rfl, rfl⟩ := kinj3 hf
        exact kret_i C0 hr hlk hP hS dX7_tries_78
      · have hf := kif_f c17 hf
        refine lv_aload_n hx hb dX7_tries_64 rfl (lv_at hl 0 rfl) ?_
        refine xg_M_24 C0 hP q_621 dX7_tries_65 ?_
        refine lv_iload_n hx hb dX7_tries_68 rfl (lv_at hl 2 rfl) ?_
        refine lv_bipush (v := (10 : Int32)) hx hb dX7_tries_69 (by decide) ?_
        refine lv_isub hx hb dX7_tries_71 ?_
        obtain ⟨g18, hf⟩ := kgd hf
        refine ml_moved C0 hP g18 dX7_tries_72 ?_
        refine lv_goto (tgt := 78) hx hb dX7_tries_73 (by decide) ?_
        obtain ⟨rfl, rfl, rfl⟩ := kinj3 hf
        exact kret_i C0 hr hlk hP hS dX7_tries_78
  unfold fX7_tries at hf
  refine lv_aload_n hx hb dX7_tries_0 rfl (lv_at hl 0 rfl) ?_
  refine xg_M_5 C0 hP q_602 dX7_tries_1 ?_
  refine lv_if_ne (tgt := 10) hx hb dX7_tries_4 (by decide) (fun c1 => ?_) (fun c1 => ?_)
  · have hf := kif_f c1 hf
    refine lv_iload_n hx hb dX7_tries_10 rfl (lv_at hl 1 rfl) ?_
    refine lv_iconst (v := (0 : Int32)) hx hb dX7_tries_11 (by decide) ?_
    refine lv_iconst (v := (2 : Int32)) hx hb dX7_tries_12 (by decide) ?_
    obtain ⟨r3, e2, hf⟩ := kb1_s hf
    refine kcallT (As := [.int p1, .int (0 : Int32), .int (2 : Int32)]) (rest := []) C0 (cX7_within_c hap e2) q_701 kw_X7_within hP hS ⟨Nat.le_of_ble_eq_true rfl, Nat.le_of_ble_eq_true rfl⟩ rfl hl.1 rfl (Nat.le_of_ble_eq_true rfl) dX7_tries_13 (fun H locs hP hS => ?_)
    refine lv_if_eq (tgt := 39) hx hb dX7_tries_16 (by decide) (fun c4 => ?_) (fun c4 => ?_)
    · have hf := kif_t c4 hf
      refine lv_bipush (v := (-2 : Int32)) hx hb dX7_tries_39 (by decide) ?_
      obtain ⟨rfl, rfl, rfl⟩ := kinj3 hf
      exact kret_i C0 hr hlk hP hS dX7_tries_41
    · have hf := kif_f c4 hf
      refine lv_iload_n hx hb dX7_tries_19 rfl (lv_at hl 2 rfl) ?_
      refine lv_iconst (v := (0 : Int32)) hx hb dX7_tries_20 (by decide) ?_
      refine lv_iconst (v := (2 : Int32)) hx hb dX7_tries_21 (by decide) ?_
      obtain ⟨r6, e5, hf⟩ := kb1_s hf
      refine kcallT (As := [.int p2, .int (0 : Int32), .int (2 : Int32)]) (rest := []) C0 (cX7_within_c hap e5) q_701 kw_X7_within hP hS ⟨Nat.le_of_ble_eq_true rfl, Nat.le_of_ble_eq_true rfl⟩ rfl hl.1 rfl (Nat.le_of_ble_eq_true rfl) dX7_tries_22 (fun H locs hP hS => ?_)
      refine lv_if_ne (tgt := 42) hx hb dX7_tries_25 (by decide) (fun c7 => ?_) (fun c7 => ?_)
      · have hf := kif_f c7 hf
        exact hB42 _ _ _ _ _ hf hP hS (lv_sub hl [0, 1, 2] rfl)
      · have hf := kif_t c7 hf
        refine lv_iload_n hx hb dX7_tries_28 rfl (lv_at hl 2 rfl) ?_
        refine lv_bipush (v := (10 : Int32)) hx hb dX7_tries_29 (by decide) ?_
        refine lv_bipush (v := (16 : Int32)) hx hb dX7_tries_31 (by decide) ?_
        obtain ⟨r20, e19, hf⟩ := kb1_s hf
        refine kcallT (As := [.int p2, .int (10 : Int32), .int (16 : Int32)]) (rest := []) C0 (cX7_within_c hap e19) q_701 kw_X7_within hP hS ⟨Nat.le_of_ble_eq_true rfl, Nat.le_of_ble_eq_true rfl⟩ rfl hl.1 rfl (Nat.le_of_ble_eq_true rfl) dX7_tries_33 (fun H locs hP hS => ?_)
        refine lv_if_ne (tgt := 42) hx hb dX7_tries_36 (by decide) (fun c21 => ?_) (fun c21 => ?_)
        · have hf := kif_f c21 hf
          exact hB42 _ _ _ _ _ hf hP hS (lv_sub hl [0, 1, 2] rfl)
        · have hf := kif_t c21 hf
          refine lv_bipush (v := (-2 : Int32)) hx hb dX7_tries_39 (by decide) ?_
          obtain ⟨rfl, rfl, rfl⟩ := kinj3 hf
          exact kret_i C0 hr hlk hP hS dX7_tries_41
  · have hf := kif_t c1 hf
    refine lv_bipush (v := (-3 : Int32)) hx hb dX7_tries_7 (by decide) ?_
    obtain ⟨rfl, rfl, rfl⟩ := kinj3 hf
    exact kret_i C0 hr hlk hP hS dX7_tries_9
set_option maxHeartbeats 4000000 in
set_option maxRecDepth 100000 in
theorem cX7_settle_c {l : Launch} {D : va_G} {cI cS : ClassId} {a : Nat → Nat} (hap : kAp a 15) {v : kV} {ar : kR} {p1 : Int32} {r : Int32} {v2 : kV} {ar2 : kR} (hf : fX7_settle v ar p1 = some (r, v2, ar2)) : kMet l D cI cS (mW cI a) (kA a 15) yX7_settle cX7_settle 5 (some .int) 6 146 [.ref (a 0), .int p1] v ar (some (.int r)) v2 ar2 := by
  refine kstart (by decide) (Nat.le_of_ble_eq_true rfl) ?_
  intro p e s m args below meth c ls C0 hr hlk hl hP hS
  have C0 : kC p s m c args cX7_settle 5 RX7 D cI cS := C0
  have hx := C0.1.1
  have hb := C0.1.2.1
  have hl : lv_has ls 5 [(0, .ref (a 0)), (1, .int p1)] := hl
  have hB74 : ∀ (rec26 : Int32 → Int32 → kV → kR → Option (Int32 × kV × kR)) (hrec26 : ∀ (x2 : Int32) (x3 : Int32) (v : kV) (ar : kR) (H : Heap) (locs : List Loc) (ls : Array Slot), rec26 x2 x3 v ar = some (r, v2, ar2) → va_P D vwCl (mW cI a v ar) H → va_S (kA a 15) s.heap H locs → lv_has ls 5 [(0, .ref (a 0)), (1, .int p1), (2, .int x2), (3, .int x3)] → kGo p l e 6 146 s m args below meth c D (mW cI a) (kA a 15) (some (.int r)) v2 ar2 H locs (F0 m 26 ls [])) , ∀ (x2 : Int32) (s0 : Int32) (v : kV) (ar : kR) (H : Heap) (locs : List Loc) (ls : Array Slot), fX7_settle_74 p1 rec26 x2 s0 v ar = some (r, v2, ar2) → va_P D vwCl (mW cI a v ar) H → va_S (kA a 15) s.heap H locs → lv_has ls 5 [(0, .ref (a 0)), (1, .int p1), (2, .int x2)] → kGo p l e 6 146 s m args below meth c D (mW cI a) (kA a 15) (some (.int r)) v2 ar2 H locs (F0 m 74 ls [.int s0]) := by
    intro rec26 hrec26 x2 s0 v ar H locs ls hf hP hS hl
    unfold fX7_settle_74 at hf
    refine lv_istore_n (lv' := [(3, .int s0), (0, .ref (a 0)), (1, .int p1), (2, .int x2)]) hx hb dX7_settle_74 rfl hl (by decide) rfl (fun ls hl => ?_)
    refine lv_goto (tgt := 26) hx hb dX7_settle_75 (by decide) ?_
    exact hrec26 _ _ _ _ _ _ _ hf hP hS (lv_sub hl [1, 2, 3, 0] rfl)
  have hB26 : ∀ (n : Nat), ∀ (x2 : Int32) (x3 : Int32) (v : kV) (ar : kR) (H : Heap) (locs : List Loc) (ls : Array Slot), fX7_settle_26 p1 n x2 x3 v ar = some (r, v2, ar2) → va_P D vwCl (mW cI a v ar) H → va_S (kA a 15) s.heap H locs → lv_has ls 5 [(0, .ref (a 0)), (1, .int p1), (2, .int x2), (3, .int x3)] → kGo p l e 6 146 s m args below meth c D (mW cI a) (kA a 15) (some (.int r)) v2 ar2 H locs (F0 m 26 ls []) := by
    intro  n
    induction n with
    | zero =>
      intro x2 x3 v ar H locs ls hf
      have hf : (none : Option (Int32 × kV × kR)) = some (r, v2, ar2) := hf
      cases hf
    | succ n ih =>
      intro x2 x3 v ar H locs ls hf hP hS hl
      have hf : fX7_settle_26b p1 (fX7_settle_26 p1 n) x2 x3 v ar = some (r, v2, ar2) := hf
      unfold fX7_settle_26b at hf
      refine lv_iload_n hx hb dX7_settle_26 rfl (lv_at hl 3 rfl) ?_
      refine lv_if_eq (tgt := 78) hx hb dX7_settle_27 (by decide) (fun c5 => ?_) (fun c5 => ?_)
      · have hf := kif_t c5 hf
        refine lv_iload_n hx hb dX7_settle_78 rfl (lv_at hl 2 rfl) ?_
        obtain ⟨rfl, rfl, rfl⟩ := kinj3 hf
        exact kret_i C0 hr hlk hP hS dX7_settle_79
      · have hf := kif_f c5 hf
        refine lv_aload_n hx hb dX7_settle_30 rfl (lv_at hl 0 rfl) ?_
        refine lv_aload_n hx hb dX7_settle_31 rfl (lv_at hl 0 rfl) ?_
        refine xg_M_7 C0 hP q_604 dX7_settle_32 ?_
        obtain ⟨r7, e6, hf⟩ := kb1_s hf
        refine kcallV (As := [.int (v (7))]) (rest := []) C0 (cX7_cutsBy_c hap e6) q_757 kw_X7_cutsBy (xv_M C0.2 hP) hP hS ⟨Nat.le_of_ble_eq_true rfl, Nat.le_of_ble_eq_true rfl⟩ rfl hl.1 rfl (Nat.le_of_ble_eq_true rfl) dX7_settle_35 (fun H locs hP hS => ?_)
        refine lv_istore (lv' := [(4, .int r7), (0, .ref (a 0)), (1, .int p1), (2, .int x2), (3, .int x3)]) hx hb dX7_settle_38 hl (by decide) rfl (fun ls hl => ?_)
        refine lv_aload_n hx hb dX7_settle_40 rfl (lv_at hl 1 rfl) ?_
        refine lv_iload_n hx hb dX7_settle_41 rfl (lv_at hl 2 rfl) ?_
        obtain ⟨v10, ar11, e8, hf⟩ := kb2_s hf
        refine kcallV (As := [.int p1]) (rest := []) C0 (cX7_findPass_c hap e8) q_811 kw_X7_findPass (xv_M C0.2 hP) hP hS ⟨Nat.le_of_ble_eq_true rfl, Nat.le_of_ble_eq_true rfl⟩ rfl hl.1 rfl (Nat.le_of_ble_eq_true rfl) dX7_settle_42 (fun H locs hP hS => ?_)
        refine lv_aload_n hx hb dX7_settle_45 rfl (lv_at hl 1 rfl) ?_
        refine lv_aload_n hx hb dX7_settle_46 rfl (lv_at hl 1 rfl) ?_
        refine xg_M_27 C0 hP q_624 dX7_settle_47 ?_
        refine xp_M_7 C0 hap hP hS q_604 dX7_settle_50 (fun H locs hP hS => ?_)
        refine lv_iinc (v := (x2 + (1 : Int32))) (lv' := [(2, .int (x2 + (1 : Int32))), (4, .int r7), (0, .ref (a 0)), (1, .int p1), (3, .int x3)]) hx hb dX7_settle_53 hl (k := 3) rfl rfl (by decide) rfl (fun ls hl => ?_)
        refine lv_aload_n hx hb dX7_settle_56 rfl (lv_at hl 2 rfl) ?_
        refine lv_aload_n hx hb dX7_settle_57 rfl (lv_at hl 2 rfl) ?_
        refine xg_M_7 C0 hP q_604 dX7_settle_58 ?_
        obtain ⟨r13, e12, hf⟩ := kb1_s hf
        refine kcallV (As := [.int ((upd v10 (7) (v10 (27))) (7))]) (rest := []) C0 (cX7_cutsBy_c hap e12) q_757 kw_X7_cutsBy (xv_M C0.2 hP) hP hS ⟨Nat.le_of_ble_eq_true rfl, Nat.le_of_ble_eq_true rfl⟩ rfl hl.1 rfl (Nat.le_of_ble_eq_true rfl) dX7_settle_61 (fun H locs hP hS => ?_)
        refine lv_iload hx hb dX7_settle_64 (lv_at hl 1 rfl) ?_
        refine lv_icmp_ge (tgt := 73) hx hb dX7_settle_66 (by decide) (fun c14 => ?_) (fun c14 => ?_)
        · have hf := kif_t c14 hf
          refine lv_iconst (v := (0 : Int32)) hx hb dX7_settle_73 (by decide) ?_
          exact hB74 _ ih _ _ _ _ _ _ _ hf hP hS (lv_sub hl [2, 3, 0] rfl)
        · have hf := kif_f c14 hf
          refine lv_iconst (v := (1 : Int32)) hx hb dX7_settle_69 (by decide) ?_
          refine lv_goto (tgt := 74) hx hb dX7_settle_70 (by decide) ?_
          exact hB74 _ ih _ _ _ _ _ _ _ hf hP hS (lv_sub hl [2, 3, 0] rfl)
  unfold fX7_settle at hf
  refine lv_aload_n hx hb dX7_settle_0 rfl (lv_at hl 0 rfl) ?_
  refine xg_M_5 C0 hP q_602 dX7_settle_1 ?_
  refine lv_if_ne (tgt := 10) hx hb dX7_settle_4 (by decide) (fun c1 => ?_) (fun c1 => ?_)
  · have hf := kif_f c1 hf
    refine lv_iload_n hx hb dX7_settle_10 rfl (lv_at hl 1 rfl) ?_
    refine lv_iconst (v := (0 : Int32)) hx hb dX7_settle_11 (by decide) ?_
    refine lv_iconst (v := (2 : Int32)) hx hb dX7_settle_12 (by decide) ?_
    obtain ⟨r3, e2, hf⟩ := kb1_s hf
    refine kcallT (As := [.int p1, .int (0 : Int32), .int (2 : Int32)]) (rest := []) C0 (cX7_within_c hap e2) q_701 kw_X7_within hP hS ⟨Nat.le_of_ble_eq_true rfl, Nat.le_of_ble_eq_true rfl⟩ rfl hl.1 rfl (Nat.le_of_ble_eq_true rfl) dX7_settle_13 (fun H locs hP hS => ?_)
    refine lv_if_ne (tgt := 22) hx hb dX7_settle_16 (by decide) (fun c4 => ?_) (fun c4 => ?_)
    · have hf := kif_f c4 hf
      refine lv_iconst (v := (0 : Int32)) hx hb dX7_settle_22 (by decide) ?_
      refine lv_istore_n (lv' := [(2, .int (0 : Int32)), (0, .ref (a 0)), (1, .int p1)]) hx hb dX7_settle_23 rfl hl (by decide) rfl (fun ls hl => ?_)
      refine lv_iconst (v := (1 : Int32)) hx hb dX7_settle_24 (by decide) ?_
      refine lv_istore_n (lv' := [(3, .int (1 : Int32)), (2, .int (0 : Int32)), (0, .ref (a 0)), (1, .int p1)]) hx hb dX7_settle_25 rfl hl (by decide) rfl (fun ls hl => ?_)
      exact hB26 _ _ _ _ _ _ _ _ hf hP hS (lv_sub hl [2, 3, 1, 0] rfl)
    · have hf := kif_t c4 hf
      refine lv_bipush (v := (-2 : Int32)) hx hb dX7_settle_19 (by decide) ?_
      obtain ⟨rfl, rfl, rfl⟩ := kinj3 hf
      exact kret_i C0 hr hlk hP hS dX7_settle_21
  · have hf := kif_t c1 hf
    refine lv_bipush (v := (-3 : Int32)) hx hb dX7_settle_7 (by decide) ?_
    obtain ⟨rfl, rfl, rfl⟩ := kinj3 hf
    exact kret_i C0 hr hlk hP hS dX7_settle_9
set_option maxHeartbeats 4000000 in
set_option maxRecDepth 100000 in
theorem cX7_isPair_c {l : Launch} {D : va_G} {cI cS : ClassId} {a : Nat → Nat} (hap : kAp a 15) {v : kV} {ar : kR} {p0 : Int32} {p1 : Int32} {r : Bool} (hf : fX7_isPair p0 p1 = some r) : kMet l D cI cS (mW cI a) (kA a 15) yX7_isPair cX7_isPair 2 (some .boolean) 1 22 [.int p0, .int p1] v ar (some (.int (bI r))) v ar := by
  refine kstart (by decide) (Nat.le_of_ble_eq_true rfl) ?_
  intro p e s m args below meth c ls C0 hr hlk hl hP hS
  have C0 : kC p s m c args cX7_isPair 2 RX7 D cI cS := C0
  have hx := C0.1.1
  have hb := C0.1.2.1
  have hl : lv_has ls 2 [(0, .int p0), (1, .int p1)] := hl
  unfold fX7_isPair at hf
  refine lv_iload_n hx hb dX7_isPair_0 rfl (lv_at hl 1 rfl) ?_
  refine lv_bipush (v := (20 : Int32)) hx hb dX7_isPair_1 (by decide) ?_
  refine lv_icmp_ne (tgt := 15) hx hb dX7_isPair_3 (by decide) (fun c1 => ?_) (fun c1 => ?_)
  · have hf := kif_f c1 hf
    refine lv_iload_n hx hb dX7_isPair_15 rfl (lv_at hl 1 rfl) ?_
    refine lv_bipush (v := (10 : Int32)) hx hb dX7_isPair_16 (by decide) ?_
    refine lv_bipush (v := (16 : Int32)) hx hb dX7_isPair_18 (by decide) ?_
    obtain ⟨r3, e2, hf⟩ := kb1_s hf
    refine kcallT (As := [.int p1, .int (10 : Int32), .int (16 : Int32)]) (rest := []) C0 (cX7_within_c hap e2) q_701 kw_X7_within hP hS ⟨Nat.le_of_ble_eq_true rfl, Nat.le_of_ble_eq_true rfl⟩ rfl hl.1 rfl (Nat.le_of_ble_eq_true rfl) dX7_isPair_20 (fun H locs hP hS => ?_)
    refine lv_if_eq (tgt := 36) hx hb dX7_isPair_23 (by decide) (fun c4 => ?_) (fun c4 => ?_)
    · have hf := kif_t c4 hf
      refine lv_iload_n hx hb dX7_isPair_36 rfl (lv_at hl 1 rfl) ?_
      refine lv_iconst (v := (0 : Int32)) hx hb dX7_isPair_37 (by decide) ?_
      refine lv_bipush (v := (6 : Int32)) hx hb dX7_isPair_38 (by decide) ?_
      obtain ⟨r6, e5, hf⟩ := kb1_s hf
      refine kcallT (As := [.int p1, .int (0 : Int32), .int (6 : Int32)]) (rest := []) C0 (cX7_within_c hap e5) q_701 kw_X7_within hP hS ⟨Nat.le_of_ble_eq_true rfl, Nat.le_of_ble_eq_true rfl⟩ rfl hl.1 rfl (Nat.le_of_ble_eq_true rfl) dX7_isPair_40 (fun H locs hP hS => ?_)
      refine lv_if_eq (tgt := 54) hx hb dX7_isPair_43 (by decide) (fun c7 => ?_) (fun c7 => ?_)
      · have hf := kif_t c7 hf
        refine lv_iconst (v := (0 : Int32)) hx hb dX7_isPair_54 (by decide) ?_
        obtain rfl := Option.some.inj hf
        exact kret_z false rfl C0 hr hlk hP hS dX7_isPair_55
      · have hf := kif_f c7 hf
        refine lv_iload_n hx hb dX7_isPair_46 rfl (lv_at hl 0 rfl) ?_
        refine lv_if_ne (tgt := 54) hx hb dX7_isPair_47 (by decide) (fun c8 => ?_) (fun c8 => ?_)
        · have hf := kif_f c8 hf
          refine lv_iconst (v := (0 : Int32)) hx hb dX7_isPair_54 (by decide) ?_
          obtain rfl := Option.some.inj hf
          exact kret_z false rfl C0 hr hlk hP hS dX7_isPair_55
        · have hf := kif_t c8 hf
          refine lv_iconst (v := (1 : Int32)) hx hb dX7_isPair_50 (by decide) ?_
          refine lv_goto (tgt := 55) hx hb dX7_isPair_51 (by decide) ?_
          obtain rfl := Option.some.inj hf
          exact kret_z true rfl C0 hr hlk hP hS dX7_isPair_55
    · have hf := kif_f c4 hf
      refine lv_iload_n hx hb dX7_isPair_26 rfl (lv_at hl 0 rfl) ?_
      refine lv_iconst (v := (1 : Int32)) hx hb dX7_isPair_27 (by decide) ?_
      refine lv_bipush (v := (9 : Int32)) hx hb dX7_isPair_28 (by decide) ?_
      obtain ⟨r10, e9, hf⟩ := kb1_s hf
      refine kcallT (As := [.int p0, .int (1 : Int32), .int (9 : Int32)]) (rest := []) C0 (cX7_within_c hap e9) q_701 kw_X7_within hP hS ⟨Nat.le_of_ble_eq_true rfl, Nat.le_of_ble_eq_true rfl⟩ rfl hl.1 rfl (Nat.le_of_ble_eq_true rfl) dX7_isPair_30 (fun H locs hP hS => ?_)
      refine lv_goto (tgt := 55) hx hb dX7_isPair_33 (by decide) ?_
      obtain rfl := Option.some.inj hf
      exact kret_z r10 rfl C0 hr hlk hP hS dX7_isPair_55
  · have hf := kif_t c1 hf
    refine lv_iload_n hx hb dX7_isPair_6 rfl (lv_at hl 0 rfl) ?_
    refine lv_iconst (v := (0 : Int32)) hx hb dX7_isPair_7 (by decide) ?_
    refine lv_iconst (v := (2 : Int32)) hx hb dX7_isPair_8 (by decide) ?_
    obtain ⟨r12, e11, hf⟩ := kb1_s hf
    refine kcallT (As := [.int p0, .int (0 : Int32), .int (2 : Int32)]) (rest := []) C0 (cX7_within_c hap e11) q_701 kw_X7_within hP hS ⟨Nat.le_of_ble_eq_true rfl, Nat.le_of_ble_eq_true rfl⟩ rfl hl.1 rfl (Nat.le_of_ble_eq_true rfl) dX7_isPair_9 (fun H locs hP hS => ?_)
    refine lv_goto (tgt := 55) hx hb dX7_isPair_12 (by decide) ?_
    obtain rfl := Option.some.inj hf
    exact kret_z r12 rfl C0 hr hlk hP hS dX7_isPair_55
