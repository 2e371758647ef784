set_option maxHeartbeats 4000000 in
set_option maxRecDepth 100000 in
theorem cX6_copy_c {l : Launch} {D : va_G} {cI cS : ClassId} {a : Nat → Nat} (hap : kAp a 29) {v : kV} {ar : kR} {p1 : Int32} {p2 : Int32} {p3 : Int32} {p4 : Int32} {p5 : Int32} {r : Int32} {v2 : kV} {ar2 : kR} (hf : fX6_copy v ar p1 p2 p3 p4 p5 = some (r, v2, ar2)) : kMet l D cI cS (xW cI cS a) (kA a 29) yX6_copy cX6_copy 8 (some .int) 1 26 [.ref (a 0), .int p1, .int p2, .int p3, .int p4, .int p5] v ar (some (.int r)) v2 ar2 := by
  refine kstart (by decide) (Nat.le_of_ble_eq_true rfl) ?_
  intro p e s m args below meth c ls C0 hr hlk hl hP hS
  have C0 : kC p s m c args cX6_copy 8 RX6 D cI cS := C0
  have hx := C0.1.1
  have hb := C0.1.2.1
  have hl : lv_has ls 8 [(0, .ref (a 0)), (1, .int p1), (2, .int p2), (3, .int p3), (4, .int p4), (5, .int p5)] := hl
  have hB14 : ∀ (v : kV) (ar : kR) (H : Heap) (locs : List Loc) (ls : Array Slot), fX6_copy_14 p1 p2 p3 p4 p5 v ar = some (r, v2, ar2) → va_P D vwCl (xW cI cS a v ar) H → va_S (kA a 29) s.heap H locs → lv_has ls 8 [(0, .ref (a 0))] → kGo p l e 1 26 s m args below meth c D (xW cI cS a) (kA a 29) (some (.int r)) v2 ar2 H locs (F0 m 14 ls []) := by
    intro  v ar H locs ls hf hP hS hl
    unfold fX6_copy_14 at hf
    refine lv_aload_n hx hb dX6_copy_14 rfl (lv_at hl 0 rfl) ?_
    refine lv_iconst (v := (-1 : Int32)) hx hb dX6_copy_15 (by decide) ?_
    obtain ⟨r5, v6, ar7, e4, hf⟩ := kb3_s hf
    refine kcallV (As := [.int (-1 : Int32)]) (rest := []) C0 (cX6_refused_c hap e4) q_204 kw_X6_refused (xv_HC C0.2 hP) hP hS ⟨Nat.le_of_ble_eq_true rfl, Nat.le_of_ble_eq_true rfl⟩ rfl hl.1 rfl (Nat.le_of_ble_eq_true rfl) dX6_copy_16 (fun H locs hP hS => ?_)
    obtain ⟨rfl, rfl, rfl⟩ := kinj3 hf
    exact kret_i C0 hr hlk hP hS dX6_copy_19
  have hB54 : ∀ (v : kV) (ar : kR) (H : Heap) (locs : List Loc) (ls : Array Slot), fX6_copy_54 p1 p2 p3 p4 p5 v ar = some (r, v2, ar2) → va_P D vwCl (xW cI cS a v ar) H → va_S (kA a 29) s.heap H locs → lv_has ls 8 [(0, .ref (a 0))] → kGo p l e 1 26 s m args below meth c D (xW cI cS a) (kA a 29) (some (.int r)) v2 ar2 H locs (F0 m 54 ls []) := by
    intro  v ar H locs ls hf hP hS hl
    unfold fX6_copy_54 at hf
    refine lv_aload_n hx hb dX6_copy_54 rfl (lv_at hl 0 rfl) ?_
    refine lv_iconst (v := (1 : Int32)) hx hb dX6_copy_55 (by decide) ?_
    obtain ⟨r17, v18, ar19, e16, hf⟩ := kb3_s hf
    refine kcallV (As := [.int (1 : Int32)]) (rest := []) C0 (cX6_failed_c hap e16) q_219 kw_X6_failed (xv_HC C0.2 hP) hP hS ⟨Nat.le_of_ble_eq_true rfl, Nat.le_of_ble_eq_true rfl⟩ rfl hl.1 rfl (Nat.le_of_ble_eq_true rfl) dX6_copy_56 (fun H locs hP hS => ?_)
    obtain ⟨rfl, rfl, rfl⟩ := kinj3 hf
    exact kret_i C0 hr hlk hP hS dX6_copy_59
  have hB102 : ∀ (v : kV) (ar : kR) (H : Heap) (locs : List Loc) (ls : Array Slot), fX6_copy_102 p1 p2 p3 p4 p5 v ar = some (r, v2, ar2) → va_P D vwCl (xW cI cS a v ar) H → va_S (kA a 29) s.heap H locs → lv_has ls 8 [(0, .ref (a 0))] → kGo p l e 1 26 s m args below meth c D (xW cI cS a) (kA a 29) (some (.int r)) v2 ar2 H locs (F0 m 102 ls []) := by
    intro  v ar H locs ls hf hP hS hl
    unfold fX6_copy_102 at hf
    refine lv_aload_n hx hb dX6_copy_102 rfl (lv_at hl 0 rfl) ?_
    refine lv_iconst (v := (3 : Int32)) hx hb dX6_copy_103 (by decide) ?_
    obtain ⟨r26, v27, ar28, e25, hf⟩ := kb3_s hf
    refine kcallV (As := [.int (3 : Int32)]) (rest := []) C0 (cX6_failed_c hap e25) q_219 kw_X6_failed (xv_HC C0.2 hP) hP hS ⟨Nat.le_of_ble_eq_true rfl, Nat.le_of_ble_eq_true rfl⟩ rfl hl.1 rfl (Nat.le_of_ble_eq_true rfl) dX6_copy_104 (fun H locs hP hS => ?_)
    obtain ⟨rfl, rfl, rfl⟩ := kinj3 hf
    exact kret_i C0 hr hlk hP hS dX6_copy_107
  unfold fX6_copy at hf
  refine lv_iload_n hx hb dX6_copy_0 rfl (lv_at hl 1 rfl) ?_
  obtain ⟨r2, e1, hf⟩ := kb1_s hf
  refine kcallT (As := [.int p1]) (rest := []) C0 (cX6_isSheet_c hap e1) q_201 kw_X6_isSheet hP hS ⟨Nat.le_of_ble_eq_true rfl, Nat.le_of_ble_eq_true rfl⟩ rfl hl.1 rfl (Nat.le_of_ble_eq_true rfl) dX6_copy_1 (fun H locs hP hS => ?_)
  refine lv_if_eq (tgt := 14) hx hb dX6_copy_4 (by decide) (fun c3 => ?_) (fun c3 => ?_)
  · have hf := kif_t c3 hf
    exact hB14 _ _ _ _ _ hf hP hS (lv_sub hl [0] rfl)
  · have hf := kif_f c3 hf
    refine lv_iload_n hx hb dX6_copy_7 rfl (lv_at hl 3 rfl) ?_
    obtain ⟨r9, e8, hf⟩ := kb1_s hf
    refine kcallT (As := [.int p3]) (rest := []) C0 (cX6_isSheet_c hap e8) q_201 kw_X6_isSheet hP hS ⟨Nat.le_of_ble_eq_true rfl, Nat.le_of_ble_eq_true rfl⟩ rfl hl.1 rfl (Nat.le_of_ble_eq_true rfl) dX6_copy_8 (fun H locs hP hS => ?_)
    refine lv_if_ne (tgt := 20) hx hb dX6_copy_11 (by decide) (fun c10 => ?_) (fun c10 => ?_)
    · have hf := kif_f c10 hf
      refine lv_aload_n hx hb dX6_copy_20 rfl (lv_at hl 0 rfl) ?_
      refine xg_HC_0 C0 hP q_169 dX6_copy_21 ?_
      refine lv_iload_n hx hb dX6_copy_24 rfl (lv_at hl 1 rfl) ?_
      obtain ⟨g11, hf⟩ := kgd hf
      have hq12 : p1.toNatClampNeg < 4 := Nat.not_le.mp fun z => g11 (Or.inr z)
      refine xl_SA C0 hP g11 dX6_copy_25 ?_
      refine lv_astore (lv' := [(6, .ref (a (8+p1.toNatClampNeg))), (0, .ref (a 0)), (1, .int p1), (2, .int p2), (3, .int p3), (4, .int p4), (5, .int p5)]) hx hb dX6_copy_26 hl (by decide) rfl (fun ls hl => ?_)
      refine lv_aload_n hx hb dX6_copy_28 rfl (lv_at hl 1 rfl) ?_
      refine xg_HC_0 C0 hP q_169 dX6_copy_29 ?_
      refine lv_iload_n hx hb dX6_copy_32 rfl (lv_at hl 4 rfl) ?_
      obtain ⟨g13, hf⟩ := kgd hf
      have hq14 : p3.toNatClampNeg < 4 := Nat.not_le.mp fun z => g13 (Or.inr z)
      refine xl_SA C0 hP g13 dX6_copy_33 ?_
      refine lv_astore (lv' := [(7, .ref (a (8+p3.toNatClampNeg))), (6, .ref (a (8+p1.toNatClampNeg))), (0, .ref (a 0)), (1, .int p1), (2, .int p2), (3, .int p3), (4, .int p4), (5, .int p5)]) hx hb dX6_copy_34 hl (by decide) rfl (fun ls hl => ?_)
      refine lv_aload hx hb dX6_copy_36 (lv_at hl 1 rfl) ?_
      refine xg_S_0 C0 hq12 hP q_156 dX6_copy_38 ?_
      refine lv_iconst (v := (-1 : Int32)) hx hb dX6_copy_41 (by decide) ?_
      refine lv_icmp_eq (tgt := 54) hx hb dX6_copy_42 (by decide) (fun c15 => ?_) (fun c15 => ?_)
      · have hf := kif_t c15 hf
        exact hB54 _ _ _ _ _ hf hP hS (lv_sub hl [2] rfl)
      · have hf := kif_f c15 hf
        refine lv_aload hx hb dX6_copy_45 (lv_at hl 0 rfl) ?_
        refine xg_S_0 C0 hq14 hP q_156 dX6_copy_47 ?_
        refine lv_iconst (v := (-1 : Int32)) hx hb dX6_copy_50 (by decide) ?_
        refine lv_icmp_ne (tgt := 60) hx hb dX6_copy_51 (by decide) (fun c20 => ?_) (fun c20 => ?_)
        · have hf := kif_f c20 hf
          refine lv_aload hx hb dX6_copy_60 (lv_at hl 1 rfl) ?_
          refine xg_S_0 C0 hq12 hP q_156 dX6_copy_62 ?_
          refine lv_aload hx hb dX6_copy_65 (lv_at hl 0 rfl) ?_
          refine xg_S_0 C0 hq14 hP q_156 dX6_copy_67 ?_
          refine lv_icmp_eq (tgt := 79) hx hb dX6_copy_70 (by decide) (fun c21 => ?_) (fun c21 => ?_)
          · have hf := kif_t c21 hf
            refine lv_aload hx hb dX6_copy_79 (lv_at hl 1 rfl) ?_
            refine lv_iload_n hx hb dX6_copy_81 rfl (lv_at hl 4 rfl) ?_
            refine lv_iload hx hb dX6_copy_82 (lv_at hl 7 rfl) ?_
            obtain ⟨r23, e22, hf⟩ := kb1_s hf
            refine kcallV (As := [.int p2, .int p5]) (rest := []) C0 (cX4_has_c hap hq12 e22) q_215 kw_X4_has (xv_S hq12 C0.2 hP) hP hS ⟨Nat.le_of_ble_eq_true rfl, Nat.le_of_ble_eq_true rfl⟩ rfl hl.1 rfl (Nat.le_of_ble_eq_true rfl) dX6_copy_84 (fun H locs hP hS => ?_)
            refine lv_if_eq (tgt := 102) hx hb dX6_copy_87 (by decide) (fun c24 => ?_) (fun c24 => ?_)
            · have hf := kif_t c24 hf
              exact hB102 _ _ _ _ _ hf hP hS (lv_sub hl [2] rfl)
            · have hf := kif_f c24 hf
              refine lv_aload hx hb dX6_copy_90 (lv_at hl 0 rfl) ?_
              refine lv_iload hx hb dX6_copy_92 (lv_at hl 6 rfl) ?_
              refine lv_iload hx hb dX6_copy_94 (lv_at hl 7 rfl) ?_
              obtain ⟨r30, e29, hf⟩ := kb1_s hf
              refine kcallV (As := [.int p4, .int p5]) (rest := []) C0 (cX4_has_c hap hq14 e29) q_215 kw_X4_has (xv_S hq14 C0.2 hP) hP hS ⟨Nat.le_of_ble_eq_true rfl, Nat.le_of_ble_eq_true rfl⟩ rfl hl.1 rfl (Nat.le_of_ble_eq_true rfl) dX6_copy_96 (fun H locs hP hS => ?_)
              refine lv_if_ne (tgt := 108) hx hb dX6_copy_99 (by decide) (fun c31 => ?_) (fun c31 => ?_)
              · have hf := kif_f c31 hf
                refine lv_aload_n hx hb dX6_copy_108 rfl (lv_at hl 2 rfl) ?_
                refine lv_iconst (v := (0 : Int32)) hx hb dX6_copy_109 (by decide) ?_
                refine xp_HC_8 C0 hap hP hS q_177 dX6_copy_110 (fun H locs hP hS => ?_)
                refine lv_aload hx hb dX6_copy_113 (lv_at hl 1 rfl) ?_
                refine xg_S_2 C0 hq12 hP q_161 dX6_copy_115 ?_
                refine lv_iload_n hx hb dX6_copy_118 rfl (lv_at hl 4 rfl) ?_
                refine lv_aload hx hb dX6_copy_119 (lv_at hl 0 rfl) ?_
                refine xg_S_2 C0 hq14 hP q_161 dX6_copy_121 ?_
                refine lv_iload hx hb dX6_copy_124 (lv_at hl 6 rfl) ?_
                refine lv_iload hx hb dX6_copy_126 (lv_at hl 7 rfl) ?_
                obtain ⟨g32, hf⟩ := kgd hf
                refine xcopy C0 hap hl.1 (xa_row hq12) (xa_row hq14) (xz_row hq14) q_549 hP hS g32 (Nat.le_of_ble_eq_true rfl) (Nat.le_of_ble_eq_true rfl) dX6_copy_128 (fun H locs hP hS => ?_)
                refine lv_iload hx hb dX6_copy_131 (lv_at hl 7 rfl) ?_
                obtain ⟨rfl, rfl, rfl⟩ := kinj3 hf
                exact kret_i C0 hr hlk hP hS dX6_copy_133
              · have hf := kif_t c31 hf
                exact hB102 _ _ _ _ _ hf hP hS (lv_sub hl [2] rfl)
          · have hf := kif_f c21 hf
            refine lv_aload_n hx hb dX6_copy_73 rfl (lv_at hl 2 rfl) ?_
            refine lv_iconst (v := (2 : Int32)) hx hb dX6_copy_74 (by decide) ?_
            obtain ⟨r34, v35, ar36, e33, hf⟩ := kb3_s hf
            refine kcallV (As := [.int (2 : Int32)]) (rest := []) C0 (cX6_failed_c hap e33) q_219 kw_X6_failed (xv_HC C0.2 hP) hP hS ⟨Nat.le_of_ble_eq_true rfl, Nat.le_of_ble_eq_true rfl⟩ rfl hl.1 rfl (Nat.le_of_ble_eq_true rfl) dX6_copy_75 (fun H locs hP hS => ?_)
            obtain ⟨rfl, rfl, rfl⟩ := kinj3 hf
            exact kret_i C0 hr hlk hP hS dX6_copy_78
        · have hf := kif_t c20 hf
          exact hB54 _ _ _ _ _ hf hP hS (lv_sub hl [2] rfl)
    · have hf := kif_t c10 hf
      exact hB14 _ _ _ _ _ hf hP hS (lv_sub hl [0] rfl)
set_option maxHeartbeats 4000000 in
set_option maxRecDepth 100000 in
theorem cX6_leaveInTrace_c {l : Launch} {D : va_G} {cI cS : ClassId} {a : Nat → Nat} (hap : kAp a 29) {v : kV} {ar : kR} {p1 : Int32} {v2 : kV} {ar2 : kR} (hf : fX6_leaveInTrace v ar p1 = some (v2, ar2)) : kMet l D cI cS (xW cI cS a) (kA a 29) yX6_leaveInTrace cX6_leaveInTrace 2 none 0 0 [.ref (a 0), .int p1] v ar none v2 ar2 := by
  refine kstart (by decide) (Nat.le_of_ble_eq_true rfl) ?_
  intro p e s m args below meth c ls C0 hr hlk hl hP hS
  have C0 : kC p s m c args cX6_leaveInTrace 2 RX6 D cI cS := C0
  have hx := C0.1.1
  have hb := C0.1.2.1
  have hl : lv_has ls 2 [(0, .ref (a 0)), (1, .int p1)] := hl
  unfold fX6_leaveInTrace at hf
  refine lv_aload_n hx hb dX6_leaveInTrace_0 rfl (lv_at hl 0 rfl) ?_
  refine lv_bipush (v := (31 : Int32)) hx hb dX6_leaveInTrace_1 (by decide) ?_
  refine lv_aload_n hx hb dX6_leaveInTrace_3 rfl (lv_at hl 0 rfl) ?_
  refine xg_HC_7 C0 hP q_176 dX6_leaveInTrace_4 ?_
  refine lv_imul hx hb dX6_leaveInTrace_7 ?_
  refine lv_iload_n hx hb dX6_leaveInTrace_8 rfl (lv_at hl 1 rfl) ?_
  refine lv_iadd hx hb dX6_leaveInTrace_9 ?_
  refine xp_HC_7 C0 hap hP hS q_176 dX6_leaveInTrace_10 (fun H locs hP hS => ?_)
  obtain ⟨rfl, rfl⟩ := kinj2 hf
  exact kret_v C0 hr hlk hP hS dX6_leaveInTrace_13
set_option maxHeartbeats 4000000 in
set_option maxRecDepth 100000 in
theorem cX6_plainTold_c {l : Launch} {D : va_G} {cI cS : ClassId} {a : Nat → Nat} (hap : kAp a 29) {v : kV} {ar : kR} {p1 : Int32} {r : Int32} {v2 : kV} {ar2 : kR} (hf : fX6_plainTold v ar p1 = some (r, v2, ar2)) : kMet l D cI cS (xW cI cS a) (kA a 29) yX6_plainTold cX6_plainTold 2 (some .int) 1 21 [.ref (a 0), .int p1] v ar (some (.int r)) v2 ar2 := by
  refine kstart (by decide) (Nat.le_of_ble_eq_true rfl) ?_
  intro p e s m args below meth c ls C0 hr hlk hl hP hS
  have C0 : kC p s m c args cX6_plainTold 2 RX6 D cI cS := C0
  have hx := C0.1.1
  have hb := C0.1.2.1
  have hl : lv_has ls 2 [(0, .ref (a 0)), (1, .int p1)] := hl
  unfold fX6_plainTold at hf
  refine lv_aload_n hx hb dX6_plainTold_0 rfl (lv_at hl 0 rfl) ?_
  refine lv_iconst (v := (1 : Int32)) hx hb dX6_plainTold_1 (by decide) ?_
  obtain ⟨v3, ar4, e1, hf⟩ := kb2_s hf
  refine kcallV (As := [.int (1 : Int32)]) (rest := []) C0 (cX6_leaveInTrace_c hap e1) q_558 kw_X6_leaveInTrace (xv_HC C0.2 hP) hP hS ⟨Nat.le_of_ble_eq_true rfl, Nat.le_of_ble_eq_true rfl⟩ rfl hl.1 rfl (Nat.le_of_ble_eq_true rfl) dX6_plainTold_2 (fun H locs hP hS => ?_)
  refine lv_aload_n hx hb dX6_plainTold_5 rfl (lv_at hl 0 rfl) ?_
  refine xg_HC_1 C0 hP q_170 dX6_plainTold_6 ?_
  refine xg_H_6 C0 k0_2 hP q_48 dX6_plainTold_9 ?_
  refine lv_iload_n hx hb dX6_plainTold_12 rfl (lv_at hl 1 rfl) ?_
  obtain ⟨g5, hf⟩ := kgd hf
  refine xl_bulk C0 k0_2 hP g5 dX6_plainTold_13 ?_
  obtain ⟨rfl, rfl, rfl⟩ := kinj3 hf
  exact kret_i C0 hr hlk hP hS dX6_plainTold_14
set_option maxHeartbeats 4000000 in
set_option maxRecDepth 100000 in
theorem cX6_bulkyTold_c {l : Launch} {D : va_G} {cI cS : ClassId} {a : Nat → Nat} (hap : kAp a 29) {v : kV} {ar : kR} {p1 : Int32} {r : Int32} {v2 : kV} {ar2 : kR} (hf : fX6_bulkyTold v ar p1 = some (r, v2, ar2)) : kMet l D cI cS (xW cI cS a) (kA a 29) yX6_bulkyTold cX6_bulkyTold 2 (some .int) 2 42 [.ref (a 0), .int p1] v ar (some (.int r)) v2 ar2 := by
  refine kstart (by decide) (Nat.le_of_ble_eq_true rfl) ?_
  intro p e s m args below meth c ls C0 hr hlk hl hP hS
  have C0 : kC p s m c args cX6_bulkyTold 2 RX6 D cI cS := C0
  have hx := C0.1.1
  have hb := C0.1.2.1
  have hl : lv_has ls 2 [(0, .ref (a 0)), (1, .int p1)] := hl
  unfold fX6_bulkyTold at hf
  refine lv_aload_n hx hb dX6_bulkyTold_0 rfl (lv_at hl 0 rfl) ?_
  refine lv_iconst (v := (2 : Int32)) hx hb dX6_bulkyTold_1 (by decide) ?_
  obtain ⟨v3, ar4, e1, hf⟩ := kb2_s hf
  refine kcallV (As := [.int (2 : Int32)]) (rest := []) C0 (cX6_leaveInTrace_c hap e1) q_558 kw_X6_leaveInTrace (xv_HC C0.2 hP) hP hS ⟨Nat.le_of_ble_eq_true rfl, Nat.le_of_ble_eq_true rfl⟩ rfl hl.1 rfl (Nat.le_of_ble_eq_true rfl) dX6_bulkyTold_2 (fun H locs hP hS => ?_)
  refine lv_aload_n hx hb dX6_bulkyTold_5 rfl (lv_at hl 0 rfl) ?_
  refine lv_iload_n hx hb dX6_bulkyTold_6 rfl (lv_at hl 1 rfl) ?_
  obtain ⟨r6, v7, ar8, e5, hf⟩ := kb3_s hf
  refine kcallV (As := [.int p1]) (rest := []) C0 (cX6_plainTold_c hap e5) q_566 kw_X6_plainTold (xv_HC C0.2 hP) hP hS ⟨Nat.le_of_ble_eq_true rfl, Nat.le_of_ble_eq_true rfl⟩ rfl hl.1 rfl (Nat.le_of_ble_eq_true rfl) dX6_bulkyTold_7 (fun H locs hP hS => ?_)
  refine lv_bipush (v := (100 : Int32)) hx hb dX6_bulkyTold_10 (by decide) ?_
  refine lv_iadd hx hb dX6_bulkyTold_12 ?_
  obtain ⟨rfl, rfl, rfl⟩ := kinj3 hf
  exact kret_i C0 hr hlk hP hS dX6_bulkyTold_13
set_option maxHeartbeats 4000000 in
set_option maxRecDepth 100000 in
theorem cX6_doubleTold_c {l : Launch} {D : va_G} {cI cS : ClassId} {a : Nat → Nat} (hap : kAp a 29) {v : kV} {ar : kR} {p1 : Int32} {r : Int32} {v2 : kV} {ar2 : kR} (hf : fX6_doubleTold v ar p1 = some (r, v2, ar2)) : kMet l D cI cS (xW cI cS a) (kA a 29) yX6_doubleTold cX6_doubleTold 3 (some .int) 3 63 [.ref (a 0), .int p1] v ar (some (.int r)) v2 ar2 := by
  refine kstart (by decide) (Nat.le_of_ble_eq_true rfl) ?_
  intro p e s m args below meth c ls C0 hr hlk hl hP hS
  have C0 : kC p s m c args cX6_doubleTold 3 RX6 D cI cS := C0
  have hx := C0.1.1
  have hb := C0.1.2.1
  have hl : lv_has ls 3 [(0, .ref (a 0)), (1, .int p1)] := hl
  unfold fX6_doubleTold at hf
  refine lv_aload_n hx hb dX6_doubleTold_0 rfl (lv_at hl 0 rfl) ?_
  refine lv_iconst (v := (3 : Int32)) hx hb dX6_doubleTold_1 (by decide) ?_
  obtain ⟨v3, ar4, e1, hf⟩ := kb2_s hf
  refine kcallV (As := [.int (3 : Int32)]) (rest := []) C0 (cX6_leaveInTrace_c hap e1) q_558 kw_X6_leaveInTrace (xv_HC C0.2 hP) hP hS ⟨Nat.le_of_ble_eq_true rfl, Nat.le_of_ble_eq_true rfl⟩ rfl hl.1 rfl (Nat.le_of_ble_eq_true rfl) dX6_doubleTold_2 (fun H locs hP hS => ?_)
  refine lv_aload_n hx hb dX6_doubleTold_5 rfl (lv_at hl 0 rfl) ?_
  refine lv_iload_n hx hb dX6_doubleTold_6 rfl (lv_at hl 1 rfl) ?_
  obtain ⟨r6, v7, ar8, e5, hf⟩ := kb3_s hf
  refine kcallV (As := [.int p1]) (rest := []) C0 (cX6_bulkyTold_c hap e5) q_562 kw_X6_bulkyTold (xv_HC C0.2 hP) hP hS ⟨Nat.le_of_ble_eq_true rfl, Nat.le_of_ble_eq_true rfl⟩ rfl hl.1 rfl (Nat.le_of_ble_eq_true rfl) dX6_doubleTold_7 (fun H locs hP hS => ?_)
  refine lv_istore_n (lv' := [(2, .int r6), (0, .ref (a 0)), (1, .int p1)]) hx hb dX6_doubleTold_10 rfl hl (by decide) rfl (fun ls hl => ?_)
  refine lv_iload_n hx hb dX6_doubleTold_11 rfl (lv_at hl 0 rfl) ?_
  refine lv_aload_n hx hb dX6_doubleTold_12 rfl (lv_at hl 1 rfl) ?_
  refine lv_iload_n hx hb dX6_doubleTold_13 rfl (lv_at hl 2 rfl) ?_
  obtain ⟨r10, v11, ar12, e9, hf⟩ := kb3_s hf
  refine kcallV (As := [.int p1]) (rest := [.int r6]) C0 (cX6_plainTold_c hap e9) q_566 kw_X6_plainTold (xv_HC C0.2 hP) hP hS ⟨Nat.le_of_ble_eq_true rfl, Nat.le_of_ble_eq_true rfl⟩ rfl hl.1 rfl (Nat.le_of_ble_eq_true rfl) dX6_doubleTold_14 (fun H locs hP hS => ?_)
  refine lv_iadd hx hb dX6_doubleTold_17 ?_
  obtain ⟨rfl, rfl, rfl⟩ := kinj3 hf
  exact kret_i C0 hr hlk hP hS dX6_doubleTold_18
set_option maxHeartbeats 4000000 in
set_option maxRecDepth 100000 in
theorem cX6_tell_c {l : Launch} {D : va_G} {cI cS : ClassId} {a : Nat → Nat} (hap : kAp a 29) {v : kV} {ar : kR} {p1 : Int32} {r : Int32} {v2 : kV} {ar2 : kR} (hf : fX6_tell v ar p1 = some (r, v2, ar2)) : kMet l D cI cS (xW cI cS a) (kA a 29) yX6_tell cX6_tell 2 (some .int) 4 85 [.ref (a 0), .int p1] v ar (some (.int r)) v2 ar2 := by
  refine kstart (by decide) (Nat.le_of_ble_eq_true rfl) ?_
  intro p e s m args below meth c ls C0 hr hlk hl hP hS
  have C0 : kC p s m c args cX6_tell 2 RX6 D cI cS := C0
  have hx := C0.1.1
  have hb := C0.1.2.1
  have hl : lv_has ls 2 [(0, .ref (a 0)), (1, .int p1)] := hl
  unfold fX6_tell at hf
  refine lv_aload_n hx hb dX6_tell_0 rfl (lv_at hl 0 rfl) ?_
  refine lv_iload_n hx hb dX6_tell_1 rfl (lv_at hl 1 rfl) ?_
  obtain ⟨r2, e1, hf⟩ := kb1_s hf
  refine kcallV (As := [.int p1]) (rest := []) C0 (cX6_isCell_c hap e1) q_278 kw_X6_isCell (xv_HC C0.2 hP) hP hS ⟨Nat.le_of_ble_eq_true rfl, Nat.le_of_ble_eq_true rfl⟩ rfl hl.1 rfl (Nat.le_of_ble_eq_true rfl) dX6_tell_2 (fun H locs hP hS => ?_)
  refine lv_if_ne (tgt := 10) hx hb dX6_tell_5 (by decide) (fun c3 => ?_) (fun c3 => ?_)
  · have hf := kif_f c3 hf
    refine lv_aload_n hx hb dX6_tell_10 rfl (lv_at hl 0 rfl) ?_
    refine xg_HC_1 C0 hP q_170 dX6_tell_11 ?_
    refine xg_H_5 C0 k0_2 hP q_46 dX6_tell_14 ?_
    refine lv_iload_n hx hb dX6_tell_17 rfl (lv_at hl 1 rfl) ?_
    obtain ⟨g4, hf⟩ := kgd hf
    refine xl_kind C0 k0_2 hP g4 dX6_tell_18 ?_
    by_cases c5 : (ar (4*0+0) p1.toNatClampNeg) = (1 : Int32)
    · have hf := kif_t c5 hf
      refine lv_lookup (tgt := 50) (off := (31 : Int)) hx hb dX6_tell_19 (by decide) (by rw [c5]; decide) (by decide) ?_
      refine lv_aload_n hx hb dX6_tell_50 rfl (lv_at hl 0 rfl) ?_
      refine lv_iload_n hx hb dX6_tell_51 rfl (lv_at hl 1 rfl) ?_
      obtain ⟨r7, v8, ar9, e6, hf⟩ := kb3_s hf
      refine kcallV (As := [.int p1]) (rest := []) C0 (cX6_bulkyTold_c hap e6) q_562 kw_X6_bulkyTold (xv_HC C0.2 hP) hP hS ⟨Nat.le_of_ble_eq_true rfl, Nat.le_of_ble_eq_true rfl⟩ rfl hl.1 rfl (Nat.le_of_ble_eq_true rfl) dX6_tell_52 (fun H locs hP hS => ?_)
      obtain ⟨rfl, rfl, rfl⟩ := kinj3 hf
      exact kret_i C0 hr hlk hP hS dX6_tell_55
    · have hf := kif_f c5 hf
      by_cases c10 : (ar (4*0+0) p1.toNatClampNeg) = (2 : Int32)
      · have hf := kif_t c10 hf
        refine lv_lookup (tgt := 44) (off := (25 : Int)) hx hb dX6_tell_19 (by decide) (by rw [c10]; decide) (by decide) ?_
        refine lv_aload_n hx hb dX6_tell_44 rfl (lv_at hl 0 rfl) ?_
        refine lv_iload_n hx hb dX6_tell_45 rfl (lv_at hl 1 rfl) ?_
        obtain ⟨r12, v13, ar14, e11, hf⟩ := kb3_s hf
        refine kcallV (As := [.int p1]) (rest := []) C0 (cX6_doubleTold_c hap e11) q_554 kw_X6_doubleTold (xv_HC C0.2 hP) hP hS ⟨Nat.le_of_ble_eq_true rfl, Nat.le_of_ble_eq_true rfl⟩ rfl hl.1 rfl (Nat.le_of_ble_eq_true rfl) dX6_tell_46 (fun H locs hP hS => ?_)
        obtain ⟨rfl, rfl, rfl⟩ := kinj3 hf
        exact kret_i C0 hr hlk hP hS dX6_tell_49
      · have hf := kif_f c10 hf
        refine lv_lookup (tgt := 56) (off := (37 : Int)) hx hb dX6_tell_19 (by decide) (by show Op.lookupswitch.offset [(1, 31), (2, 25)] (37 : Int) _ = _; rw [lv_osw c5 (by decide), lv_osw c10 (by decide)]; rfl) (by decide) ?_
        refine lv_aload_n hx hb dX6_tell_56 rfl (lv_at hl 0 rfl) ?_
        refine lv_iload_n hx hb dX6_tell_57 rfl (lv_at hl 1 rfl) ?_
        obtain ⟨r16, v17, ar18, e15, hf⟩ := kb3_s hf
        refine kcallV (As := [.int p1]) (rest := []) C0 (cX6_plainTold_c hap e15) q_566 kw_X6_plainTold (xv_HC C0.2 hP) hP hS ⟨Nat.le_of_ble_eq_true rfl, Nat.le_of_ble_eq_true rfl⟩ rfl hl.1 rfl (Nat.le_of_ble_eq_true rfl) dX6_tell_58 (fun H locs hP hS => ?_)
        obtain ⟨rfl, rfl, rfl⟩ := kinj3 hf
        exact kret_i C0 hr hlk hP hS dX6_tell_61
  · have hf := kif_t c3 hf
    refine lv_iconst (v := (-1 : Int32)) hx hb dX6_tell_8 (by decide) ?_
    obtain ⟨rfl, rfl, rfl⟩ := kinj3 hf
    exact kret_i C0 hr hlk hP hS dX6_tell_9
set_option maxHeartbeats 4000000 in
set_option maxRecDepth 100000 in
theorem cX6_probe_c {l : Launch} {D : va_G} {cI cS : ClassId} {a : Nat → Nat} (hap : kAp a 29) {v : kV} {ar : kR} {p1 : Int32} {r : Int32} {v2 : kV} {ar2 : kR} (hf : fX6_probe v ar p1 = some (r, v2, ar2)) : kMet l D cI cS (xW cI cS a) (kA a 29) yX6_probe cX6_probe 2 (some .int) 1 23 [.ref (a 0), .int p1] v ar (some (.int r)) v2 ar2 := by
  refine kstart (by decide) (Nat.le_of_ble_eq_true rfl) ?_
  intro p e s m args below meth c ls C0 hr hlk hl hP hS
  have C0 : kC p s m c args cX6_probe 2 RX6 D cI cS := C0
  have hx := C0.1.1
  have hb := C0.1.2.1
  have hl : lv_has ls 2 [(0, .ref (a 0)), (1, .int p1)] := hl
  unfold fX6_probe at hf
  refine lv_aload_n hx hb dX6_probe_0 rfl (lv_at hl 0 rfl) ?_
  refine lv_iload_n hx hb dX6_probe_1 rfl (lv_at hl 1 rfl) ?_
  obtain ⟨r2, e1, hf⟩ := kb1_s hf
  refine kcallV (As := [.int p1]) (rest := []) C0 (cX6_isCell_c hap e1) q_278 kw_X6_isCell (xv_HC C0.2 hP) hP hS ⟨Nat.le_of_ble_eq_true rfl, Nat.le_of_ble_eq_true rfl⟩ rfl hl.1 rfl (Nat.le_of_ble_eq_true rfl) dX6_probe_2 (fun H locs hP hS => ?_)
  refine lv_if_ne (tgt := 10) hx hb dX6_probe_5 (by decide) (fun c3 => ?_) (fun c3 => ?_)
  · have hf := kif_f c3 hf
    refine lv_aload_n hx hb dX6_probe_10 rfl (lv_at hl 0 rfl) ?_
    refine xg_HC_1 C0 hP q_170 dX6_probe_11 ?_
    refine xg_H_5 C0 k0_2 hP q_46 dX6_probe_14 ?_
    refine lv_iload_n hx hb dX6_probe_17 rfl (lv_at hl 1 rfl) ?_
    obtain ⟨g4, hf⟩ := kgd hf
    refine xl_kind C0 k0_2 hP g4 dX6_probe_18 ?_
    refine lv_iconst (v := (2 : Int32)) hx hb dX6_probe_19 (by decide) ?_
    refine lv_icmp_ne (tgt := 31) hx hb dX6_probe_20 (by decide) (fun c5 => ?_) (fun c5 => ?_)
    · have hf := kif_f c5 hf
      refine lv_aload_n hx hb dX6_probe_31 rfl (lv_at hl 0 rfl) ?_
      refine lv_iconst (v := (4 : Int32)) hx hb dX6_probe_32 (by decide) ?_
      obtain ⟨v8, ar9, e6, hf⟩ := kb2_s hf
      refine kcallV (As := [.int (4 : Int32)]) (rest := []) C0 (cX6_leaveInTrace_c hap e6) q_558 kw_X6_leaveInTrace (xv_HC C0.2 hP) hP hS ⟨Nat.le_of_ble_eq_true rfl, Nat.le_of_ble_eq_true rfl⟩ rfl hl.1 rfl (Nat.le_of_ble_eq_true rfl) dX6_probe_33 (fun H locs hP hS => ?_)
      refine lv_aload_n hx hb dX6_probe_36 rfl (lv_at hl 0 rfl) ?_
      refine xg_HC_1 C0 hP q_170 dX6_probe_37 ?_
      refine lv_iload_n hx hb dX6_probe_40 rfl (lv_at hl 1 rfl) ?_
      obtain ⟨r11, e10, hf⟩ := kb1_s hf
      refine kcallV (As := [.int p1]) (rest := []) C0 (cX0_netsOf_c hap k0_2 e10) q_290 kw_X0_netsOf (xv_H k0_2 C0.2 hP) hP hS ⟨Nat.le_of_ble_eq_true rfl, Nat.le_of_ble_eq_true rfl⟩ rfl hl.1 rfl (Nat.le_of_ble_eq_true rfl) dX6_probe_41 (fun H locs hP hS => ?_)
      obtain ⟨r13, e12, hf⟩ := kb1_s hf
      refine kcallT (As := [.int r11]) (rest := []) C0 (cJ6_bitCount_0f7a4_c hap e12) q_459 kw_J6_bitCount_0f7a4 hP hS ⟨Nat.le_of_ble_eq_true rfl, Nat.le_of_ble_eq_true rfl⟩ rfl hl.1 rfl (Nat.le_of_ble_eq_true rfl) dX6_probe_44 (fun H locs hP hS => ?_)
      obtain ⟨rfl, rfl, rfl⟩ := kinj3 hf
      exact kret_i C0 hr hlk hP hS dX6_probe_47
    · have hf := kif_t c5 hf
      refine lv_aload_n hx hb dX6_probe_23 rfl (lv_at hl 0 rfl) ?_
      refine lv_iconst (v := (5 : Int32)) hx hb dX6_probe_24 (by decide) ?_
      obtain ⟨v16, ar17, e14, hf⟩ := kb2_s hf
      refine kcallV (As := [.int (5 : Int32)]) (rest := []) C0 (cX6_leaveInTrace_c hap e14) q_558 kw_X6_leaveInTrace (xv_HC C0.2 hP) hP hS ⟨Nat.le_of_ble_eq_true rfl, Nat.le_of_ble_eq_true rfl⟩ rfl hl.1 rfl (Nat.le_of_ble_eq_true rfl) dX6_probe_25 (fun H locs hP hS => ?_)
      refine lv_bipush (v := (20 : Int32)) hx hb dX6_probe_28 (by decide) ?_
      obtain ⟨rfl, rfl, rfl⟩ := kinj3 hf
      exact kret_i C0 hr hlk hP hS dX6_probe_30
  · have hf := kif_t c3 hf
    refine lv_iconst (v := (-1 : Int32)) hx hb dX6_probe_8 (by decide) ?_
    obtain ⟨rfl, rfl, rfl⟩ := kinj3 hf
    exact kret_i C0 hr hlk hP hS dX6_probe_9
set_option maxHeartbeats 4000000 in
set_option maxRecDepth 100000 in
theorem cX6_as_c {l : Launch} {D : va_G} {cI cS : ClassId} {a : Nat → Nat} (hap : kAp a 29) {v : kV} {ar : kR} {p1 : Int32} {p2 : Int32} {r : Int32} {v2 : kV} {ar2 : kR} (hf : fX6_as v ar p1 p2 = some (r, v2, ar2)) : kMet l D cI cS (xW cI cS a) (kA a 29) yX6_as cX6_as 3 (some .int) 1 22 [.ref (a 0), .int p1, .int p2] v ar (some (.int r)) v2 ar2 := by
  refine kstart (by decide) (Nat.le_of_ble_eq_true rfl) ?_
  intro p e s m args below meth c ls C0 hr hlk hl hP hS
  have C0 : kC p s m c args cX6_as 3 RX6 D cI cS := C0
  have hx := C0.1.1
  have hb := C0.1.2.1
  have hl : lv_has ls 3 [(0, .ref (a 0)), (1, .int p1), (2, .int p2)] := hl
  unfold fX6_as at hf
  refine lv_aload_n hx hb dX6_as_0 rfl (lv_at hl 0 rfl) ?_
  refine lv_iload_n hx hb dX6_as_1 rfl (lv_at hl 1 rfl) ?_
  obtain ⟨r2, e1, hf⟩ := kb1_s hf
  refine kcallV (As := [.int p1]) (rest := []) C0 (cX6_isCell_c hap e1) q_278 kw_X6_isCell (xv_HC C0.2 hP) hP hS ⟨Nat.le_of_ble_eq_true rfl, Nat.le_of_ble_eq_true rfl⟩ rfl hl.1 rfl (Nat.le_of_ble_eq_true rfl) dX6_as_2 (fun H locs hP hS => ?_)
  refine lv_if_ne (tgt := 14) hx hb dX6_as_5 (by decide) (fun c3 => ?_) (fun c3 => ?_)
  · have hf := kif_f c3 hf
    refine lv_iload_n hx hb dX6_as_14 rfl (lv_at hl 2 rfl) ?_
    obtain ⟨r5, e4, hf⟩ := kb1_s hf
    refine kcallT (As := [.int p2]) (rest := []) C0 (cX6_isKind_c hap e4) q_464 kw_X6_isKind hP hS ⟨Nat.le_of_ble_eq_true rfl, Nat.le_of_ble_eq_true rfl⟩ rfl hl.1 rfl (Nat.le_of_ble_eq_true rfl) dX6_as_15 (fun H locs hP hS => ?_)
    refine lv_if_ne (tgt := 28) hx hb dX6_as_18 (by decide) (fun c6 => ?_) (fun c6 => ?_)
    · have hf := kif_f c6 hf
      refine lv_aload_n hx hb dX6_as_28 rfl (lv_at hl 0 rfl) ?_
      refine lv_iload_n hx hb dX6_as_29 rfl (lv_at hl 1 rfl) ?_
      refine lv_iload_n hx hb dX6_as_30 rfl (lv_at hl 2 rfl) ?_
      obtain ⟨r8, e7, hf⟩ := kb1_s hf
      refine kcallV (As := [.int p1, .int p2]) (rest := []) C0 (cX6_isOfKind_c hap e7) q_482 kw_X6_isOfKind (xv_HC C0.2 hP) hP hS ⟨Nat.le_of_ble_eq_true rfl, Nat.le_of_ble_eq_true rfl⟩ rfl hl.1 rfl (Nat.le_of_ble_eq_true rfl) dX6_as_31 (fun H locs hP hS => ?_)
      refine lv_if_ne (tgt := 43) hx hb dX6_as_34 (by decide) (fun c9 => ?_) (fun c9 => ?_)
      · have hf := kif_f c9 hf
        refine lv_aload_n hx hb dX6_as_43 rfl (lv_at hl 0 rfl) ?_
        refine lv_iconst (v := (0 : Int32)) hx hb dX6_as_44 (by decide) ?_
        refine xp_HC_8 C0 hap hP hS q_177 dX6_as_45 (fun H locs hP hS => ?_)
        refine lv_iconst (v := (1 : Int32)) hx hb dX6_as_48 (by decide) ?_
        obtain ⟨rfl, rfl, rfl⟩ := kinj3 hf
        exact kret_i C0 hr hlk hP hS dX6_as_49
      · have hf := kif_t c9 hf
        refine lv_aload_n hx hb dX6_as_37 rfl (lv_at hl 0 rfl) ?_
        refine lv_iconst (v := (2 : Int32)) hx hb dX6_as_38 (by decide) ?_
        obtain ⟨r11, v12, ar13, e10, hf⟩ := kb3_s hf
        refine kcallV (As := [.int (2 : Int32)]) (rest := []) C0 (cX6_failed_c hap e10) q_219 kw_X6_failed (xv_HC C0.2 hP) hP hS ⟨Nat.le_of_ble_eq_true rfl, Nat.le_of_ble_eq_true rfl⟩ rfl hl.1 rfl (Nat.le_of_ble_eq_true rfl) dX6_as_39 (fun H locs hP hS => ?_)
        obtain ⟨rfl, rfl, rfl⟩ := kinj3 hf
        exact kret_i C0 hr hlk hP hS dX6_as_42
    · have hf := kif_t c6 hf
      refine lv_aload_n hx hb dX6_as_21 rfl (lv_at hl 0 rfl) ?_
      refine lv_bipush (v := (-2 : Int32)) hx hb dX6_as_22 (by decide) ?_
      obtain ⟨r15, v16, ar17, e14, hf⟩ := kb3_s hf
      refine kcallV (As := [.int (-2 : Int32)]) (rest := []) C0 (cX6_refused_c hap e14) q_204 kw_X6_refused (xv_HC C0.2 hP) hP hS ⟨Nat.le_of_ble_eq_true rfl, Nat.le_of_ble_eq_true rfl⟩ rfl hl.1 rfl (Nat.le_of_ble_eq_true rfl) dX6_as_24 (fun H locs hP hS => ?_)
      obtain ⟨rfl, rfl, rfl⟩ := kinj3 hf
      exact kret_i C0 hr hlk hP hS dX6_as_27
  · have hf := kif_t c3 hf
    refine lv_aload_n hx hb dX6_as_8 rfl (lv_at hl 0 rfl) ?_
    refine lv_iconst (v := (-1 : Int32)) hx hb dX6_as_9 (by decide) ?_
    obtain ⟨r19, v20, ar21, e18, hf⟩ := kb3_s hf
    refine kcallV (As := [.int (-1 : Int32)]) (rest := []) C0 (cX6_refused_c hap e18) q_204 kw_X6_refused (xv_HC C0.2 hP) hP hS ⟨Nat.le_of_ble_eq_true rfl, Nat.le_of_ble_eq_true rfl⟩ rfl hl.1 rfl (Nat.le_of_ble_eq_true rfl) dX6_as_10 (fun H locs hP hS => ?_)
    obtain ⟨rfl, rfl, rfl⟩ := kinj3 hf
    exact kret_i C0 hr hlk hP hS dX6_as_13
set_option maxHeartbeats 4000000 in
set_option maxRecDepth 100000 in
theorem cX6_trace_c {l : Launch} {D : va_G} {cI cS : ClassId} {a : Nat → Nat} (hap : kAp a 29) {v : kV} {ar : kR} {r : Int32} (hf : fX6_trace v ar = some r) : kMet l D cI cS (xW cI cS a) (kA a 29) yX6_trace cX6_trace 1 (some .int) 0 0 [.ref (a 0)] v ar (some (.int r)) v ar := by
  refine kstart (by decide) (Nat.le_of_ble_eq_true rfl) ?_
  intro p e s m args below meth c ls C0 hr hlk hl hP hS
  have C0 : kC p s m c args cX6_trace 1 RX6 D cI cS := C0
  have hx := C0.1.1
  have hb := C0.1.2.1
  have hl : lv_has ls 1 [(0, .ref (a 0))] := hl
  unfold fX6_trace at hf
  refine lv_aload_n hx hb dX6_trace_0 rfl (lv_at hl 0 rfl) ?_
  refine xg_HC_7 C0 hP q_176 dX6_trace_1 ?_
  obtain rfl := Option.some.inj hf
  exact kret_i C0 hr hlk hP hS dX6_trace_4
set_option maxHeartbeats 4000000 in
set_option maxRecDepth 100000 in
theorem cX6_fault_c {l : Launch} {D : va_G} {cI cS : ClassId} {a : Nat → Nat} (hap : kAp a 29) {v : kV} {ar : kR} {r : Int32} (hf : fX6_fault v ar = some r) : kMet l D cI cS (xW cI cS a) (kA a 29) yX6_fault cX6_fault 1 (some .int) 0 0 [.ref (a 0)] v ar (some (.int r)) v ar := by
  refine kstart (by decide) (Nat.le_of_ble_eq_true rfl) ?_
  intro p e s m args below meth c ls C0 hr hlk hl hP hS
  have C0 : kC p s m c args cX6_fault 1 RX6 D cI cS := C0
  have hx := C0.1.1
  have hb := C0.1.2.1
  have hl : lv_has ls 1 [(0, .ref (a 0))] := hl
  unfold fX6_fault at hf
  refine lv_aload_n hx hb dX6_fault_0 rfl (lv_at hl 0 rfl) ?_
  refine xg_HC_8 C0 hP q_177 dX6_fault_1 ?_
  obtain rfl := Option.some.inj hf
  exact kret_i C0 hr hlk hP hS dX6_fault_4
set_option maxHeartbeats 4000000 in
set_option maxRecDepth 100000 in
theorem cX6_many_c {l : Launch} {D : va_G} {cI cS : ClassId} {a : Nat → Nat} (hap : kAp a 29) {v : kV} {ar : kR} {p1 : Int32} {r : Int32} (hf : fX6_many v ar p1 = some r) : kMet l D cI cS (xW cI cS a) (kA a 29) yX6_many cX6_many 2 (some .int) 3 65 [.ref (a 0), .int p1] v ar (some (.int r)) v ar := by
  refine kstart (by decide) (Nat.le_of_ble_eq_true rfl) ?_
  intro p e s m args below meth c ls C0 hr hlk hl hP hS
  have C0 : kC p s m c args cX6_many 2 RX6 D cI cS := C0
  have hx := C0.1.1
  have hb := C0.1.2.1
  have hl : lv_has ls 2 [(0, .ref (a 0)), (1, .int p1)] := hl
  unfold fX6_many at hf
  refine lv_iload_n hx hb dX6_many_0 rfl (lv_at hl 1 rfl) ?_
  by_cases c1 : p1 = (0 : Int32)
  · have hf := kif_t c1 hf
    refine lv_tableIn (tgt := 36) (off := (35 : Int)) hx hb dX6_many_1 (by rw [c1]; decide) (by rw [c1]; decide) (by rw [c1]; decide) (by decide) ?_
    refine lv_aload_n hx hb dX6_many_36 rfl (lv_at hl 0 rfl) ?_
    refine xg_HC_1 C0 hP q_170 dX6_many_37 ?_
    refine xg_H_0 C0 k0_2 hP q_31 dX6_many_40 ?_
    obtain rfl := Option.some.inj hf
    exact kret_i C0 hr hlk hP hS dX6_many_43
  · have hf := kif_f c1 hf
    by_cases c2 : p1 = (1 : Int32)
    · have hf := kif_t c2 hf
      refine lv_tableIn (tgt := 44) (off := (43 : Int)) hx hb dX6_many_1 (by rw [c2]; decide) (by rw [c2]; decide) (by rw [c2]; decide) (by decide) ?_
      refine lv_aload_n hx hb dX6_many_44 rfl (lv_at hl 0 rfl) ?_
      refine xg_HC_1 C0 hP q_170 dX6_many_45 ?_
      refine xg_H_1 C0 k0_2 hP q_34 dX6_many_48 ?_
      obtain rfl := Option.some.inj hf
      exact kret_i C0 hr hlk hP hS dX6_many_51
    · have hf := kif_f c2 hf
      by_cases c3 : p1 = (2 : Int32)
      · have hf := kif_t c3 hf
        refine lv_tableIn (tgt := 52) (off := (51 : Int)) hx hb dX6_many_1 (by rw [c3]; decide) (by rw [c3]; decide) (by rw [c3]; decide) (by decide) ?_
        refine lv_aload_n hx hb dX6_many_52 rfl (lv_at hl 0 rfl) ?_
        refine xg_HC_1 C0 hP q_170 dX6_many_53 ?_
        obtain ⟨r5, e4, hf⟩ := kb1_s hf
        refine kcallV (As := []) (rest := []) C0 (cX0_cuts_c hap k0_2 e4) q_366 kw_X0_cuts (xv_H k0_2 C0.2 hP) hP hS ⟨Nat.le_of_ble_eq_true rfl, Nat.le_of_ble_eq_true rfl⟩ rfl hl.1 rfl (Nat.le_of_ble_eq_true rfl) dX6_many_56 (fun H locs hP hS => ?_)
        obtain rfl := Option.some.inj hf
        exact kret_i C0 hr hlk hP hS dX6_many_59
      · have hf := kif_f c3 hf
        by_cases c6 : p1 = (3 : Int32)
        · have hf := kif_t c6 hf
          refine lv_tableIn (tgt := 60) (off := (59 : Int)) hx hb dX6_many_1 (by rw [c6]; decide) (by rw [c6]; decide) (by rw [c6]; decide) (by decide) ?_
          refine lv_aload_n hx hb dX6_many_60 rfl (lv_at hl 0 rfl) ?_
          refine xg_HC_5 C0 hP q_174 dX6_many_61 ?_
          refine xg_R_0 C0 hP q_117 dX6_many_64 ?_
          refine lv_if_eq (tgt := 80) hx hb dX6_many_67 (by decide) (fun c7 => ?_) (fun c7 => ?_)
          · have hf := kif_t c7 hf
            refine lv_iconst (v := (0 : Int32)) hx hb dX6_many_80 (by decide) ?_
            obtain rfl := Option.some.inj hf
            exact kret_i C0 hr hlk hP hS dX6_many_81
          · have hf := kif_f c7 hf
            refine lv_aload_n hx hb dX6_many_70 rfl (lv_at hl 0 rfl) ?_
            refine xg_HC_5 C0 hP q_174 dX6_many_71 ?_
            refine xg_R_2 C0 hP q_121 dX6_many_74 ?_
            refine lv_goto (tgt := 81) hx hb dX6_many_77 (by decide) ?_
            obtain rfl := Option.some.inj hf
            exact kret_i C0 hr hlk hP hS dX6_many_81
        · have hf := kif_f c6 hf
          by_cases c8 : p1 = (4 : Int32)
          · have hf := kif_t c8 hf
            refine lv_tableIn (tgt := 82) (off := (81 : Int)) hx hb dX6_many_1 (by rw [c8]; decide) (by rw [c8]; decide) (by rw [c8]; decide) (by decide) ?_
            refine lv_aload_n hx hb dX6_many_82 rfl (lv_at hl 0 rfl) ?_
            refine xg_HC_6 C0 hP q_175 dX6_many_83 ?_
            refine xg_RD_0 C0 hP q_140 dX6_many_86 ?_
            obtain rfl := Option.some.inj hf
            exact kret_i C0 hr hlk hP hS dX6_many_89
          · have hf := kif_f c8 hf
            refine lv_tableOut (tgt := 90) hx hb dX6_many_1 (kswO 5 (by decide) (fun k hk => match k, hk with | 0, _ => lv_neT c1 (by decide) | 1, _ => lv_neT c2 (by decide) | 2, _ => lv_neT c3 (by decide) | 3, _ => lv_neT c6 (by decide) | 4, _ => lv_neT c8 (by decide) | n + 5, hk => absurd hk (by omega))) (by decide) ?_
            refine lv_bipush (v := (-2 : Int32)) hx hb dX6_many_90 (by decide) ?_
            obtain rfl := Option.some.inj hf
            exact kret_i C0 hr hlk hP hS dX6_many_92
