set_option maxHeartbeats 4000000 in
set_option maxRecDepth 100000 in
theorem cX6_ofCell_c {l : Launch} {D : va_G} {cI cS : ClassId} {a : Nat → Nat} (hap : kAp a 29) {v : kV} {ar : kR} {p1 : Int32} {p2 : Int32} {r : Int32} (hf : fX6_ofCell v ar p1 p2 = some r) : kMet l D cI cS (xW cI cS a) (kA a 29) yX6_ofCell cX6_ofCell 3 (some .int) 3 66 [.ref (a 0), .int p1, .int p2] v ar (some (.int r)) v ar := by
  refine kstart (by decide) (Nat.le_of_ble_eq_true rfl) ?_
  intro p e s m args below meth c ls C0 hr hlk hl hP hS
  have C0 : kC p s m c args cX6_ofCell 3 RX6 D cI cS := C0
  have hx := C0.1.1
  have hb := C0.1.2.1
  have hl : lv_has ls 3 [(0, .ref (a 0)), (1, .int p1), (2, .int p2)] := hl
  unfold fX6_ofCell at hf
  refine lv_aload_n hx hb dX6_ofCell_0 rfl (lv_at hl 0 rfl) ?_
  refine lv_iload_n hx hb dX6_ofCell_1 rfl (lv_at hl 1 rfl) ?_
  obtain ⟨r2, e1, hf⟩ := kb1_s hf
  refine kcallV (As := [.int p1]) (rest := []) C0 (cX6_isCell_c hap e1) q_278 kw_X6_isCell (xv_HC C0.2 hP) hP hS ⟨Nat.le_of_ble_eq_true rfl, Nat.le_of_ble_eq_true rfl⟩ rfl hl.1 rfl (Nat.le_of_ble_eq_true rfl) dX6_ofCell_2 (fun H locs hP hS => ?_)
  refine lv_if_ne (tgt := 10) hx hb dX6_ofCell_5 (by decide) (fun c3 => ?_) (fun c3 => ?_)
  · have hf := kif_f c3 hf
    refine lv_iload_n hx hb dX6_ofCell_10 rfl (lv_at hl 2 rfl) ?_
    by_cases c4 : p2 = (0 : Int32)
    · have hf := kif_t c4 hf
      refine lv_tableIn (tgt := 56) (off := (45 : Int)) hx hb dX6_ofCell_11 (by rw [c4]; decide) (by rw [c4]; decide) (by rw [c4]; decide) (by decide) ?_
      refine lv_aload_n hx hb dX6_ofCell_56 rfl (lv_at hl 0 rfl) ?_
      refine xg_HC_1 C0 hP q_170 dX6_ofCell_57 ?_
      refine xg_H_5 C0 k0_2 hP q_46 dX6_ofCell_60 ?_
      refine lv_iload_n hx hb dX6_ofCell_63 rfl (lv_at hl 1 rfl) ?_
      obtain ⟨g5, hf⟩ := kgd hf
      refine xl_kind C0 k0_2 hP g5 dX6_ofCell_64 ?_
      obtain rfl := Option.some.inj hf
      exact kret_i C0 hr hlk hP hS dX6_ofCell_65
    · have hf := kif_f c4 hf
      by_cases c6 : p2 = (1 : Int32)
      · have hf := kif_t c6 hf
        refine lv_tableIn (tgt := 66) (off := (55 : Int)) hx hb dX6_ofCell_11 (by rw [c6]; decide) (by rw [c6]; decide) (by rw [c6]; decide) (by decide) ?_
        refine lv_aload_n hx hb dX6_ofCell_66 rfl (lv_at hl 0 rfl) ?_
        refine xg_HC_1 C0 hP q_170 dX6_ofCell_67 ?_
        refine xg_H_6 C0 k0_2 hP q_48 dX6_ofCell_70 ?_
        refine lv_iload_n hx hb dX6_ofCell_73 rfl (lv_at hl 1 rfl) ?_
        obtain ⟨g7, hf⟩ := kgd hf
        refine xl_bulk C0 k0_2 hP g7 dX6_ofCell_74 ?_
        obtain rfl := Option.some.inj hf
        exact kret_i C0 hr hlk hP hS dX6_ofCell_75
      · have hf := kif_f c6 hf
        by_cases c8 : p2 = (2 : Int32)
        · have hf := kif_t c8 hf
          refine lv_tableIn (tgt := 76) (off := (65 : Int)) hx hb dX6_ofCell_11 (by rw [c8]; decide) (by rw [c8]; decide) (by rw [c8]; decide) (by decide) ?_
          refine lv_aload_n hx hb dX6_ofCell_76 rfl (lv_at hl 0 rfl) ?_
          refine xg_HC_1 C0 hP q_170 dX6_ofCell_77 ?_
          refine xg_H_7 C0 k0_2 hP q_50 dX6_ofCell_80 ?_
          refine lv_iload_n hx hb dX6_ofCell_83 rfl (lv_at hl 1 rfl) ?_
          obtain ⟨g9, hf⟩ := kgd hf
          refine xl_weight C0 k0_2 hP g9 dX6_ofCell_84 ?_
          obtain rfl := Option.some.inj hf
          exact kret_i C0 hr hlk hP hS dX6_ofCell_85
        · have hf := kif_f c8 hf
          by_cases c10 : p2 = (3 : Int32)
          · have hf := kif_t c10 hf
            refine lv_tableIn (tgt := 86) (off := (75 : Int)) hx hb dX6_ofCell_11 (by rw [c10]; decide) (by rw [c10]; decide) (by rw [c10]; decide) (by decide) ?_
            refine lv_aload_n hx hb dX6_ofCell_86 rfl (lv_at hl 0 rfl) ?_
            refine xg_HC_1 C0 hP q_170 dX6_ofCell_87 ?_
            refine lv_iload_n hx hb dX6_ofCell_90 rfl (lv_at hl 1 rfl) ?_
            obtain ⟨r12, e11, hf⟩ := kb1_s hf
            refine kcallV (As := [.int p1]) (rest := []) C0 (cX0_sideOf_c hap k0_2 e11) q_282 kw_X0_sideOf (xv_H k0_2 C0.2 hP) hP hS ⟨Nat.le_of_ble_eq_true rfl, Nat.le_of_ble_eq_true rfl⟩ rfl hl.1 rfl (Nat.le_of_ble_eq_true rfl) dX6_ofCell_91 (fun H locs hP hS => ?_)
            obtain rfl := Option.some.inj hf
            exact kret_i C0 hr hlk hP hS dX6_ofCell_94
          · have hf := kif_f c10 hf
            by_cases c13 : p2 = (4 : Int32)
            · have hf := kif_t c13 hf
              refine lv_tableIn (tgt := 95) (off := (84 : Int)) hx hb dX6_ofCell_11 (by rw [c13]; decide) (by rw [c13]; decide) (by rw [c13]; decide) (by decide) ?_
              refine lv_aload_n hx hb dX6_ofCell_95 rfl (lv_at hl 0 rfl) ?_
              refine xg_HC_1 C0 hP q_170 dX6_ofCell_96 ?_
              refine lv_iload_n hx hb dX6_ofCell_99 rfl (lv_at hl 1 rfl) ?_
              obtain ⟨r15, e14, hf⟩ := kb1_s hf
              refine kcallV (As := [.int p1]) (rest := []) C0 (cX0_isFixed_c hap k0_2 e14) q_286 kw_X0_isFixed (xv_H k0_2 C0.2 hP) hP hS ⟨Nat.le_of_ble_eq_true rfl, Nat.le_of_ble_eq_true rfl⟩ rfl hl.1 rfl (Nat.le_of_ble_eq_true rfl) dX6_ofCell_100 (fun H locs hP hS => ?_)
              refine lv_if_eq (tgt := 110) hx hb dX6_ofCell_103 (by decide) (fun c16 => ?_) (fun c16 => ?_)
              · have hf := kif_t c16 hf
                refine lv_iconst (v := (0 : Int32)) hx hb dX6_ofCell_110 (by decide) ?_
                obtain rfl := Option.some.inj hf
                exact kret_i C0 hr hlk hP hS dX6_ofCell_111
              · have hf := kif_f c16 hf
                refine lv_iconst (v := (1 : Int32)) hx hb dX6_ofCell_106 (by decide) ?_
                refine lv_goto (tgt := 111) hx hb dX6_ofCell_107 (by decide) ?_
                obtain rfl := Option.some.inj hf
                exact kret_i C0 hr hlk hP hS dX6_ofCell_111
            · have hf := kif_f c13 hf
              by_cases c17 : p2 = (5 : Int32)
              · have hf := kif_t c17 hf
                refine lv_tableIn (tgt := 112) (off := (101 : Int)) hx hb dX6_ofCell_11 (by rw [c17]; decide) (by rw [c17]; decide) (by rw [c17]; decide) (by decide) ?_
                refine lv_aload_n hx hb dX6_ofCell_112 rfl (lv_at hl 0 rfl) ?_
                refine xg_HC_1 C0 hP q_170 dX6_ofCell_113 ?_
                refine lv_iload_n hx hb dX6_ofCell_116 rfl (lv_at hl 1 rfl) ?_
                obtain ⟨r19, e18, hf⟩ := kb1_s hf
                refine kcallV (As := [.int p1]) (rest := []) C0 (cX0_netsOf_c hap k0_2 e18) q_290 kw_X0_netsOf (xv_H k0_2 C0.2 hP) hP hS ⟨Nat.le_of_ble_eq_true rfl, Nat.le_of_ble_eq_true rfl⟩ rfl hl.1 rfl (Nat.le_of_ble_eq_true rfl) dX6_ofCell_117 (fun H locs hP hS => ?_)
                obtain rfl := Option.some.inj hf
                exact kret_i C0 hr hlk hP hS dX6_ofCell_120
              · have hf := kif_f c17 hf
                by_cases c20 : p2 = (6 : Int32)
                · have hf := kif_t c20 hf
                  refine lv_tableIn (tgt := 121) (off := (110 : Int)) hx hb dX6_ofCell_11 (by rw [c20]; decide) (by rw [c20]; decide) (by rw [c20]; decide) (by decide) ?_
                  refine lv_aload_n hx hb dX6_ofCell_121 rfl (lv_at hl 0 rfl) ?_
                  refine xg_HC_1 C0 hP q_170 dX6_ofCell_122 ?_
                  refine lv_iload_n hx hb dX6_ofCell_125 rfl (lv_at hl 1 rfl) ?_
                  obtain ⟨r22, e21, hf⟩ := kb1_s hf
                  refine kcallV (As := [.int p1]) (rest := []) C0 (cX0_gain_c hap k0_2 e21) q_294 kw_X0_gain (xv_H k0_2 C0.2 hP) hP hS ⟨Nat.le_of_ble_eq_true rfl, Nat.le_of_ble_eq_true rfl⟩ rfl hl.1 rfl (Nat.le_of_ble_eq_true rfl) dX6_ofCell_126 (fun H locs hP hS => ?_)
                  refine lv_bipush (v := (10 : Int32)) hx hb dX6_ofCell_129 (by decide) ?_
                  refine lv_iadd hx hb dX6_ofCell_131 ?_
                  obtain rfl := Option.some.inj hf
                  exact kret_i C0 hr hlk hP hS dX6_ofCell_132
                · have hf := kif_f c20 hf
                  by_cases c23 : p2 = (7 : Int32)
                  · have hf := kif_t c23 hf
                    refine lv_tableIn (tgt := 133) (off := (122 : Int)) hx hb dX6_ofCell_11 (by rw [c23]; decide) (by rw [c23]; decide) (by rw [c23]; decide) (by decide) ?_
                    refine lv_aload_n hx hb dX6_ofCell_133 rfl (lv_at hl 0 rfl) ?_
                    refine xg_HC_1 C0 hP q_170 dX6_ofCell_134 ?_
                    refine lv_iconst (v := (1 : Int32)) hx hb dX6_ofCell_137 (by decide) ?_
                    refine lv_iload_n hx hb dX6_ofCell_138 rfl (lv_at hl 1 rfl) ?_
                    refine lv_ishl hx hb dX6_ofCell_139 ?_
                    obtain ⟨r25, e24, hf⟩ := kb1_s hf
                    refine kcallV (As := [.int ((1 : Int32) <<< (p1 &&& 31))]) (rest := []) C0 (cX0_shareOf_c hap k0_2 e24) q_305 kw_X0_shareOf (xv_H k0_2 C0.2 hP) hP hS ⟨Nat.le_of_ble_eq_true rfl, Nat.le_of_ble_eq_true rfl⟩ rfl hl.1 rfl (Nat.le_of_ble_eq_true rfl) dX6_ofCell_140 (fun H locs hP hS => ?_)
                    obtain rfl := Option.some.inj hf
                    exact kret_i C0 hr hlk hP hS dX6_ofCell_143
                  · have hf := kif_f c23 hf
                    refine lv_tableOut (tgt := 144) hx hb dX6_ofCell_11 (kswO 8 (by decide) (fun k hk => match k, hk with | 0, _ => lv_neT c4 (by decide) | 1, _ => lv_neT c6 (by decide) | 2, _ => lv_neT c8 (by decide) | 3, _ => lv_neT c10 (by decide) | 4, _ => lv_neT c13 (by decide) | 5, _ => lv_neT c17 (by decide) | 6, _ => lv_neT c20 (by decide) | 7, _ => lv_neT c23 (by decide) | n + 8, hk => absurd hk (by omega))) (by decide) ?_
                    refine lv_bipush (v := (-2 : Int32)) hx hb dX6_ofCell_144 (by decide) ?_
                    obtain rfl := Option.some.inj hf
                    exact kret_i C0 hr hlk hP hS dX6_ofCell_146
  · have hf := kif_t c3 hf
    refine lv_iconst (v := (-1 : Int32)) hx hb dX6_ofCell_8 (by decide) ?_
    obtain rfl := Option.some.inj hf
    exact kret_i C0 hr hlk hP hS dX6_ofCell_9
set_option maxHeartbeats 4000000 in
set_option maxRecDepth 100000 in
theorem cX6_ofNet_c {l : Launch} {D : va_G} {cI cS : ClassId} {a : Nat → Nat} (hap : kAp a 29) {v : kV} {ar : kR} {p1 : Int32} {p2 : Int32} {r : Int32} (hf : fX6_ofNet v ar p1 p2 = some r) : kMet l D cI cS (xW cI cS a) (kA a 29) yX6_ofNet cX6_ofNet 3 (some .int) 1 22 [.ref (a 0), .int p1, .int p2] v ar (some (.int r)) v ar := by
  refine kstart (by decide) (Nat.le_of_ble_eq_true rfl) ?_
  intro p e s m args below meth c ls C0 hr hlk hl hP hS
  have C0 : kC p s m c args cX6_ofNet 3 RX6 D cI cS := C0
  have hx := C0.1.1
  have hb := C0.1.2.1
  have hl : lv_has ls 3 [(0, .ref (a 0)), (1, .int p1), (2, .int p2)] := hl
  unfold fX6_ofNet at hf
  refine lv_iload_n hx hb dX6_ofNet_0 rfl (lv_at hl 1 rfl) ?_
  refine lv_if_lt (tgt := 15) hx hb dX6_ofNet_1 (by decide) (fun c1 => ?_) (fun c1 => ?_)
  · have hf := kif_t c1 hf
    refine lv_iconst (v := (-1 : Int32)) hx hb dX6_ofNet_15 (by decide) ?_
    obtain rfl := Option.some.inj hf
    exact kret_i C0 hr hlk hP hS dX6_ofNet_16
  · have hf := kif_f c1 hf
    refine lv_iload_n hx hb dX6_ofNet_4 rfl (lv_at hl 1 rfl) ?_
    refine lv_aload_n hx hb dX6_ofNet_5 rfl (lv_at hl 0 rfl) ?_
    refine xg_HC_1 C0 hP q_170 dX6_ofNet_6 ?_
    refine xg_H_1 C0 k0_2 hP q_34 dX6_ofNet_9 ?_
    refine lv_icmp_lt (tgt := 17) hx hb dX6_ofNet_12 (by decide) (fun c2 => ?_) (fun c2 => ?_)
    · have hf := kif_t c2 hf
      refine lv_iload_n hx hb dX6_ofNet_17 rfl (lv_at hl 2 rfl) ?_
      by_cases c3 : p2 = (0 : Int32)
      · have hf := kif_t c3 hf
        refine lv_tableIn (tgt := 44) (off := (26 : Int)) hx hb dX6_ofNet_18 (by rw [c3]; decide) (by rw [c3]; decide) (by rw [c3]; decide) (by decide) ?_
        refine lv_aload_n hx hb dX6_ofNet_44 rfl (lv_at hl 0 rfl) ?_
        refine xg_HC_1 C0 hP q_170 dX6_ofNet_45 ?_
        refine xg_H_8 C0 k0_2 hP q_53 dX6_ofNet_48 ?_
        refine lv_iload_n hx hb dX6_ofNet_51 rfl (lv_at hl 1 rfl) ?_
        obtain ⟨g4, hf⟩ := kgd hf
        refine xl_net C0 k0_2 hP g4 dX6_ofNet_52 ?_
        obtain rfl := Option.some.inj hf
        exact kret_i C0 hr hlk hP hS dX6_ofNet_53
      · have hf := kif_f c3 hf
        by_cases c5 : p2 = (1 : Int32)
        · have hf := kif_t c5 hf
          refine lv_tableIn (tgt := 54) (off := (36 : Int)) hx hb dX6_ofNet_18 (by rw [c5]; decide) (by rw [c5]; decide) (by rw [c5]; decide) (by decide) ?_
          refine lv_aload_n hx hb dX6_ofNet_54 rfl (lv_at hl 0 rfl) ?_
          refine xg_HC_1 C0 hP q_170 dX6_ofNet_55 ?_
          refine xg_H_8 C0 k0_2 hP q_53 dX6_ofNet_58 ?_
          refine lv_iload_n hx hb dX6_ofNet_61 rfl (lv_at hl 1 rfl) ?_
          obtain ⟨g6, hf⟩ := kgd hf
          refine xl_net C0 k0_2 hP g6 dX6_ofNet_62 ?_
          refine lv_aload_n hx hb dX6_ofNet_63 rfl (lv_at hl 0 rfl) ?_
          refine xg_HC_1 C0 hP q_170 dX6_ofNet_64 ?_
          refine xg_H_2 C0 k0_2 hP q_38 dX6_ofNet_67 ?_
          refine lv_iand hx hb dX6_ofNet_70 ?_
          obtain rfl := Option.some.inj hf
          exact kret_i C0 hr hlk hP hS dX6_ofNet_71
        · have hf := kif_f c5 hf
          by_cases c7 : p2 = (2 : Int32)
          · have hf := kif_t c7 hf
            refine lv_tableIn (tgt := 72) (off := (54 : Int)) hx hb dX6_ofNet_18 (by rw [c7]; decide) (by rw [c7]; decide) (by rw [c7]; decide) (by decide) ?_
            refine lv_aload_n hx hb dX6_ofNet_72 rfl (lv_at hl 0 rfl) ?_
            refine xg_HC_1 C0 hP q_170 dX6_ofNet_73 ?_
            refine xg_H_8 C0 k0_2 hP q_53 dX6_ofNet_76 ?_
            refine lv_iload_n hx hb dX6_ofNet_79 rfl (lv_at hl 1 rfl) ?_
            obtain ⟨g8, hf⟩ := kgd hf
            refine xl_net C0 k0_2 hP g8 dX6_ofNet_80 ?_
            refine lv_aload_n hx hb dX6_ofNet_81 rfl (lv_at hl 0 rfl) ?_
            refine xg_HC_1 C0 hP q_170 dX6_ofNet_82 ?_
            refine xg_H_2 C0 k0_2 hP q_38 dX6_ofNet_85 ?_
            obtain ⟨r10, e9, hf⟩ := kb1_s hf
            refine kcallT (As := [.int (ar (4*0+3) p1.toNatClampNeg), .int (v (2+5*0+2))]) (rest := []) C0 (cX6_isCutBy_c hap e9) q_325 kw_X6_isCutBy hP hS ⟨Nat.le_of_ble_eq_true rfl, Nat.le_of_ble_eq_true rfl⟩ rfl hl.1 rfl (Nat.le_of_ble_eq_true rfl) dX6_ofNet_88 (fun H locs hP hS => ?_)
            refine lv_if_eq (tgt := 98) hx hb dX6_ofNet_91 (by decide) (fun c11 => ?_) (fun c11 => ?_)
            · have hf := kif_t c11 hf
              refine lv_iconst (v := (0 : Int32)) hx hb dX6_ofNet_98 (by decide) ?_
              obtain rfl := Option.some.inj hf
              exact kret_i C0 hr hlk hP hS dX6_ofNet_99
            · have hf := kif_f c11 hf
              refine lv_iconst (v := (1 : Int32)) hx hb dX6_ofNet_94 (by decide) ?_
              refine lv_goto (tgt := 99) hx hb dX6_ofNet_95 (by decide) ?_
              obtain rfl := Option.some.inj hf
              exact kret_i C0 hr hlk hP hS dX6_ofNet_99
          · have hf := kif_f c7 hf
            refine lv_tableOut (tgt := 100) hx hb dX6_ofNet_18 (kswO 3 (by decide) (fun k hk => match k, hk with | 0, _ => lv_neT c3 (by decide) | 1, _ => lv_neT c5 (by decide) | 2, _ => lv_neT c7 (by decide) | n + 3, hk => absurd hk (by omega))) (by decide) ?_
            refine lv_bipush (v := (-2 : Int32)) hx hb dX6_ofNet_100 (by decide) ?_
            obtain rfl := Option.some.inj hf
            exact kret_i C0 hr hlk hP hS dX6_ofNet_102
    · have hf := kif_f c2 hf
      refine lv_iconst (v := (-1 : Int32)) hx hb dX6_ofNet_15 (by decide) ?_
      obtain rfl := Option.some.inj hf
      exact kret_i C0 hr hlk hP hS dX6_ofNet_16
set_option maxHeartbeats 4000000 in
set_option maxRecDepth 100000 in
theorem cX6_noCircuit_c {l : Launch} {D : va_G} {cI cS : ClassId} {a : Nat → Nat} (hap : kAp a 29) {v : kV} {ar : kR} {r : Bool} (hf : fX6_noCircuit v ar = some r) : kMet l D cI cS (xW cI cS a) (kA a 29) yX6_noCircuit cX6_noCircuit 1 (some .boolean) 0 0 [.ref (a 0)] v ar (some (.int (bI r))) v ar := by
  refine kstart (by decide) (Nat.le_of_ble_eq_true rfl) ?_
  intro p e s m args below meth c ls C0 hr hlk hl hP hS
  have C0 : kC p s m c args cX6_noCircuit 1 RX6 D cI cS := C0
  have hx := C0.1.1
  have hb := C0.1.2.1
  have hl : lv_has ls 1 [(0, .ref (a 0))] := hl
  unfold fX6_noCircuit at hf
  refine lv_aload_n hx hb dX6_noCircuit_0 rfl (lv_at hl 0 rfl) ?_
  refine xg_HC_1 C0 hP q_170 dX6_noCircuit_1 ?_
  refine xg_H_0 C0 k0_2 hP q_31 dX6_noCircuit_4 ?_
  refine lv_if_ne (tgt := 14) hx hb dX6_noCircuit_7 (by decide) (fun c1 => ?_) (fun c1 => ?_)
  · have hf := kif_f c1 hf
    refine lv_iconst (v := (0 : Int32)) hx hb dX6_noCircuit_14 (by decide) ?_
    obtain rfl := Option.some.inj hf
    exact kret_z false rfl C0 hr hlk hP hS dX6_noCircuit_15
  · have hf := kif_t c1 hf
    refine lv_iconst (v := (1 : Int32)) hx hb dX6_noCircuit_10 (by decide) ?_
    refine lv_goto (tgt := 15) hx hb dX6_noCircuit_11 (by decide) ?_
    obtain rfl := Option.some.inj hf
    exact kret_z true rfl C0 hr hlk hP hS dX6_noCircuit_15
set_option maxHeartbeats 4000000 in
set_option maxRecDepth 100000 in
theorem cX0_left_c {l : Launch} {D : va_G} {cI cS : ClassId} {a : Nat → Nat} (hap : kAp a 29) {h : Nat} (hh : h < 2) {v : kV} {ar : kR} {r : Int32} (hf : fX0_left h v ar = some r) : kMet l D cI cS (xW cI cS a) (kA a 29) yX0_left cX0_left 1 (some .int) 1 20 [.ref (a (2+h))] v ar (some (.int r)) v ar := by
  refine kstart (by decide) (Nat.le_of_ble_eq_true rfl) ?_
  intro p e s m args below meth c ls C0 hr hlk hl hP hS
  have C0 : kC p s m c args cX0_left 1 RX0 D cI cS := C0
  have hx := C0.1.1
  have hb := C0.1.2.1
  have hl : lv_has ls 1 [(0, .ref (a (2+h)))] := hl
  unfold fX0_left at hf
  refine lv_aload_n hx hb dX0_left_0 rfl (lv_at hl 0 rfl) ?_
  obtain ⟨r2, e1, hf⟩ := kb1_s hf
  refine kcallV (As := []) (rest := []) C0 (cX0_all_c hap hh e1) q_313 kw_X0_all (xv_H hh C0.2 hP) hP hS ⟨Nat.le_of_ble_eq_true rfl, Nat.le_of_ble_eq_true rfl⟩ rfl hl.1 rfl (Nat.le_of_ble_eq_true rfl) dX0_left_1 (fun H locs hP hS => ?_)
  refine lv_aload_n hx hb dX0_left_4 rfl (lv_at hl 0 rfl) ?_
  refine xg_H_2 C0 hh hP q_36 dX0_left_5 ?_
  refine lv_iconst (v := (-1 : Int32)) hx hb dX0_left_8 (by decide) ?_
  refine lv_ixor hx hb dX0_left_9 ?_
  refine lv_iand hx hb dX0_left_10 ?_
  obtain rfl := Option.some.inj hf
  exact kret_i C0 hr hlk hP hS dX0_left_11
set_option maxHeartbeats 4000000 in
set_option maxRecDepth 100000 in
theorem cX0_isWithin_c {l : Launch} {D : va_G} {cI cS : ClassId} {a : Nat → Nat} (hap : kAp a 29) {h : Nat} (hh : h < 2) {v : kV} {ar : kR} {p1 : Int32} {r : Bool} (hf : fX0_isWithin h v ar p1 = some r) : kMet l D cI cS (xW cI cS a) (kA a 29) yX0_isWithin cX0_isWithin 2 (some .boolean) 2 49 [.ref (a (2+h)), .int p1] v ar (some (.int (bI r))) v ar := by
  refine kstart (by decide) (Nat.le_of_ble_eq_true rfl) ?_
  intro p e s m args below meth c ls C0 hr hlk hl hP hS
  have C0 : kC p s m c args cX0_isWithin 2 RX0 D cI cS := C0
  have hx := C0.1.1
  have hb := C0.1.2.1
  have hl : lv_has ls 2 [(0, .ref (a (2+h))), (1, .int p1)] := hl
  unfold fX0_isWithin at hf
  refine lv_aload_n hx hb dX0_isWithin_0 rfl (lv_at hl 0 rfl) ?_
  refine lv_iload_n hx hb dX0_isWithin_1 rfl (lv_at hl 1 rfl) ?_
  obtain ⟨r2, e1, hf⟩ := kb1_s hf
  refine kcallV (As := [.int p1]) (rest := []) C0 (cX0_shareOf_c hap hh e1) q_343 kw_X0_shareOf (xv_H hh C0.2 hP) hP hS ⟨Nat.le_of_ble_eq_true rfl, Nat.le_of_ble_eq_true rfl⟩ rfl hl.1 rfl (Nat.le_of_ble_eq_true rfl) dX0_isWithin_2 (fun H locs hP hS => ?_)
  refine lv_aload_n hx hb dX0_isWithin_5 rfl (lv_at hl 0 rfl) ?_
  refine xg_H_4 C0 hh hP q_43 dX0_isWithin_6 ?_
  refine lv_icmp_gt (tgt := 16) hx hb dX0_isWithin_9 (by decide) (fun c3 => ?_) (fun c3 => ?_)
  · have hf := kif_t c3 hf
    refine lv_iconst (v := (0 : Int32)) hx hb dX0_isWithin_16 (by decide) ?_
    obtain rfl := Option.some.inj hf
    exact kret_z false rfl C0 hr hlk hP hS dX0_isWithin_17
  · have hf := kif_f c3 hf
    refine lv_iconst (v := (1 : Int32)) hx hb dX0_isWithin_12 (by decide) ?_
    refine lv_goto (tgt := 17) hx hb dX0_isWithin_13 (by decide) ?_
    obtain rfl := Option.some.inj hf
    exact kret_z true rfl C0 hr hlk hP hS dX0_isWithin_17
set_option maxHeartbeats 4000000 in
set_option maxRecDepth 100000 in
theorem cX6_ofSide_c {l : Launch} {D : va_G} {cI cS : ClassId} {a : Nat → Nat} (hap : kAp a 29) {v : kV} {ar : kR} {p1 : Int32} {p2 : Int32} {r : Int32} (hf : fX6_ofSide v ar p1 p2 = some r) : kMet l D cI cS (xW cI cS a) (kA a 29) yX6_ofSide cX6_ofSide 4 (some .int) 3 70 [.ref (a 0), .int p1, .int p2] v ar (some (.int r)) v ar := by
  refine kstart (by decide) (Nat.le_of_ble_eq_true rfl) ?_
  intro p e s m args below meth c ls C0 hr hlk hl hP hS
  have C0 : kC p s m c args cX6_ofSide 4 RX6 D cI cS := C0
  have hx := C0.1.1
  have hb := C0.1.2.1
  have hl : lv_has ls 4 [(0, .ref (a 0)), (1, .int p1), (2, .int p2)] := hl
  have hB43 : ∀ (s0 : Int32) (H : Heap) (locs : List Loc) (ls : Array Slot), fX6_ofSide_43 v ar p1 p2 s0 = some r → va_P D vwCl (xW cI cS a v ar) H → va_S (kA a 29) s.heap H locs → lv_has ls 4 [(0, .ref (a 0)), (2, .int p2)] → kGo p l e 3 70 s m args below meth c D (xW cI cS a) (kA a 29) (some (.int r)) v ar H locs (F0 m 43 ls [.int s0]) := by
    intro  s0 H locs ls hf hP hS hl
    unfold fX6_ofSide_43 at hf
    refine lv_istore_n (lv' := [(3, .int s0), (0, .ref (a 0)), (2, .int p2)]) hx hb dX6_ofSide_43 rfl hl (by decide) rfl (fun ls hl => ?_)
    refine lv_iload_n hx hb dX6_ofSide_44 rfl (lv_at hl 2 rfl) ?_
    by_cases c7 : p2 = (0 : Int32)
    · have hf := kif_t c7 hf
      refine lv_tableIn (tgt := 76) (off := (31 : Int)) hx hb dX6_ofSide_45 (by rw [c7]; decide) (by rw [c7]; decide) (by rw [c7]; decide) (by decide) ?_
      refine lv_iload_n hx hb dX6_ofSide_76 rfl (lv_at hl 0 rfl) ?_
      obtain rfl := Option.some.inj hf
      exact kret_i C0 hr hlk hP hS dX6_ofSide_77
    · have hf := kif_f c7 hf
      by_cases c8 : p2 = (1 : Int32)
      · have hf := kif_t c8 hf
        refine lv_tableIn (tgt := 78) (off := (33 : Int)) hx hb dX6_ofSide_45 (by rw [c8]; decide) (by rw [c8]; decide) (by rw [c8]; decide) (by decide) ?_
        refine lv_aload_n hx hb dX6_ofSide_78 rfl (lv_at hl 1 rfl) ?_
        refine xg_HC_1 C0 hP q_170 dX6_ofSide_79 ?_
        refine lv_iload_n hx hb dX6_ofSide_82 rfl (lv_at hl 0 rfl) ?_
        obtain ⟨r10, e9, hf⟩ := kb1_s hf
        refine kcallV (As := [.int s0]) (rest := []) C0 (cX0_weightOf_c hap k0_2 e9) q_338 kw_X0_weightOf (xv_H k0_2 C0.2 hP) hP hS ⟨Nat.le_of_ble_eq_true rfl, Nat.le_of_ble_eq_true rfl⟩ rfl hl.1 rfl (Nat.le_of_ble_eq_true rfl) dX6_ofSide_83 (fun H locs hP hS => ?_)
        obtain rfl := Option.some.inj hf
        exact kret_i C0 hr hlk hP hS dX6_ofSide_86
      · have hf := kif_f c8 hf
        by_cases c11 : p2 = (2 : Int32)
        · have hf := kif_t c11 hf
          refine lv_tableIn (tgt := 87) (off := (42 : Int)) hx hb dX6_ofSide_45 (by rw [c11]; decide) (by rw [c11]; decide) (by rw [c11]; decide) (by decide) ?_
          refine lv_aload_n hx hb dX6_ofSide_87 rfl (lv_at hl 1 rfl) ?_
          refine xg_HC_1 C0 hP q_170 dX6_ofSide_88 ?_
          refine lv_iload_n hx hb dX6_ofSide_91 rfl (lv_at hl 0 rfl) ?_
          obtain ⟨r13, e12, hf⟩ := kb1_s hf
          refine kcallV (As := [.int s0]) (rest := []) C0 (cX0_shareOf_c hap k0_2 e12) q_305 kw_X0_shareOf (xv_H k0_2 C0.2 hP) hP hS ⟨Nat.le_of_ble_eq_true rfl, Nat.le_of_ble_eq_true rfl⟩ rfl hl.1 rfl (Nat.le_of_ble_eq_true rfl) dX6_ofSide_92 (fun H locs hP hS => ?_)
          obtain rfl := Option.some.inj hf
          exact kret_i C0 hr hlk hP hS dX6_ofSide_95
        · have hf := kif_f c11 hf
          by_cases c14 : p2 = (3 : Int32)
          · have hf := kif_t c14 hf
            refine lv_tableIn (tgt := 96) (off := (51 : Int)) hx hb dX6_ofSide_45 (by rw [c14]; decide) (by rw [c14]; decide) (by rw [c14]; decide) (by decide) ?_
            refine lv_aload_n hx hb dX6_ofSide_96 rfl (lv_at hl 1 rfl) ?_
            refine xg_HC_1 C0 hP q_170 dX6_ofSide_97 ?_
            refine lv_iload_n hx hb dX6_ofSide_100 rfl (lv_at hl 0 rfl) ?_
            obtain ⟨r16, e15, hf⟩ := kb1_s hf
            refine kcallV (As := [.int s0]) (rest := []) C0 (cX0_isWithin_c hap k0_2 e15) q_339 kw_X0_isWithin (xv_H k0_2 C0.2 hP) hP hS ⟨Nat.le_of_ble_eq_true rfl, Nat.le_of_ble_eq_true rfl⟩ rfl hl.1 rfl (Nat.le_of_ble_eq_true rfl) dX6_ofSide_101 (fun H locs hP hS => ?_)
            refine lv_if_eq (tgt := 111) hx hb dX6_ofSide_104 (by decide) (fun c17 => ?_) (fun c17 => ?_)
            · have hf := kif_t c17 hf
              refine lv_iconst (v := (0 : Int32)) hx hb dX6_ofSide_111 (by decide) ?_
              obtain rfl := Option.some.inj hf
              exact kret_i C0 hr hlk hP hS dX6_ofSide_112
            · have hf := kif_f c17 hf
              refine lv_iconst (v := (1 : Int32)) hx hb dX6_ofSide_107 (by decide) ?_
              refine lv_goto (tgt := 112) hx hb dX6_ofSide_108 (by decide) ?_
              obtain rfl := Option.some.inj hf
              exact kret_i C0 hr hlk hP hS dX6_ofSide_112
          · have hf := kif_f c14 hf
            refine lv_tableOut (tgt := 113) hx hb dX6_ofSide_45 (kswO 4 (by decide) (fun k hk => match k, hk with | 0, _ => lv_neT c7 (by decide) | 1, _ => lv_neT c8 (by decide) | 2, _ => lv_neT c11 (by decide) | 3, _ => lv_neT c14 (by decide) | n + 4, hk => absurd hk (by omega))) (by decide) ?_
            refine lv_bipush (v := (-2 : Int32)) hx hb dX6_ofSide_113 (by decide) ?_
            obtain rfl := Option.some.inj hf
            exact kret_i C0 hr hlk hP hS dX6_ofSide_115
  unfold fX6_ofSide at hf
  refine lv_aload_n hx hb dX6_ofSide_0 rfl (lv_at hl 0 rfl) ?_
  obtain ⟨r2, e1, hf⟩ := kb1_s hf
  refine kcallV (As := []) (rest := []) C0 (cX6_noCircuit_c hap e1) q_330 kw_X6_noCircuit (xv_HC C0.2 hP) hP hS ⟨Nat.le_of_ble_eq_true rfl, Nat.le_of_ble_eq_true rfl⟩ rfl hl.1 rfl (Nat.le_of_ble_eq_true rfl) dX6_ofSide_1 (fun H locs hP hS => ?_)
  refine lv_if_eq (tgt := 10) hx hb dX6_ofSide_4 (by decide) (fun c3 => ?_) (fun c3 => ?_)
  · have hf := kif_t c3 hf
    refine lv_iload_n hx hb dX6_ofSide_10 rfl (lv_at hl 1 rfl) ?_
    refine lv_if_lt (tgt := 19) hx hb dX6_ofSide_11 (by decide) (fun c4 => ?_) (fun c4 => ?_)
    · have hf := kif_t c4 hf
      refine lv_bipush (v := (-2 : Int32)) hx hb dX6_ofSide_19 (by decide) ?_
      obtain rfl := Option.some.inj hf
      exact kret_i C0 hr hlk hP hS dX6_ofSide_21
    · have hf := kif_f c4 hf
      refine lv_iload_n hx hb dX6_ofSide_14 rfl (lv_at hl 1 rfl) ?_
      refine lv_iconst (v := (1 : Int32)) hx hb dX6_ofSide_15 (by decide) ?_
      refine lv_icmp_le (tgt := 22) hx hb dX6_ofSide_16 (by decide) (fun c5 => ?_) (fun c5 => ?_)
      · have hf := kif_t c5 hf
        refine lv_iload_n hx hb dX6_ofSide_22 rfl (lv_at hl 1 rfl) ?_
        refine lv_if_ne (tgt := 36) hx hb dX6_ofSide_23 (by decide) (fun c6 => ?_) (fun c6 => ?_)
        · have hf := kif_f c6 hf
          refine lv_aload_n hx hb dX6_ofSide_36 rfl (lv_at hl 0 rfl) ?_
          refine xg_HC_1 C0 hP q_170 dX6_ofSide_37 ?_
          refine xg_H_2 C0 k0_2 hP q_38 dX6_ofSide_40 ?_
          exact hB43 _ _ _ _ hf hP hS (lv_sub hl [0, 2] rfl)
        · have hf := kif_t c6 hf
          refine lv_aload_n hx hb dX6_ofSide_26 rfl (lv_at hl 0 rfl) ?_
          refine xg_HC_1 C0 hP q_170 dX6_ofSide_27 ?_
          obtain ⟨r19, e18, hf⟩ := kb1_s hf
          refine kcallV (As := []) (rest := []) C0 (cX0_left_c hap k0_2 e18) q_334 kw_X0_left (xv_H k0_2 C0.2 hP) hP hS ⟨Nat.le_of_ble_eq_true rfl, Nat.le_of_ble_eq_true rfl⟩ rfl hl.1 rfl (Nat.le_of_ble_eq_true rfl) dX6_ofSide_30 (fun H locs hP hS => ?_)
          refine lv_goto (tgt := 43) hx hb dX6_ofSide_33 (by decide) ?_
          exact hB43 _ _ _ _ hf hP hS (lv_sub hl [0, 2] rfl)
      · have hf := kif_f c5 hf
        refine lv_bipush (v := (-2 : Int32)) hx hb dX6_ofSide_19 (by decide) ?_
        obtain rfl := Option.some.inj hf
        exact kret_i C0 hr hlk hP hS dX6_ofSide_21
  · have hf := kif_f c3 hf
    refine lv_bipush (v := (-3 : Int32)) hx hb dX6_ofSide_7 (by decide) ?_
    obtain rfl := Option.some.inj hf
    exact kret_i C0 hr hlk hP hS dX6_ofSide_9
set_option maxHeartbeats 4000000 in
set_option maxRecDepth 100000 in
theorem cX6_isBulk_c {l : Launch} {D : va_G} {cI cS : ClassId} {a : Nat → Nat} (hap : kAp a 29) {v : kV} {ar : kR} {p0 : Int32} {r : Bool} (hf : fX6_isBulk p0 = some r) : kMet l D cI cS (xW cI cS a) (kA a 29) yX6_isBulk cX6_isBulk 1 (some .boolean) 0 0 [.int p0] v ar (some (.int (bI r))) v ar := by
  refine kstart (by decide) (Nat.le_of_ble_eq_true rfl) ?_
  intro p e s m args below meth c ls C0 hr hlk hl hP hS
  have C0 : kC p s m c args cX6_isBulk 1 RX6 D cI cS := C0
  have hx := C0.1.1
  have hb := C0.1.2.1
  have hl : lv_has ls 1 [(0, .int p0)] := hl
  unfold fX6_isBulk at hf
  refine lv_iload_n hx hb dX6_isBulk_0 rfl (lv_at hl 0 rfl) ?_
  refine lv_iconst (v := (1 : Int32)) hx hb dX6_isBulk_1 (by decide) ?_
  refine lv_icmp_lt (tgt := 15) hx hb dX6_isBulk_2 (by decide) (fun c1 => ?_) (fun c1 => ?_)
  · have hf := kif_t c1 hf
    refine lv_iconst (v := (0 : Int32)) hx hb dX6_isBulk_15 (by decide) ?_
    obtain rfl := Option.some.inj hf
    exact kret_z false rfl C0 hr hlk hP hS dX6_isBulk_16
  · have hf := kif_f c1 hf
    refine lv_iload_n hx hb dX6_isBulk_5 rfl (lv_at hl 0 rfl) ?_
    refine lv_bipush (v := (9 : Int32)) hx hb dX6_isBulk_6 (by decide) ?_
    refine lv_icmp_gt (tgt := 15) hx hb dX6_isBulk_8 (by decide) (fun c2 => ?_) (fun c2 => ?_)
    · have hf := kif_t c2 hf
      refine lv_iconst (v := (0 : Int32)) hx hb dX6_isBulk_15 (by decide) ?_
      obtain rfl := Option.some.inj hf
      exact kret_z false rfl C0 hr hlk hP hS dX6_isBulk_16
    · have hf := kif_f c2 hf
      refine lv_iconst (v := (1 : Int32)) hx hb dX6_isBulk_11 (by decide) ?_
      refine lv_goto (tgt := 16) hx hb dX6_isBulk_12 (by decide) ?_
      obtain rfl := Option.some.inj hf
      exact kret_z true rfl C0 hr hlk hP hS dX6_isBulk_16
set_option maxHeartbeats 4000000 in
set_option maxRecDepth 100000 in
theorem cX6_bulk_c {l : Launch} {D : va_G} {cI cS : ClassId} {a : Nat → Nat} (hap : kAp a 29) {v : kV} {ar : kR} {p1 : Int32} {p2 : Int32} {r : Int32} {v2 : kV} {ar2 : kR} (hf : fX6_bulk v ar p1 p2 = some (r, v2, ar2)) : kMet l D cI cS (xW cI cS a) (kA a 29) yX6_bulk cX6_bulk 4 (some .int) 1 23 [.ref (a 0), .int p1, .int p2] v ar (some (.int r)) v2 ar2 := by
  refine kstart (by decide) (Nat.le_of_ble_eq_true rfl) ?_
  intro p e s m args below meth c ls C0 hr hlk hl hP hS
  have C0 : kC p s m c args cX6_bulk 4 RX6 D cI cS := C0
  have hx := C0.1.1
  have hb := C0.1.2.1
  have hl : lv_has ls 4 [(0, .ref (a 0)), (1, .int p1), (2, .int p2)] := hl
  unfold fX6_bulk at hf
  refine lv_aload_n hx hb dX6_bulk_0 rfl (lv_at hl 0 rfl) ?_
  refine lv_iload_n hx hb dX6_bulk_1 rfl (lv_at hl 1 rfl) ?_
  obtain ⟨r2, e1, hf⟩ := kb1_s hf
  refine kcallV (As := [.int p1]) (rest := []) C0 (cX6_isCell_c hap e1) q_278 kw_X6_isCell (xv_HC C0.2 hP) hP hS ⟨Nat.le_of_ble_eq_true rfl, Nat.le_of_ble_eq_true rfl⟩ rfl hl.1 rfl (Nat.le_of_ble_eq_true rfl) dX6_bulk_2 (fun H locs hP hS => ?_)
  refine lv_if_ne (tgt := 10) hx hb dX6_bulk_5 (by decide) (fun c3 => ?_) (fun c3 => ?_)
  · have hf := kif_f c3 hf
    refine lv_iload_n hx hb dX6_bulk_10 rfl (lv_at hl 2 rfl) ?_
    obtain ⟨r5, e4, hf⟩ := kb1_s hf
    refine kcallT (As := [.int p2]) (rest := []) C0 (cX6_isBulk_c hap e4) q_348 kw_X6_isBulk hP hS ⟨Nat.le_of_ble_eq_true rfl, Nat.le_of_ble_eq_true rfl⟩ rfl hl.1 rfl (Nat.le_of_ble_eq_true rfl) dX6_bulk_11 (fun H locs hP hS => ?_)
    refine lv_if_ne (tgt := 20) hx hb dX6_bulk_14 (by decide) (fun c6 => ?_) (fun c6 => ?_)
    · have hf := kif_f c6 hf
      refine lv_aload_n hx hb dX6_bulk_20 rfl (lv_at hl 0 rfl) ?_
      refine xg_HC_1 C0 hP q_170 dX6_bulk_21 ?_
      refine xg_H_6 C0 k0_2 hP q_48 dX6_bulk_24 ?_
      refine lv_iload_n hx hb dX6_bulk_27 rfl (lv_at hl 1 rfl) ?_
      obtain ⟨g7, hf⟩ := kgd hf
      refine xl_bulk C0 k0_2 hP g7 dX6_bulk_28 ?_
      refine lv_istore_n (lv' := [(3, .int (ar (4*0+1) p1.toNatClampNeg)), (0, .ref (a 0)), (1, .int p1), (2, .int p2)]) hx hb dX6_bulk_29 rfl hl (by decide) rfl (fun ls hl => ?_)
      refine lv_aload_n hx hb dX6_bulk_30 rfl (lv_at hl 1 rfl) ?_
      refine xg_HC_1 C0 hP q_170 dX6_bulk_31 ?_
      refine lv_iload_n hx hb dX6_bulk_34 rfl (lv_at hl 2 rfl) ?_
      refine lv_aload_n hx hb dX6_bulk_35 rfl (lv_at hl 1 rfl) ?_
      refine xg_HC_1 C0 hP q_170 dX6_bulk_36 ?_
      refine xg_H_5 C0 k0_2 hP q_46 dX6_bulk_39 ?_
      refine lv_iload_n hx hb dX6_bulk_42 rfl (lv_at hl 2 rfl) ?_
      obtain ⟨g8, hf⟩ := kgd hf
      refine xl_kind C0 k0_2 hP g8 dX6_bulk_43 ?_
      refine lv_iload_n hx hb dX6_bulk_44 rfl (lv_at hl 3 rfl) ?_
      obtain ⟨v11, ar12, e9, hf⟩ := kb2_s hf
      refine kcallV (As := [.int p1, .int (ar (4*0+0) p1.toNatClampNeg), .int p2]) (rest := []) C0 (cX0_set_c hap k0_2 e9) q_351 kw_X0_set (xv_H k0_2 C0.2 hP) hP hS ⟨Nat.le_of_ble_eq_true rfl, Nat.le_of_ble_eq_true rfl⟩ rfl hl.1 rfl (Nat.le_of_ble_eq_true rfl) dX6_bulk_45 (fun H locs hP hS => ?_)
      refine lv_iload_n hx hb dX6_bulk_48 rfl (lv_at hl 0 rfl) ?_
      obtain ⟨rfl, rfl, rfl⟩ := kinj3 hf
      exact kret_i C0 hr hlk hP hS dX6_bulk_49
    · have hf := kif_t c6 hf
      refine lv_bipush (v := (-2 : Int32)) hx hb dX6_bulk_17 (by decide) ?_
      obtain ⟨rfl, rfl, rfl⟩ := kinj3 hf
      exact kret_i C0 hr hlk hP hS dX6_bulk_19
  · have hf := kif_t c3 hf
    refine lv_iconst (v := (-1 : Int32)) hx hb dX6_bulk_8 (by decide) ?_
    obtain ⟨rfl, rfl, rfl⟩ := kinj3 hf
    exact kret_i C0 hr hlk hP hS dX6_bulk_9
set_option maxHeartbeats 4000000 in
set_option maxRecDepth 100000 in
theorem cX6_bound_c {l : Launch} {D : va_G} {cI cS : ClassId} {a : Nat → Nat} (hap : kAp a 29) {v : kV} {ar : kR} {p1 : Int32} {r : Int32} {v2 : kV} {ar2 : kR} (hf : fX6_bound v ar p1 = some (r, v2, ar2)) : kMet l D cI cS (xW cI cS a) (kA a 29) yX6_bound cX6_bound 3 (some .int) 1 20 [.ref (a 0), .int p1] v ar (some (.int r)) v2 ar2 := by
  refine kstart (by decide) (Nat.le_of_ble_eq_true rfl) ?_
  intro p e s m args below meth c ls C0 hr hlk hl hP hS
  have C0 : kC p s m c args cX6_bound 3 RX6 D cI cS := C0
  have hx := C0.1.1
  have hb := C0.1.2.1
  have hl : lv_has ls 3 [(0, .ref (a 0)), (1, .int p1)] := hl
  unfold fX6_bound at hf
  refine lv_aload_n hx hb dX6_bound_0 rfl (lv_at hl 0 rfl) ?_
  obtain ⟨r2, e1, hf⟩ := kb1_s hf
  refine kcallV (As := []) (rest := []) C0 (cX6_noCircuit_c hap e1) q_330 kw_X6_noCircuit (xv_HC C0.2 hP) hP hS ⟨Nat.le_of_ble_eq_true rfl, Nat.le_of_ble_eq_true rfl⟩ rfl hl.1 rfl (Nat.le_of_ble_eq_true rfl) dX6_bound_1 (fun H locs hP hS => ?_)
  refine lv_if_eq (tgt := 10) hx hb dX6_bound_4 (by decide) (fun c3 => ?_) (fun c3 => ?_)
  · have hf := kif_t c3 hf
    refine lv_iload_n hx hb dX6_bound_10 rfl (lv_at hl 1 rfl) ?_
    refine lv_ldc (v := (1056964608 : Int32)) hx hb C0.1.2.2.2.1 (C0.1.2.2.2.2 _ q_356) dX6_bound_11 ?_
    refine lv_icmp_lt (tgt := 22) hx hb dX6_bound_13 (by decide) (fun c4 => ?_) (fun c4 => ?_)
    · have hf := kif_t c4 hf
      refine lv_bipush (v := (-2 : Int32)) hx hb dX6_bound_22 (by decide) ?_
      obtain ⟨rfl, rfl, rfl⟩ := kinj3 hf
      exact kret_i C0 hr hlk hP hS dX6_bound_24
    · have hf := kif_f c4 hf
      refine lv_iload_n hx hb dX6_bound_16 rfl (lv_at hl 1 rfl) ?_
      refine lv_ldc (v := (1065353216 : Int32)) hx hb C0.1.2.2.2.1 (C0.1.2.2.2.2 _ q_357) dX6_bound_17 ?_
      refine lv_icmp_le (tgt := 25) hx hb dX6_bound_19 (by decide) (fun c5 => ?_) (fun c5 => ?_)
      · have hf := kif_t c5 hf
        refine lv_aload_n hx hb dX6_bound_25 rfl (lv_at hl 0 rfl) ?_
        refine xg_HC_1 C0 hP q_170 dX6_bound_26 ?_
        refine xg_H_4 C0 k0_2 hP q_44 dX6_bound_29 ?_
        refine lv_istore_n (lv' := [(2, .int (v (2+5*0+4))), (0, .ref (a 0)), (1, .int p1)]) hx hb dX6_bound_32 rfl hl (by decide) rfl (fun ls hl => ?_)
        refine lv_aload_n hx hb dX6_bound_33 rfl (lv_at hl 1 rfl) ?_
        refine xg_HC_1 C0 hP q_170 dX6_bound_34 ?_
        refine lv_iload_n hx hb dX6_bound_37 rfl (lv_at hl 2 rfl) ?_
        refine xp_H_4 C0 hap k0_2 hP hS q_44 dX6_bound_38 (fun H locs hP hS => ?_)
        refine lv_iload_n hx hb dX6_bound_41 rfl (lv_at hl 0 rfl) ?_
        obtain ⟨rfl, rfl, rfl⟩ := kinj3 hf
        exact kret_i C0 hr hlk hP hS dX6_bound_42
      · have hf := kif_f c5 hf
        refine lv_bipush (v := (-2 : Int32)) hx hb dX6_bound_22 (by decide) ?_
        obtain ⟨rfl, rfl, rfl⟩ := kinj3 hf
        exact kret_i C0 hr hlk hP hS dX6_bound_24
  · have hf := kif_f c3 hf
    refine lv_bipush (v := (-3 : Int32)) hx hb dX6_bound_7 (by decide) ?_
    obtain ⟨rfl, rfl, rfl⟩ := kinj3 hf
    exact kret_i C0 hr hlk hP hS dX6_bound_9
set_option maxHeartbeats 4000000 in
set_option maxRecDepth 100000 in
theorem cX0_flip_c {l : Launch} {D : va_G} {cI cS : ClassId} {a : Nat → Nat} (hap : kAp a 29) {h : Nat} (hh : h < 2) {v : kV} {ar : kR} {p1 : Int32} {v2 : kV} {ar2 : kR} (hf : fX0_flip h v ar p1 = some (v2, ar2)) : kMet l D cI cS (xW cI cS a) (kA a 29) yX0_flip cX0_flip 2 none 0 0 [.ref (a (2+h)), .int p1] v ar none v2 ar2 := by
  refine kstart (by decide) (Nat.le_of_ble_eq_true rfl) ?_
  intro p e s m args below meth c ls C0 hr hlk hl hP hS
  have C0 : kC p s m c args cX0_flip 2 RX0 D cI cS := C0
  have hx := C0.1.1
  have hb := C0.1.2.1
  have hl : lv_has ls 2 [(0, .ref (a (2+h))), (1, .int p1)] := hl
  unfold fX0_flip at hf
  refine lv_aload_n hx hb dX0_flip_0 rfl (lv_at hl 0 rfl) ?_
  refine lv_dup hx hb dX0_flip_1 rfl ?_
  refine xg_H_2 C0 hh hP q_36 dX0_flip_2 ?_
  refine lv_iconst (v := (1 : Int32)) hx hb dX0_flip_5 (by decide) ?_
  refine lv_iload_n hx hb dX0_flip_6 rfl (lv_at hl 1 rfl) ?_
  refine lv_ishl hx hb dX0_flip_7 ?_
  refine lv_ixor hx hb dX0_flip_8 ?_
  refine xp_H_2 C0 hap hh hP hS q_36 dX0_flip_9 (fun H locs hP hS => ?_)
  obtain ⟨rfl, rfl⟩ := kinj2 hf
  exact kret_v C0 hr hlk hP hS dX0_flip_12
set_option maxHeartbeats 4000000 in
set_option maxRecDepth 100000 in
theorem cX0_cuts_c {l : Launch} {D : va_G} {cI cS : ClassId} {a : Nat → Nat} (hap : kAp a 29) {h : Nat} (hh : h < 2) {v : kV} {ar : kR} {r : Int32} (hf : fX0_cuts h v ar = some r) : kMet l D cI cS (xW cI cS a) (kA a 29) yX0_cuts cX0_cuts 1 (some .int) 2 45 [.ref (a (2+h))] v ar (some (.int r)) v ar := by
  refine kstart (by decide) (Nat.le_of_ble_eq_true rfl) ?_
  intro p e s m args below meth c ls C0 hr hlk hl hP hS
  have C0 : kC p s m c args cX0_cuts 1 RX0 D cI cS := C0
  have hx := C0.1.1
  have hb := C0.1.2.1
  have hl : lv_has ls 1 [(0, .ref (a (2+h)))] := hl
  unfold fX0_cuts at hf
  refine lv_aload_n hx hb dX0_cuts_0 rfl (lv_at hl 0 rfl) ?_
  refine lv_aload_n hx hb dX0_cuts_1 rfl (lv_at hl 0 rfl) ?_
  refine xg_H_2 C0 hh hP q_36 dX0_cuts_2 ?_
  obtain ⟨r2, e1, hf⟩ := kb1_s hf
  refine kcallV (As := [.int (v (2+5*h+2))]) (rest := []) C0 (cX0_cutsBy_c hap hh e1) q_298 kw_X0_cutsBy (xv_H hh C0.2 hP) hP hS ⟨Nat.le_of_ble_eq_true rfl, Nat.le_of_ble_eq_true rfl⟩ rfl hl.1 rfl (Nat.le_of_ble_eq_true rfl) dX0_cuts_5 (fun H locs hP hS => ?_)
  obtain rfl := Option.some.inj hf
  exact kret_i C0 hr hlk hP hS dX0_cuts_8
set_option maxHeartbeats 4000000 in
set_option maxRecDepth 100000 in
theorem cX6_move_c {l : Launch} {D : va_G} {cI cS : ClassId} {a : Nat → Nat} (hap : kAp a 29) {v : kV} {ar : kR} {p1 : Int32} {r : Int32} {v2 : kV} {ar2 : kR} (hf : fX6_move v ar p1 = some (r, v2, ar2)) : kMet l D cI cS (xW cI cS a) (kA a 29) yX6_move cX6_move 2 (some .int) 3 65 [.ref (a 0), .int p1] v ar (some (.int r)) v2 ar2 := by
  refine kstart (by decide) (Nat.le_of_ble_eq_true rfl) ?_
  intro p e s m args below meth c ls C0 hr hlk hl hP hS
  have C0 : kC p s m c args cX6_move 2 RX6 D cI cS := C0
  have hx := C0.1.1
  have hb := C0.1.2.1
  have hl : lv_has ls 2 [(0, .ref (a 0)), (1, .int p1)] := hl
  unfold fX6_move at hf
  refine lv_aload_n hx hb dX6_move_0 rfl (lv_at hl 0 rfl) ?_
  refine lv_iload_n hx hb dX6_move_1 rfl (lv_at hl 1 rfl) ?_
  obtain ⟨r2, e1, hf⟩ := kb1_s hf
  refine kcallV (As := [.int p1]) (rest := []) C0 (cX6_isCell_c hap e1) q_278 kw_X6_isCell (xv_HC C0.2 hP) hP hS ⟨Nat.le_of_ble_eq_true rfl, Nat.le_of_ble_eq_true rfl⟩ rfl hl.1 rfl (Nat.le_of_ble_eq_true rfl) dX6_move_2 (fun H locs hP hS => ?_)
  refine lv_if_ne (tgt := 10) hx hb dX6_move_5 (by decide) (fun c3 => ?_) (fun c3 => ?_)
  · have hf := kif_f c3 hf
    refine lv_aload_n hx hb dX6_move_10 rfl (lv_at hl 0 rfl) ?_
    refine xg_HC_1 C0 hP q_170 dX6_move_11 ?_
    refine lv_iload_n hx hb dX6_move_14 rfl (lv_at hl 1 rfl) ?_
    obtain ⟨r5, e4, hf⟩ := kb1_s hf
    refine kcallV (As := [.int p1]) (rest := []) C0 (cX0_isFixed_c hap k0_2 e4) q_286 kw_X0_isFixed (xv_H k0_2 C0.2 hP) hP hS ⟨Nat.le_of_ble_eq_true rfl, Nat.le_of_ble_eq_true rfl⟩ rfl hl.1 rfl (Nat.le_of_ble_eq_true rfl) dX6_move_15 (fun H locs hP hS => ?_)
    refine lv_if_eq (tgt := 24) hx hb dX6_move_18 (by decide) (fun c6 => ?_) (fun c6 => ?_)
    · have hf := kif_t c6 hf
      refine lv_aload_n hx hb dX6_move_24 rfl (lv_at hl 0 rfl) ?_
      refine xg_HC_1 C0 hP q_170 dX6_move_25 ?_
      refine lv_iload_n hx hb dX6_move_28 rfl (lv_at hl 1 rfl) ?_
      obtain ⟨v9, ar10, e7, hf⟩ := kb2_s hf
      refine kcallV (As := [.int p1]) (rest := []) C0 (cX0_flip_c hap k0_2 e7) q_362 kw_X0_flip (xv_H k0_2 C0.2 hP) hP hS ⟨Nat.le_of_ble_eq_true rfl, Nat.le_of_ble_eq_true rfl⟩ rfl hl.1 rfl (Nat.le_of_ble_eq_true rfl) dX6_move_29 (fun H locs hP hS => ?_)
      refine lv_aload_n hx hb dX6_move_32 rfl (lv_at hl 0 rfl) ?_
      refine xg_HC_1 C0 hP q_170 dX6_move_33 ?_
      obtain ⟨r12, e11, hf⟩ := kb1_s hf
      refine kcallV (As := []) (rest := []) C0 (cX0_cuts_c hap k0_2 e11) q_366 kw_X0_cuts (xv_H k0_2 C0.2 hP) hP hS ⟨Nat.le_of_ble_eq_true rfl, Nat.le_of_ble_eq_true rfl⟩ rfl hl.1 rfl (Nat.le_of_ble_eq_true rfl) dX6_move_36 (fun H locs hP hS => ?_)
      obtain ⟨rfl, rfl, rfl⟩ := kinj3 hf
      exact kret_i C0 hr hlk hP hS dX6_move_39
    · have hf := kif_f c6 hf
      refine lv_bipush (v := (-3 : Int32)) hx hb dX6_move_21 (by decide) ?_
      obtain ⟨rfl, rfl, rfl⟩ := kinj3 hf
      exact kret_i C0 hr hlk hP hS dX6_move_23
  · have hf := kif_t c3 hf
    refine lv_iconst (v := (-1 : Int32)) hx hb dX6_move_8 (by decide) ?_
    obtain ⟨rfl, rfl, rfl⟩ := kinj3 hf
    exact kret_i C0 hr hlk hP hS dX6_move_9
set_option maxHeartbeats 4000000 in
set_option maxRecDepth 100000 in
theorem cX6_isManner_c {l : Launch} {D : va_G} {cI cS : ClassId} {a : Nat → Nat} (hap : kAp a 29) {v : kV} {ar : kR} {p0 : Int32} {r : Bool} (hf : fX6_isManner p0 = some r) : kMet l D cI cS (xW cI cS a) (kA a 29) yX6_isManner cX6_isManner 1 (some .boolean) 0 0 [.int p0] v ar (some (.int (bI r))) v ar := by
  refine kstart (by decide) (Nat.le_of_ble_eq_true rfl) ?_
  intro p e s m args below meth c ls C0 hr hlk hl hP hS
  have C0 : kC p s m c args cX6_isManner 1 RX6 D cI cS := C0
  have hx := C0.1.1
  have hb := C0.1.2.1
  have hl : lv_has ls 1 [(0, .int p0)] := hl
  unfold fX6_isManner at hf
  refine lv_iload_n hx hb dX6_isManner_0 rfl (lv_at hl 0 rfl) ?_
  refine lv_if_lt (tgt := 13) hx hb dX6_isManner_1 (by decide) (fun c1 => ?_) (fun c1 => ?_)
  · have hf := kif_t c1 hf
    refine lv_iconst (v := (0 : Int32)) hx hb dX6_isManner_13 (by decide) ?_
    obtain rfl := Option.some.inj hf
    exact kret_z false rfl C0 hr hlk hP hS dX6_isManner_14
  · have hf := kif_f c1 hf
    refine lv_iload_n hx hb dX6_isManner_4 rfl (lv_at hl 0 rfl) ?_
    refine lv_iconst (v := (2 : Int32)) hx hb dX6_isManner_5 (by decide) ?_
    refine lv_icmp_gt (tgt := 13) hx hb dX6_isManner_6 (by decide) (fun c2 => ?_) (fun c2 => ?_)
    · have hf := kif_t c2 hf
      refine lv_iconst (v := (0 : Int32)) hx hb dX6_isManner_13 (by decide) ?_
      obtain rfl := Option.some.inj hf
      exact kret_z false rfl C0 hr hlk hP hS dX6_isManner_14
    · have hf := kif_f c2 hf
      refine lv_iconst (v := (1 : Int32)) hx hb dX6_isManner_9 (by decide) ?_
      refine lv_goto (tgt := 14) hx hb dX6_isManner_10 (by decide) ?_
      obtain rfl := Option.some.inj hf
      exact kret_z true rfl C0 hr hlk hP hS dX6_isManner_14
set_option maxHeartbeats 4000000 in
set_option maxRecDepth 100000 in
theorem cX0_isWithinAfterMove_c {l : Launch} {D : va_G} {cI cS : ClassId} {a : Nat → Nat} (hap : kAp a 29) {h : Nat} (hh : h < 2) {v : kV} {ar : kR} {p1 : Int32} {r : Bool} (hf : fX0_isWithinAfterMove h v ar p1 = some r) : kMet l D cI cS (xW cI cS a) (kA a 29) yX0_isWithinAfterMove cX0_isWithinAfterMove 3 (some .boolean) 2 49 [.ref (a (2+h)), .int p1] v ar (some (.int (bI r))) v ar := by
  refine kstart (by decide) (Nat.le_of_ble_eq_true rfl) ?_
  intro p e s m args below meth c ls C0 hr hlk hl hP hS
  have C0 : kC p s m c args cX0_isWithinAfterMove 3 RX0 D cI cS := C0
  have hx := C0.1.1
  have hb := C0.1.2.1
  have hl : lv_has ls 3 [(0, .ref (a (2+h))), (1, .int p1)] := hl
  have hB19 : ∀ (s0 : Int32) (H : Heap) (locs : List Loc) (ls : Array Slot), fX0_isWithinAfterMove_19 h v ar p1 s0 = some r → va_P D vwCl (xW cI cS a v ar) H → va_S (kA a 29) s.heap H locs → lv_has ls 3 [(0, .ref (a (2+h))), (1, .int p1)] → kGo p l e 2 49 s m args below meth c D (xW cI cS a) (kA a 29) (some (.int (bI r))) v ar H locs (F0 m 19 ls [.int s0]) := by
    intro  s0 H locs ls hf hP hS hl
    unfold fX0_isWithinAfterMove_19 at hf
    refine lv_istore_n (lv' := [(2, .int s0), (0, .ref (a (2+h))), (1, .int p1)]) hx hb dX0_isWithinAfterMove_19 rfl hl (by decide) rfl (fun ls hl => ?_)
    refine lv_aload_n hx hb dX0_isWithinAfterMove_20 rfl (lv_at hl 1 rfl) ?_
    refine lv_iload_n hx hb dX0_isWithinAfterMove_21 rfl (lv_at hl 0 rfl) ?_
    refine lv_iconst (v := (1 : Int32)) hx hb dX0_isWithinAfterMove_22 (by decide) ?_
    refine lv_iload_n hx hb dX0_isWithinAfterMove_23 rfl (lv_at hl 2 rfl) ?_
    refine lv_ishl hx hb dX0_isWithinAfterMove_24 ?_
    refine lv_ior hx hb dX0_isWithinAfterMove_25 ?_
    obtain ⟨r7, e6, hf⟩ := kb1_s hf
    refine kcallV (As := [.int (s0 ||| ((1 : Int32) <<< (p1 &&& 31)))]) (rest := []) C0 (cX0_shareOf_c hap hh e6) q_343 kw_X0_shareOf (xv_H hh C0.2 hP) hP hS ⟨Nat.le_of_ble_eq_true rfl, Nat.le_of_ble_eq_true rfl⟩ rfl hl.1 rfl (Nat.le_of_ble_eq_true rfl) dX0_isWithinAfterMove_26 (fun H locs hP hS => ?_)
    refine lv_aload_n hx hb dX0_isWithinAfterMove_29 rfl (lv_at hl 1 rfl) ?_
    refine xg_H_4 C0 hh hP q_43 dX0_isWithinAfterMove_30 ?_
    refine lv_icmp_gt (tgt := 40) hx hb dX0_isWithinAfterMove_33 (by decide) (fun c8 => ?_) (fun c8 => ?_)
    · have hf := kif_t c8 hf
      refine lv_iconst (v := (0 : Int32)) hx hb dX0_isWithinAfterMove_40 (by decide) ?_
      obtain rfl := Option.some.inj hf
      exact kret_z false rfl C0 hr hlk hP hS dX0_isWithinAfterMove_41
    · have hf := kif_f c8 hf
      refine lv_iconst (v := (1 : Int32)) hx hb dX0_isWithinAfterMove_36 (by decide) ?_
      refine lv_goto (tgt := 41) hx hb dX0_isWithinAfterMove_37 (by decide) ?_
      obtain rfl := Option.some.inj hf
      exact kret_z true rfl C0 hr hlk hP hS dX0_isWithinAfterMove_41
  unfold fX0_isWithinAfterMove at hf
  refine lv_aload_n hx hb dX0_isWithinAfterMove_0 rfl (lv_at hl 0 rfl) ?_
  refine lv_iload_n hx hb dX0_isWithinAfterMove_1 rfl (lv_at hl 1 rfl) ?_
  obtain ⟨r2, e1, hf⟩ := kb1_s hf
  refine kcallV (As := [.int p1]) (rest := []) C0 (cX0_sideOf_c hap hh e1) q_389 kw_X0_sideOf (xv_H hh C0.2 hP) hP hS ⟨Nat.le_of_ble_eq_true rfl, Nat.le_of_ble_eq_true rfl⟩ rfl hl.1 rfl (Nat.le_of_ble_eq_true rfl) dX0_isWithinAfterMove_2 (fun H locs hP hS => ?_)
  refine lv_if_ne (tgt := 15) hx hb dX0_isWithinAfterMove_5 (by decide) (fun c3 => ?_) (fun c3 => ?_)
  · have hf := kif_f c3 hf
    refine lv_aload_n hx hb dX0_isWithinAfterMove_15 rfl (lv_at hl 0 rfl) ?_
    obtain ⟨r5, e4, hf⟩ := kb1_s hf
    refine kcallV (As := []) (rest := []) C0 (cX0_left_c hap hh e4) q_390 kw_X0_left (xv_H hh C0.2 hP) hP hS ⟨Nat.le_of_ble_eq_true rfl, Nat.le_of_ble_eq_true rfl⟩ rfl hl.1 rfl (Nat.le_of_ble_eq_true rfl) dX0_isWithinAfterMove_16 (fun H locs hP hS => ?_)
    exact hB19 _ _ _ _ hf hP hS (lv_sub hl [0, 1] rfl)
  · have hf := kif_t c3 hf
    refine lv_aload_n hx hb dX0_isWithinAfterMove_8 rfl (lv_at hl 0 rfl) ?_
    refine xg_H_2 C0 hh hP q_36 dX0_isWithinAfterMove_9 ?_
    refine lv_goto (tgt := 19) hx hb dX0_isWithinAfterMove_12 (by decide) ?_
    exact hB19 _ _ _ _ hf hP hS (lv_sub hl [0, 1] rfl)
set_option maxHeartbeats 4000000 in
set_option maxRecDepth 100000 in
theorem cX1_isBetter_c {l : Launch} {D : va_G} {cI cS : ClassId} {a : Nat → Nat} (hap : kAp a 29) {v : kV} {ar : kR} {p0 : Int32} {p1 : Int32} {p2 : Int32} {p3 : Int32} {p4 : Int32} {r : Bool} (hf : fX1_isBetter p0 p1 p2 p3 p4 = some r) : kMet l D cI cS (xW cI cS a) (kA a 29) yX1_isBetter cX1_isBetter 5 (some .boolean) 0 0 [.int p0, .int p1, .int p2, .int p3, .int p4] v ar (some (.int (bI r))) v ar := by
  refine kstart (by decide) (Nat.le_of_ble_eq_true rfl) ?_
  intro p e s m args below meth c ls C0 hr hlk hl hP hS
  have C0 : kC p s m c args cX1_isBetter 5 RX1 D cI cS := C0
  have hx := C0.1.1
  have hb := C0.1.2.1
  have hl : lv_has ls 5 [(0, .int p0), (1, .int p1), (2, .int p2), (3, .int p3), (4, .int p4)] := hl
  unfold fX1_isBetter at hf
  refine lv_iload_n hx hb dX1_isBetter_0 rfl (lv_at hl 0 rfl) ?_
  refine lv_iconst (v := (2 : Int32)) hx hb dX1_isBetter_1 (by decide) ?_
  refine lv_icmp_ne (tgt := 21) hx hb dX1_isBetter_2 (by decide) (fun c1 => ?_) (fun c1 => ?_)
  · have hf := kif_f c1 hf
    refine lv_iload_n hx hb dX1_isBetter_21 rfl (lv_at hl 1 rfl) ?_
    refine lv_iload_n hx hb dX1_isBetter_22 rfl (lv_at hl 3 rfl) ?_
    refine lv_icmp_eq (tgt := 37) hx hb dX1_isBetter_23 (by decide) (fun c2 => ?_) (fun c2 => ?_)
    · have hf := kif_t c2 hf
      refine lv_iload_n hx hb dX1_isBetter_37 rfl (lv_at hl 0 rfl) ?_
      refine lv_iconst (v := (1 : Int32)) hx hb dX1_isBetter_38 (by decide) ?_
      refine lv_icmp_ne (tgt := 52) hx hb dX1_isBetter_39 (by decide) (fun c3 => ?_) (fun c3 => ?_)
      · have hf := kif_f c3 hf
        refine lv_iconst (v := (0 : Int32)) hx hb dX1_isBetter_52 (by decide) ?_
        obtain rfl := Option.some.inj hf
        exact kret_z false rfl C0 hr hlk hP hS dX1_isBetter_53
      · have hf := kif_t c3 hf
        refine lv_iload_n hx hb dX1_isBetter_42 rfl (lv_at hl 2 rfl) ?_
        refine lv_iload hx hb dX1_isBetter_43 (lv_at hl 4 rfl) ?_
        refine lv_icmp_le (tgt := 52) hx hb dX1_isBetter_45 (by decide) (fun c4 => ?_) (fun c4 => ?_)
        · have hf := kif_t c4 hf
          refine lv_iconst (v := (0 : Int32)) hx hb dX1_isBetter_52 (by decide) ?_
          obtain rfl := Option.some.inj hf
          exact kret_z false rfl C0 hr hlk hP hS dX1_isBetter_53
        · have hf := kif_f c4 hf
          refine lv_iconst (v := (1 : Int32)) hx hb dX1_isBetter_48 (by decide) ?_
          refine lv_goto (tgt := 53) hx hb dX1_isBetter_49 (by decide) ?_
          obtain rfl := Option.some.inj hf
          exact kret_z true rfl C0 hr hlk hP hS dX1_isBetter_53
    · have hf := kif_f c2 hf
      refine lv_iload_n hx hb dX1_isBetter_26 rfl (lv_at hl 1 rfl) ?_
      refine lv_iload_n hx hb dX1_isBetter_27 rfl (lv_at hl 3 rfl) ?_
      refine lv_icmp_le (tgt := 35) hx hb dX1_isBetter_28 (by decide) (fun c5 => ?_) (fun c5 => ?_)
      · have hf := kif_t c5 hf
        refine lv_iconst (v := (0 : Int32)) hx hb dX1_isBetter_35 (by decide) ?_
        obtain rfl := Option.some.inj hf
        exact kret_z false rfl C0 hr hlk hP hS dX1_isBetter_36
      · have hf := kif_f c5 hf
        refine lv_iconst (v := (1 : Int32)) hx hb dX1_isBetter_31 (by decide) ?_
        refine lv_goto (tgt := 36) hx hb dX1_isBetter_32 (by decide) ?_
        obtain rfl := Option.some.inj hf
        exact kret_z true rfl C0 hr hlk hP hS dX1_isBetter_36
  · have hf := kif_t c1 hf
    refine lv_iload_n hx hb dX1_isBetter_5 rfl (lv_at hl 1 rfl) ?_
    refine lv_iload hx hb dX1_isBetter_6 (lv_at hl 4 rfl) ?_
    refine lv_imul hx hb dX1_isBetter_8 ?_
    refine lv_iload_n hx hb dX1_isBetter_9 rfl (lv_at hl 3 rfl) ?_
    refine lv_iload_n hx hb dX1_isBetter_10 rfl (lv_at hl 2 rfl) ?_
    refine lv_imul hx hb dX1_isBetter_11 ?_
    refine lv_icmp_le (tgt := 19) hx hb dX1_isBetter_12 (by decide) (fun c6 => ?_) (fun c6 => ?_)
    · have hf := kif_t c6 hf
      refine lv_iconst (v := (0 : Int32)) hx hb dX1_isBetter_19 (by decide) ?_
      obtain rfl := Option.some.inj hf
      exact kret_z false rfl C0 hr hlk hP hS dX1_isBetter_20
    · have hf := kif_f c6 hf
      refine lv_iconst (v := (1 : Int32)) hx hb dX1_isBetter_15 (by decide) ?_
      refine lv_goto (tgt := 20) hx hb dX1_isBetter_16 (by decide) ?_
      obtain rfl := Option.some.inj hf
      exact kret_z true rfl C0 hr hlk hP hS dX1_isBetter_20
set_option maxHeartbeats 4000000 in
set_option maxRecDepth 100000 in
theorem cX1_bestCell_c {l : Launch} {D : va_G} {cI cS : ClassId} {a : Nat → Nat} (hap : kAp a 29) {h : Nat} (hh : h < 2) {v : kV} {ar : kR} {p1 : Int32} {p2 : Int32} {r : Int32} (hf : fX1_bestCell h v ar p1 p2 = some r) : kMet l D cI cS (xW cI cS a) (kA a 29) yX1_bestCell cX1_bestCell 7 (some .int) 3 71 [.ref (a (2+h)), .int p1, .int p2] v ar (some (.int r)) v ar := by
  refine kstart (by decide) (Nat.le_of_ble_eq_true rfl) ?_
  intro p e s m args below meth c ls C0 hr hlk hl hP hS
  have C0 : kC p s m c args cX1_bestCell 7 RX1 D cI cS := C0
  have hx := C0.1.1
  have hb := C0.1.2.1
  have hl : lv_has ls 7 [(0, .ref (a (2+h))), (1, .int p1), (2, .int p2)] := hl
  have hB85 : ∀ (rec9 : Int32 → Int32 → Int32 → Option Int32) (hrec9 : ∀ (x3 : Int32) (x4 : Int32) (x5 : Int32) (H : Heap) (locs : List Loc) (ls : Array Slot), rec9 x3 x4 x5 = some r → va_P D vwCl (xW cI cS a v ar) H → va_S (kA a 29) s.heap H locs → lv_has ls 7 [(0, .ref (a (2+h))), (1, .int p1), (2, .int p2), (3, .int x3), (4, .int x4), (5, .int x5)] → kGo p l e 3 71 s m args below meth c D (xW cI cS a) (kA a 29) (some (.int r)) v ar H locs (F0 m 9 ls [])) , ∀ (x3 : Int32) (x4 : Int32) (x5 : Int32) (H : Heap) (locs : List Loc) (ls : Array Slot), fX1_bestCell_85 h v ar p1 p2 rec9 x3 x4 x5 = some r → va_P D vwCl (xW cI cS a v ar) H → va_S (kA a 29) s.heap H locs → lv_has ls 7 [(0, .ref (a (2+h))), (1, .int p1), (2, .int p2), (3, .int x3), (4, .int x4), (5, .int x5)] → kGo p l e 3 71 s m args below meth c D (xW cI cS a) (kA a 29) (some (.int r)) v ar H locs (F0 m 85 ls []) := by
    intro rec9 hrec9 x3 x4 x5 H locs ls hf hP hS hl
    unfold fX1_bestCell_85 at hf
    refine lv_iinc (v := (x5 + (1 : Int32))) (lv' := [(5, .int (x5 + (1 : Int32))), (0, .ref (a (2+h))), (1, .int p1), (2, .int p2), (3, .int x3), (4, .int x4)]) hx hb dX1_bestCell_85 hl (k := 5) rfl rfl (by decide) rfl (fun ls hl => ?_)
    refine lv_goto (tgt := 9) hx hb dX1_bestCell_88 (by decide) ?_
    exact hrec9 _ _ _ _ _ _ hf hP hS (lv_sub hl [1, 2, 3, 4, 5, 0] rfl)
  have hB78 : ∀ (rec9 : Int32 → Int32 → Int32 → Option Int32) (hrec9 : ∀ (x3 : Int32) (x4 : Int32) (x5 : Int32) (H : Heap) (locs : List Loc) (ls : Array Slot), rec9 x3 x4 x5 = some r → va_P D vwCl (xW cI cS a v ar) H → va_S (kA a 29) s.heap H locs → lv_has ls 7 [(0, .ref (a (2+h))), (1, .int p1), (2, .int p2), (3, .int x3), (4, .int x4), (5, .int x5)] → kGo p l e 3 71 s m args below meth c D (xW cI cS a) (kA a 29) (some (.int r)) v ar H locs (F0 m 9 ls [])) , ∀ (x5 : Int32) (x6 : Int32) (H : Heap) (locs : List Loc) (ls : Array Slot), fX1_bestCell_78 h v ar p1 p2 rec9 x5 x6 = some r → va_P D vwCl (xW cI cS a v ar) H → va_S (kA a 29) s.heap H locs → lv_has ls 7 [(0, .ref (a (2+h))), (1, .int p1), (2, .int p2), (5, .int x5), (6, .int x6)] → kGo p l e 3 71 s m args below meth c D (xW cI cS a) (kA a 29) (some (.int r)) v ar H locs (F0 m 78 ls []) := by
    intro rec9 hrec9 x5 x6 H locs ls hf hP hS hl
    unfold fX1_bestCell_78 at hf
    refine lv_iload hx hb dX1_bestCell_78 (lv_at hl 3 rfl) ?_
    refine lv_istore_n (lv' := [(3, .int x5), (0, .ref (a (2+h))), (1, .int p1), (2, .int p2), (5, .int x5), (6, .int x6)]) hx hb dX1_bestCell_80 rfl hl (by decide) rfl (fun ls hl => ?_)
    refine lv_iload hx hb dX1_bestCell_81 (lv_at hl 5 rfl) ?_
    refine lv_istore (lv' := [(4, .int x6), (3, .int x5), (0, .ref (a (2+h))), (1, .int p1), (2, .int p2), (5, .int x5), (6, .int x6)]) hx hb dX1_bestCell_83 hl (by decide) rfl (fun ls hl => ?_)
    exact hB85 _ hrec9 _ _ _ _ _ _ hf hP hS (lv_sub hl [2, 3, 4, 1, 0, 5] rfl)
  have hB9 : ∀ (n : Nat), ∀ (x3 : Int32) (x4 : Int32) (x5 : Int32) (H : Heap) (locs : List Loc) (ls : Array Slot), fX1_bestCell_9 h v ar p1 p2 n x3 x4 x5 = some r → va_P D vwCl (xW cI cS a v ar) H → va_S (kA a 29) s.heap H locs → lv_has ls 7 [(0, .ref (a (2+h))), (1, .int p1), (2, .int p2), (3, .int x3), (4, .int x4), (5, .int x5)] → kGo p l e 3 71 s m args below meth c D (xW cI cS a) (kA a 29) (some (.int r)) v ar H locs (F0 m 9 ls []) := by
    intro  n
    induction n with
    | zero =>
      intro x3 x4 x5 H locs ls hf
      have hf : (none : Option Int32) = some r := hf
      cases hf
    | succ n ih =>
      intro x3 x4 x5 H locs ls hf hP hS hl
      have hf : fX1_bestCell_9b h v ar p1 p2 (fX1_bestCell_9 h v ar p1 p2 n) x3 x4 x5 = some r := hf
      unfold fX1_bestCell_9b at hf
      refine lv_iload hx hb dX1_bestCell_9 (lv_at hl 5 rfl) ?_
      refine lv_aload_n hx hb dX1_bestCell_11 rfl (lv_at hl 0 rfl) ?_
      refine xg_H_0 C0 hh hP q_30 dX1_bestCell_12 ?_
      refine lv_icmp_ge (tgt := 91) hx hb dX1_bestCell_15 (by decide) (fun c1 => ?_) (fun c1 => ?_)
      · have hf := kif_t c1 hf
        refine lv_iload_n hx hb dX1_bestCell_91 rfl (lv_at hl 3 rfl) ?_
        obtain rfl := Option.some.inj hf
        exact kret_i C0 hr hlk hP hS dX1_bestCell_92
      · have hf := kif_f c1 hf
        refine lv_iload_n hx hb dX1_bestCell_18 rfl (lv_at hl 2 rfl) ?_
        refine lv_iload hx hb dX1_bestCell_19 (lv_at hl 5 rfl) ?_
        refine lv_ishr hx hb dX1_bestCell_21 ?_
        refine lv_iconst (v := (1 : Int32)) hx hb dX1_bestCell_22 (by decide) ?_
        refine lv_iand hx hb dX1_bestCell_23 ?_
        refine lv_iconst (v := (1 : Int32)) hx hb dX1_bestCell_24 (by decide) ?_
        refine lv_icmp_eq (tgt := 85) hx hb dX1_bestCell_25 (by decide) (fun c2 => ?_) (fun c2 => ?_)
        · have hf := kif_t c2 hf
          exact hB85 _ ih _ _ _ _ _ _ hf hP hS (lv_sub hl [0, 1, 2, 3, 4, 5] rfl)
        · have hf := kif_f c2 hf
          refine lv_aload_n hx hb dX1_bestCell_28 rfl (lv_at hl 0 rfl) ?_
          refine lv_iload hx hb dX1_bestCell_29 (lv_at hl 5 rfl) ?_
          obtain ⟨r4, e3, hf⟩ := kb1_s hf
          refine kcallV (As := [.int x5]) (rest := []) C0 (cX0_isWithinAfterMove_c hap hh e3) q_385 kw_X0_isWithinAfterMove (xv_H hh C0.2 hP) hP hS ⟨Nat.le_of_ble_eq_true rfl, Nat.le_of_ble_eq_true rfl⟩ rfl hl.1 rfl (Nat.le_of_ble_eq_true rfl) dX1_bestCell_31 (fun H locs hP hS => ?_)
          refine lv_if_ne (tgt := 40) hx hb dX1_bestCell_34 (by decide) (fun c5 => ?_) (fun c5 => ?_)
          · have hf := kif_f c5 hf
            refine lv_aload_n hx hb dX1_bestCell_40 rfl (lv_at hl 0 rfl) ?_
            refine lv_iload hx hb dX1_bestCell_41 (lv_at hl 5 rfl) ?_
            obtain ⟨r7, e6, hf⟩ := kb1_s hf
            refine kcallV (As := [.int x5]) (rest := []) C0 (cX0_gain_c hap hh e6) q_391 kw_X0_gain (xv_H hh C0.2 hP) hP hS ⟨Nat.le_of_ble_eq_true rfl, Nat.le_of_ble_eq_true rfl⟩ rfl hl.1 rfl (Nat.le_of_ble_eq_true rfl) dX1_bestCell_43 (fun H locs hP hS => ?_)
            refine lv_istore (lv' := [(6, .int r7), (0, .ref (a (2+h))), (1, .int p1), (2, .int p2), (3, .int x3), (4, .int x4), (5, .int x5)]) hx hb dX1_bestCell_46 hl (by decide) rfl (fun ls hl => ?_)
            refine lv_iload_n hx hb dX1_bestCell_48 rfl (lv_at hl 4 rfl) ?_
            refine lv_bipush (v := (-9 : Int32)) hx hb dX1_bestCell_49 (by decide) ?_
            refine lv_icmp_eq (tgt := 78) hx hb dX1_bestCell_51 (by decide) (fun c8 => ?_) (fun c8 => ?_)
            · have hf := kif_t c8 hf
              exact hB78 _ ih _ _ _ _ _ hf hP hS (lv_sub hl [1, 2, 3, 6, 0] rfl)
            · have hf := kif_f c8 hf
              refine lv_iload_n hx hb dX1_bestCell_54 rfl (lv_at hl 2 rfl) ?_
              refine lv_iload hx hb dX1_bestCell_55 (lv_at hl 0 rfl) ?_
              refine lv_aload_n hx hb dX1_bestCell_57 rfl (lv_at hl 1 rfl) ?_
              refine xg_H_7 C0 hh hP q_51 dX1_bestCell_58 ?_
              refine lv_iload hx hb dX1_bestCell_61 (lv_at hl 6 rfl) ?_
              obtain ⟨g9, hf⟩ := kgd hf
              refine xl_weight C0 hh hP g9 dX1_bestCell_63 ?_
              refine lv_iload hx hb dX1_bestCell_64 (lv_at hl 5 rfl) ?_
              refine lv_aload_n hx hb dX1_bestCell_66 rfl (lv_at hl 1 rfl) ?_
              refine xg_H_7 C0 hh hP q_51 dX1_bestCell_67 ?_
              refine lv_iload_n hx hb dX1_bestCell_70 rfl (lv_at hl 4 rfl) ?_
              obtain ⟨g10, hf⟩ := kgd hf
              refine xl_weight C0 hh hP g10 dX1_bestCell_71 ?_
              obtain ⟨r12, e11, hf⟩ := kb1_s hf
              refine kcallT (As := [.int p1, .int r7, .int (ar (4*h+2) x5.toNatClampNeg), .int x4, .int (ar (4*h+2) x3.toNatClampNeg)]) (rest := []) C0 (cX1_isBetter_c hap e11) q_392 kw_X1_isBetter hP hS ⟨Nat.le_of_ble_eq_true rfl, Nat.le_of_ble_eq_true rfl⟩ rfl hl.1 rfl (Nat.le_of_ble_eq_true rfl) dX1_bestCell_72 (fun H locs hP hS => ?_)
              refine lv_if_eq (tgt := 85) hx hb dX1_bestCell_75 (by decide) (fun c13 => ?_) (fun c13 => ?_)
              · have hf := kif_t c13 hf
                exact hB85 _ ih _ _ _ _ _ _ hf hP hS (lv_sub hl [1, 2, 3, 4, 5, 6] rfl)
              · have hf := kif_f c13 hf
                exact hB78 _ ih _ _ _ _ _ hf hP hS (lv_sub hl [1, 2, 3, 6, 0] rfl)
          · have hf := kif_t c5 hf
            refine lv_goto (tgt := 85) hx hb dX1_bestCell_37 (by decide) ?_
            exact hB85 _ ih _ _ _ _ _ _ hf hP hS (lv_sub hl [0, 1, 2, 3, 4, 5] rfl)
  unfold fX1_bestCell at hf
  refine lv_bipush (v := (-9 : Int32)) hx hb dX1_bestCell_0 (by decide) ?_
  refine lv_istore_n (lv' := [(3, .int (-9 : Int32)), (0, .ref (a (2+h))), (1, .int p1), (2, .int p2)]) hx hb dX1_bestCell_2 rfl hl (by decide) rfl (fun ls hl => ?_)
  refine lv_iconst (v := (0 : Int32)) hx hb dX1_bestCell_3 (by decide) ?_
  refine lv_istore (lv' := [(4, .int (0 : Int32)), (3, .int (-9 : Int32)), (0, .ref (a (2+h))), (1, .int p1), (2, .int p2)]) hx hb dX1_bestCell_4 hl (by decide) rfl (fun ls hl => ?_)
  refine lv_iconst (v := (0 : Int32)) hx hb dX1_bestCell_6 (by decide) ?_
  refine lv_istore (lv' := [(5, .int (0 : Int32)), (4, .int (0 : Int32)), (3, .int (-9 : Int32)), (0, .ref (a (2+h))), (1, .int p1), (2, .int p2)]) hx hb dX1_bestCell_7 hl (by decide) rfl (fun ls hl => ?_)
  exact hB9 _ _ _ _ _ _ _ hf hP hS (lv_sub hl [3, 4, 5, 2, 1, 0] rfl)
