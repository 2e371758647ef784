set_option maxHeartbeats 4000000 in
set_option maxRecDepth 100000 in
theorem cX6_day_c {l : Launch} {D : va_G} {cI cS : ClassId} {a : Nat → Nat} (hap : kAp a 29) {v : kV} {ar : kR} {p1 : Int32} {p2 : Int32} {p3 : Int32} {p4 : Int32} {p5 : Int32} {r : Int32} {v2 : kV} {ar2 : kR} (hf : fX6_day v ar p1 p2 p3 p4 p5 = some (r, v2, ar2)) : kMet l D cI cS (xW cI cS a) (kA a 29) yX6_day cX6_day 9 (some .int) 6 150 [.ref (a 0), .int p1, .int p2, .int p3, .int p4, .int p5] v ar (some (.int r)) v2 ar2 := by
  refine kstart (by decide) (Nat.le_of_ble_eq_true rfl) ?_
  intro p e s m args below meth c ls C0 hr hlk hl hP hS
  have C0 : kC p s m c args cX6_day 9 RX6 D cI cS := C0
  have hx := C0.1.1
  have hb := C0.1.2.1
  have hl : lv_has ls 9 [(0, .ref (a 0)), (1, .int p1), (2, .int p2), (3, .int p3), (4, .int p4), (5, .int p5)] := hl
  have hB41 : ∀ (v : kV) (ar : kR) (H : Heap) (locs : List Loc) (ls : Array Slot), fX6_day_41 p1 p2 p3 p4 p5 v ar = some (r, v2, ar2) → va_P D vwCl (xW cI cS a v ar) H → va_S (kA a 29) s.heap H locs → lv_has ls 9 [(0, .ref (a 0))] → kGo p l e 6 150 s m args below meth c D (xW cI cS a) (kA a 29) (some (.int r)) v2 ar2 H locs (F0 m 41 ls []) := by
    intro  v ar H locs ls hf hP hS hl
    unfold fX6_day_41 at hf
    refine lv_aload_n hx hb dX6_day_41 rfl (lv_at hl 0 rfl) ?_
    refine lv_bipush (v := (-2 : Int32)) hx hb dX6_day_42 (by decide) ?_
    obtain ⟨r8, v9, ar10, e7, hf⟩ := kb3_s hf
    refine kcallV (As := [.int (-2 : Int32)]) (rest := []) C0 (cX6_refused_c hap e7) q_204 kw_X6_refused (xv_HC C0.2 hP) hP hS ⟨Nat.le_of_ble_eq_true rfl, Nat.le_of_ble_eq_true rfl⟩ rfl hl.1 rfl (Nat.le_of_ble_eq_true rfl) dX6_day_44 (fun H locs hP hS => ?_)
    obtain ⟨rfl, rfl, rfl⟩ := kinj3 hf
    exact kret_i C0 hr hlk hP hS dX6_day_47
  have hB85 : ∀ (x7 : Int32) (v : kV) (ar : kR) (H : Heap) (locs : List Loc) (ls : Array Slot) (hq17 : p1.toNatClampNeg < 4), fX6_day_85 p1 p2 p3 p4 p5 x7 v ar = some (r, v2, ar2) → va_P D vwCl (xW cI cS a v ar) H → va_S (kA a 29) s.heap H locs → lv_has ls 9 [(0, .ref (a 0)), (3, .int p3), (4, .int p4), (5, .int p5), (6, .ref (a (8+p1.toNatClampNeg))), (7, .int x7)] → kGo p l e 6 150 s m args below meth c D (xW cI cS a) (kA a 29) (some (.int r)) v2 ar2 H locs (F0 m 85 ls []) := by
    intro  x7 v ar H locs ls hq17 hf hP hS hl
    unfold fX6_day_85 at hf
    refine lv_iload hx hb dX6_day_85 (lv_at hl 5 rfl) ?_
    refine lv_if_eq (tgt := 97) hx hb dX6_day_87 (by decide) (fun c21 => ?_) (fun c21 => ?_)
    · have hf := kif_t c21 hf
      refine lv_aload_n hx hb dX6_day_97 rfl (lv_at hl 0 rfl) ?_
      obtain ⟨r23, e22, hf⟩ := kb1_s hf
      refine kcallV (As := []) (rest := []) C0 (cX6_noCircuit_c hap e22) q_330 kw_X6_noCircuit (xv_HC C0.2 hP) hP hS ⟨Nat.le_of_ble_eq_true rfl, Nat.le_of_ble_eq_true rfl⟩ rfl hl.1 rfl (Nat.le_of_ble_eq_true rfl) dX6_day_98 (fun H locs hP hS => ?_)
      refine lv_if_eq (tgt := 111) hx hb dX6_day_101 (by decide) (fun c24 => ?_) (fun c24 => ?_)
      · have hf := kif_t c24 hf
        refine lv_aload hx hb dX6_day_111 (lv_at hl 4 rfl) ?_
        refine lv_iload_n hx hb dX6_day_113 rfl (lv_at hl 1 rfl) ?_
        refine lv_iload hx hb dX6_day_114 (lv_at hl 2 rfl) ?_
        obtain ⟨r26, e25, hf⟩ := kb1_s hf
        refine kcallT (As := [.ref (a (8+p1.toNatClampNeg)), .int p3, .int p4]) (rest := []) C0 (cX6_areActs_c hap hq17 e25) q_415 kw_X6_areActs hP hS ⟨Nat.le_of_ble_eq_true rfl, Nat.le_of_ble_eq_true rfl⟩ rfl hl.1 rfl (Nat.le_of_ble_eq_true rfl) dX6_day_116 (fun H locs hP hS => ?_)
        refine lv_if_ne (tgt := 129) hx hb dX6_day_119 (by decide) (fun c27 => ?_) (fun c27 => ?_)
        · have hf := kif_f c27 hf
          refine lv_aload_n hx hb dX6_day_129 rfl (lv_at hl 0 rfl) ?_
          refine lv_iconst (v := (0 : Int32)) hx hb dX6_day_130 (by decide) ?_
          refine xp_HC_8 C0 hap hP hS q_177 dX6_day_131 (fun H locs hP hS => ?_)
          refine lv_aload_n hx hb dX6_day_134 rfl (lv_at hl 0 rfl) ?_
          refine lv_aload hx hb dX6_day_135 (lv_at hl 4 rfl) ?_
          refine lv_iload_n hx hb dX6_day_137 rfl (lv_at hl 1 rfl) ?_
          refine lv_iload hx hb dX6_day_138 (lv_at hl 2 rfl) ?_
          obtain ⟨r29, v30, ar31, e28, hf⟩ := kb3_s hf
          refine kcallV (As := [.ref (a (8+p1.toNatClampNeg)), .int p3, .int p4]) (rest := []) C0 (cX6_firstWrong_c hap hq17 e28) q_421 kw_X6_firstWrong (xv_HC C0.2 hP) hP hS ⟨Nat.le_of_ble_eq_true rfl, Nat.le_of_ble_eq_true rfl⟩ rfl hl.1 rfl (Nat.le_of_ble_eq_true rfl) dX6_day_140 (fun H locs hP hS => ?_)
          refine lv_istore (lv' := [(8, .int r29), (0, .ref (a 0)), (3, .int p3), (4, .int p4), (5, .int p5), (6, .ref (a (8+p1.toNatClampNeg))), (7, .int x7)]) hx hb dX6_day_143 hl (by decide) rfl (fun ls hl => ?_)
          refine lv_iload hx hb dX6_day_145 (lv_at hl 4 rfl) ?_
          refine lv_iconst (v := (1 : Int32)) hx hb dX6_day_147 (by decide) ?_
          refine lv_icmp_ne (tgt := 154) hx hb dX6_day_148 (by decide) (fun c32 => ?_) (fun c32 => ?_)
          · have hf := kif_f c32 hf
            refine lv_iload hx hb dX6_day_154 (lv_at hl 0 rfl) ?_
            refine lv_bipush (v := (-9 : Int32)) hx hb dX6_day_156 (by decide) ?_
            refine lv_icmp_ne (tgt := 170) hx hb dX6_day_158 (by decide) (fun c33 => ?_) (fun c33 => ?_)
            · have hf := kif_f c33 hf
              refine lv_bipush (v := (-100 : Int32)) hx hb dX6_day_170 (by decide) ?_
              refine lv_iload hx hb dX6_day_172 (lv_at hl 0 rfl) ?_
              refine lv_isub hx hb dX6_day_174 ?_
              obtain ⟨rfl, rfl, rfl⟩ := kinj3 hf
              exact kret_i C0 hr hlk hP hS dX6_day_175
            · have hf := kif_t c33 hf
              refine lv_aload_n hx hb dX6_day_161 rfl (lv_at hl 1 rfl) ?_
              refine lv_iload hx hb dX6_day_162 (lv_at hl 4 rfl) ?_
              obtain ⟨r35, e34, hf⟩ := kb1_s hf
              refine kcallV (As := [.int p5]) (rest := []) C0 (cX6_afterDay_c hap e34) q_429 kw_X6_afterDay (xv_HC C0.2 hP) hP hS ⟨Nat.le_of_ble_eq_true rfl, Nat.le_of_ble_eq_true rfl⟩ rfl hl.1 rfl (Nat.le_of_ble_eq_true rfl) dX6_day_164 (fun H locs hP hS => ?_)
              refine lv_goto (tgt := 175) hx hb dX6_day_167 (by decide) ?_
              obtain ⟨rfl, rfl, rfl⟩ := kinj3 hf
              exact kret_i C0 hr hlk hP hS dX6_day_175
          · have hf := kif_t c32 hf
            refine lv_iload hx hb dX6_day_151 (lv_at hl 0 rfl) ?_
            obtain ⟨rfl, rfl, rfl⟩ := kinj3 hf
            exact kret_i C0 hr hlk hP hS dX6_day_153
        · have hf := kif_t c27 hf
          refine lv_aload_n hx hb dX6_day_122 rfl (lv_at hl 0 rfl) ?_
          refine lv_bipush (v := (-2 : Int32)) hx hb dX6_day_123 (by decide) ?_
          obtain ⟨r37, v38, ar39, e36, hf⟩ := kb3_s hf
          refine kcallV (As := [.int (-2 : Int32)]) (rest := []) C0 (cX6_refused_c hap e36) q_204 kw_X6_refused (xv_HC C0.2 hP) hP hS ⟨Nat.le_of_ble_eq_true rfl, Nat.le_of_ble_eq_true rfl⟩ rfl hl.1 rfl (Nat.le_of_ble_eq_true rfl) dX6_day_125 (fun H locs hP hS => ?_)
          obtain ⟨rfl, rfl, rfl⟩ := kinj3 hf
          exact kret_i C0 hr hlk hP hS dX6_day_128
      · have hf := kif_f c24 hf
        refine lv_aload_n hx hb dX6_day_104 rfl (lv_at hl 0 rfl) ?_
        refine lv_bipush (v := (-3 : Int32)) hx hb dX6_day_105 (by decide) ?_
        obtain ⟨r41, v42, ar43, e40, hf⟩ := kb3_s hf
        refine kcallV (As := [.int (-3 : Int32)]) (rest := []) C0 (cX6_refused_c hap e40) q_204 kw_X6_refused (xv_HC C0.2 hP) hP hS ⟨Nat.le_of_ble_eq_true rfl, Nat.le_of_ble_eq_true rfl⟩ rfl hl.1 rfl (Nat.le_of_ble_eq_true rfl) dX6_day_107 (fun H locs hP hS => ?_)
        obtain ⟨rfl, rfl, rfl⟩ := kinj3 hf
        exact kret_i C0 hr hlk hP hS dX6_day_110
    · have hf := kif_f c21 hf
      refine lv_aload_n hx hb dX6_day_90 rfl (lv_at hl 0 rfl) ?_
      refine lv_iload hx hb dX6_day_91 (lv_at hl 5 rfl) ?_
      obtain ⟨r45, v46, ar47, e44, hf⟩ := kb3_s hf
      refine kcallV (As := [.int x7]) (rest := []) C0 (cX6_failed_c hap e44) q_219 kw_X6_failed (xv_HC C0.2 hP) hP hS ⟨Nat.le_of_ble_eq_true rfl, Nat.le_of_ble_eq_true rfl⟩ rfl hl.1 rfl (Nat.le_of_ble_eq_true rfl) dX6_day_93 (fun H locs hP hS => ?_)
      obtain ⟨rfl, rfl, rfl⟩ := kinj3 hf
      exact kret_i C0 hr hlk hP hS dX6_day_96
  unfold fX6_day at hf
  refine lv_iload_n hx hb dX6_day_0 rfl (lv_at hl 1 rfl) ?_
  obtain ⟨r2, e1, hf⟩ := kb1_s hf
  refine kcallT (As := [.int p1]) (rest := []) C0 (cX6_isSheet_c hap e1) q_201 kw_X6_isSheet hP hS ⟨Nat.le_of_ble_eq_true rfl, Nat.le_of_ble_eq_true rfl⟩ rfl hl.1 rfl (Nat.le_of_ble_eq_true rfl) dX6_day_1 (fun H locs hP hS => ?_)
  refine lv_if_ne (tgt := 13) hx hb dX6_day_4 (by decide) (fun c3 => ?_) (fun c3 => ?_)
  · have hf := kif_f c3 hf
    refine lv_iload_n hx hb dX6_day_13 rfl (lv_at hl 2 rfl) ?_
    obtain ⟨r5, e4, hf⟩ := kb1_s hf
    refine kcallT (As := [.int p2]) (rest := []) C0 (cX6_isLane_c hap e4) q_208 kw_X6_isLane hP hS ⟨Nat.le_of_ble_eq_true rfl, Nat.le_of_ble_eq_true rfl⟩ rfl hl.1 rfl (Nat.le_of_ble_eq_true rfl) dX6_day_14 (fun H locs hP hS => ?_)
    refine lv_if_eq (tgt := 41) hx hb dX6_day_17 (by decide) (fun c6 => ?_) (fun c6 => ?_)
    · have hf := kif_t c6 hf
      exact hB41 _ _ _ _ _ hf hP hS (lv_sub hl [0] rfl)
    · have hf := kif_f c6 hf
      refine lv_iload hx hb dX6_day_20 (lv_at hl 4 rfl) ?_
      refine lv_if_lt (tgt := 41) hx hb dX6_day_22 (by decide) (fun c11 => ?_) (fun c11 => ?_)
      · have hf := kif_t c11 hf
        exact hB41 _ _ _ _ _ hf hP hS (lv_sub hl [0] rfl)
      · have hf := kif_f c11 hf
        refine lv_iload hx hb dX6_day_25 (lv_at hl 4 rfl) ?_
        refine lv_bipush (v := (20 : Int32)) hx hb dX6_day_27 (by decide) ?_
        refine lv_icmp_gt (tgt := 41) hx hb dX6_day_29 (by decide) (fun c12 => ?_) (fun c12 => ?_)
        · have hf := kif_t c12 hf
          exact hB41 _ _ _ _ _ hf hP hS (lv_sub hl [0] rfl)
        · have hf := kif_f c12 hf
          refine lv_iload hx hb dX6_day_32 (lv_at hl 5 rfl) ?_
          refine lv_iconst (v := (4 : Int32)) hx hb dX6_day_34 (by decide) ?_
          obtain ⟨r14, e13, hf⟩ := kb1_s hf
          refine kcallT (As := [.int p5, .int (4 : Int32)]) (rest := []) C0 (cX6_isAsked_c hap e13) q_400 kw_X6_isAsked hP hS ⟨Nat.le_of_ble_eq_true rfl, Nat.le_of_ble_eq_true rfl⟩ rfl hl.1 rfl (Nat.le_of_ble_eq_true rfl) dX6_day_35 (fun H locs hP hS => ?_)
          refine lv_if_ne (tgt := 48) hx hb dX6_day_38 (by decide) (fun c15 => ?_) (fun c15 => ?_)
          · have hf := kif_f c15 hf
            refine lv_aload_n hx hb dX6_day_48 rfl (lv_at hl 0 rfl) ?_
            refine xg_HC_0 C0 hP q_169 dX6_day_49 ?_
            refine lv_iload_n hx hb dX6_day_52 rfl (lv_at hl 1 rfl) ?_
            obtain ⟨g16, hf⟩ := kgd hf
            have hq17 : p1.toNatClampNeg < 4 := Nat.not_le.mp fun z => g16 (Or.inr z)
            refine xl_SA C0 hP g16 dX6_day_53 ?_
            refine lv_astore (lv' := [(6, .ref (a (8+p1.toNatClampNeg))), (0, .ref (a 0)), (1, .int p1), (2, .int p2), (3, .int p3), (4, .int p4), (5, .int p5)]) hx hb dX6_day_54 hl (by decide) rfl (fun ls hl => ?_)
            refine lv_aload hx hb dX6_day_56 (lv_at hl 0 rfl) ?_
            refine lv_iload_n hx hb dX6_day_58 rfl (lv_at hl 3 rfl) ?_
            obtain ⟨r19, e18, hf⟩ := kb1_s hf
            refine kcallV (As := [.int p2]) (rest := []) C0 (cX4_faultAs_c hap hq17 e18) q_211 kw_X4_faultAs (xv_S hq17 C0.2 hP) hP hS ⟨Nat.le_of_ble_eq_true rfl, Nat.le_of_ble_eq_true rfl⟩ rfl hl.1 rfl (Nat.le_of_ble_eq_true rfl) dX6_day_59 (fun H locs hP hS => ?_)
            refine lv_istore (lv' := [(7, .int r19), (6, .ref (a (8+p1.toNatClampNeg))), (0, .ref (a 0)), (1, .int p1), (2, .int p2), (3, .int p3), (4, .int p4), (5, .int p5)]) hx hb dX6_day_62 hl (by decide) rfl (fun ls hl => ?_)
            refine lv_iload hx hb dX6_day_64 (lv_at hl 0 rfl) ?_
            refine lv_if_ne (tgt := 85) hx hb dX6_day_66 (by decide) (fun c20 => ?_) (fun c20 => ?_)
            · have hf := kif_f c20 hf
              exact hB85 _ _ _ _ _ _ hq17 hf hP hS (lv_sub hl [2, 5, 6, 7, 1, 0] rfl)
            · have hf := kif_t c20 hf
              refine lv_aload hx hb dX6_day_69 (lv_at hl 1 rfl) ?_
              refine lv_iload_n hx hb dX6_day_71 rfl (lv_at hl 5 rfl) ?_
              refine lv_iconst (v := (2 : Int32)) hx hb dX6_day_72 (by decide) ?_
              refine lv_iload hx hb dX6_day_73 (lv_at hl 6 rfl) ?_
              refine lv_imul hx hb dX6_day_75 ?_
              obtain ⟨r49, e48, hf⟩ := kb1_s hf
              refine kcallV (As := [.int p3, .int ((2 : Int32) * p4)]) (rest := []) C0 (cX4_has_c hap hq17 e48) q_215 kw_X4_has (xv_S hq17 C0.2 hP) hP hS ⟨Nat.le_of_ble_eq_true rfl, Nat.le_of_ble_eq_true rfl⟩ rfl hl.1 rfl (Nat.le_of_ble_eq_true rfl) dX6_day_76 (fun H locs hP hS => ?_)
              refine lv_if_ne (tgt := 85) hx hb dX6_day_79 (by decide) (fun c50 => ?_) (fun c50 => ?_)
              · have hf := kif_f c50 hf
                exact hB85 _ _ _ _ _ _ hq17 hf hP hS (lv_sub hl [2, 5, 6, 7, 1, 0] rfl)
              · have hf := kif_t c50 hf
                refine lv_iconst (v := (3 : Int32)) hx hb dX6_day_82 (by decide) ?_
                refine lv_istore (lv' := [(7, .int (3 : Int32)), (6, .ref (a (8+p1.toNatClampNeg))), (0, .ref (a 0)), (1, .int p1), (2, .int p2), (3, .int p3), (4, .int p4), (5, .int p5)]) hx hb dX6_day_83 hl (by decide) rfl (fun ls hl => ?_)
                exact hB85 _ _ _ _ _ _ hq17 hf hP hS (lv_sub hl [2, 5, 6, 7, 1, 0] rfl)
          · have hf := kif_t c15 hf
            exact hB41 _ _ _ _ _ hf hP hS (lv_sub hl [0] rfl)
  · have hf := kif_t c3 hf
    refine lv_aload_n hx hb dX6_day_7 rfl (lv_at hl 0 rfl) ?_
    refine lv_iconst (v := (-1 : Int32)) hx hb dX6_day_8 (by decide) ?_
    obtain ⟨r52, v53, ar54, e51, hf⟩ := kb3_s hf
    refine kcallV (As := [.int (-1 : Int32)]) (rest := []) C0 (cX6_refused_c hap e51) q_204 kw_X6_refused (xv_HC C0.2 hP) hP hS ⟨Nat.le_of_ble_eq_true rfl, Nat.le_of_ble_eq_true rfl⟩ rfl hl.1 rfl (Nat.le_of_ble_eq_true rfl) dX6_day_9 (fun H locs hP hS => ?_)
    obtain ⟨rfl, rfl, rfl⟩ := kinj3 hf
    exact kret_i C0 hr hlk hP hS dX6_day_12
set_option maxHeartbeats 4000000 in
set_option maxRecDepth 100000 in
theorem cX0_keepsFixed_c {l : Launch} {D : va_G} {cI cS : ClassId} {a : Nat → Nat} (hap : kAp a 29) {h : Nat} (hh : h < 2) {v : kV} {ar : kR} {p1 : Int32} {r : Bool} (hf : fX0_keepsFixed h v ar p1 = some r) : kMet l D cI cS (xW cI cS a) (kA a 29) yX0_keepsFixed cX0_keepsFixed 2 (some .boolean) 0 0 [.ref (a (2+h)), .int p1] v ar (some (.int (bI r))) v ar := by
  refine kstart (by decide) (Nat.le_of_ble_eq_true rfl) ?_
  intro p e s m args below meth c ls C0 hr hlk hl hP hS
  have C0 : kC p s m c args cX0_keepsFixed 2 RX0 D cI cS := C0
  have hx := C0.1.1
  have hb := C0.1.2.1
  have hl : lv_has ls 2 [(0, .ref (a (2+h))), (1, .int p1)] := hl
  unfold fX0_keepsFixed at hf
  refine lv_iload_n hx hb dX0_keepsFixed_0 rfl (lv_at hl 1 rfl) ?_
  refine lv_aload_n hx hb dX0_keepsFixed_1 rfl (lv_at hl 0 rfl) ?_
  refine xg_H_3 C0 hh hP q_41 dX0_keepsFixed_2 ?_
  refine lv_iand hx hb dX0_keepsFixed_5 ?_
  refine lv_aload_n hx hb dX0_keepsFixed_6 rfl (lv_at hl 0 rfl) ?_
  refine xg_H_2 C0 hh hP q_36 dX0_keepsFixed_7 ?_
  refine lv_aload_n hx hb dX0_keepsFixed_10 rfl (lv_at hl 0 rfl) ?_
  refine xg_H_3 C0 hh hP q_41 dX0_keepsFixed_11 ?_
  refine lv_iand hx hb dX0_keepsFixed_14 ?_
  refine lv_icmp_ne (tgt := 22) hx hb dX0_keepsFixed_15 (by decide) (fun c1 => ?_) (fun c1 => ?_)
  · have hf := kif_f c1 hf
    refine lv_iconst (v := (0 : Int32)) hx hb dX0_keepsFixed_22 (by decide) ?_
    obtain rfl := Option.some.inj hf
    exact kret_z false rfl C0 hr hlk hP hS dX0_keepsFixed_23
  · have hf := kif_t c1 hf
    refine lv_iconst (v := (1 : Int32)) hx hb dX0_keepsFixed_18 (by decide) ?_
    refine lv_goto (tgt := 23) hx hb dX0_keepsFixed_19 (by decide) ?_
    obtain rfl := Option.some.inj hf
    exact kret_z true rfl C0 hr hlk hP hS dX0_keepsFixed_23
set_option maxHeartbeats 4000000 in
set_option maxRecDepth 100000 in
theorem cX0_leastCut_c {l : Launch} {D : va_G} {cI cS : ClassId} {a : Nat → Nat} (hap : kAp a 29) {h : Nat} (hh : h < 2) {v : kV} {ar : kR} {r : Int32} (hf : fX0_leastCut h v ar = some r) : kMet l D cI cS (xW cI cS a) (kA a 29) yX0_leastCut cX0_leastCut 4 (some .int) 3 70 [.ref (a (2+h))] v ar (some (.int r)) v ar := by
  refine kstart (by decide) (Nat.le_of_ble_eq_true rfl) ?_
  intro p e s m args below meth c ls C0 hr hlk hl hP hS
  have C0 : kC p s m c args cX0_leastCut 4 RX0 D cI cS := C0
  have hx := C0.1.1
  have hb := C0.1.2.1
  have hl : lv_has ls 4 [(0, .ref (a (2+h)))] := hl
  have hB64 : ∀ (rec8 : Int32 → Int32 → Int32 → Option Int32) (hrec8 : ∀ (x1 : Int32) (x2 : Int32) (x3 : Int32) (H : Heap) (locs : List Loc) (ls : Array Slot), rec8 x1 x2 x3 = some r → va_P D vwCl (xW cI cS a v ar) H → va_S (kA a 29) s.heap H locs → lv_has ls 4 [(0, .ref (a (2+h))), (1, .int x1), (2, .int x2), (3, .int x3)] → kGo p l e 3 70 s m args below meth c D (xW cI cS a) (kA a 29) (some (.int r)) v ar H locs (F0 m 8 ls [])) , ∀ (x1 : Int32) (x2 : Int32) (x3 : Int32) (H : Heap) (locs : List Loc) (ls : Array Slot), fX0_leastCut_64 h v ar rec8 x1 x2 x3 = some r → va_P D vwCl (xW cI cS a v ar) H → va_S (kA a 29) s.heap H locs → lv_has ls 4 [(0, .ref (a (2+h))), (1, .int x1), (2, .int x2), (3, .int x3)] → kGo p l e 3 70 s m args below meth c D (xW cI cS a) (kA a 29) (some (.int r)) v ar H locs (F0 m 64 ls []) := by
    intro rec8 hrec8 x1 x2 x3 H locs ls hf hP hS hl
    unfold fX0_leastCut_64 at hf
    refine lv_iinc (v := (x3 + (1 : Int32))) (lv' := [(3, .int (x3 + (1 : Int32))), (0, .ref (a (2+h))), (1, .int x1), (2, .int x2)]) hx hb dX0_leastCut_64 hl (k := 3) rfl rfl (by decide) rfl (fun ls hl => ?_)
    refine lv_goto (tgt := 8) hx hb dX0_leastCut_67 (by decide) ?_
    exact hrec8 _ _ _ _ _ _ hf hP hS (lv_sub hl [1, 2, 3, 0] rfl)
  have hB8 : ∀ (n : Nat), ∀ (x1 : Int32) (x2 : Int32) (x3 : Int32) (H : Heap) (locs : List Loc) (ls : Array Slot), fX0_leastCut_8 h v ar n x1 x2 x3 = some r → va_P D vwCl (xW cI cS a v ar) H → va_S (kA a 29) s.heap H locs → lv_has ls 4 [(0, .ref (a (2+h))), (1, .int x1), (2, .int x2), (3, .int x3)] → kGo p l e 3 70 s m args below meth c D (xW cI cS a) (kA a 29) (some (.int r)) v ar H locs (F0 m 8 ls []) := by
    intro  n
    induction n with
    | zero =>
      intro x1 x2 x3 H locs ls hf
      have hf : (none : Option Int32) = some r := hf
      cases hf
    | succ n ih =>
      intro x1 x2 x3 H locs ls hf hP hS hl
      have hf : fX0_leastCut_8b h v ar (fX0_leastCut_8 h v ar n) x1 x2 x3 = some r := hf
      unfold fX0_leastCut_8b at hf
      refine lv_iload_n hx hb dX0_leastCut_8 rfl (lv_at hl 3 rfl) ?_
      refine lv_aload_n hx hb dX0_leastCut_9 rfl (lv_at hl 0 rfl) ?_
      obtain ⟨r2, e1, hf⟩ := kb1_s hf
      refine kcallV (As := []) (rest := [.int x3]) C0 (cX0_all_c hap hh e1) q_313 kw_X0_all (xv_H hh C0.2 hP) hP hS ⟨Nat.le_of_ble_eq_true rfl, Nat.le_of_ble_eq_true rfl⟩ rfl hl.1 rfl (Nat.le_of_ble_eq_true rfl) dX0_leastCut_10 (fun H locs hP hS => ?_)
      refine lv_icmp_gt (tgt := 70) hx hb dX0_leastCut_13 (by decide) (fun c3 => ?_) (fun c3 => ?_)
      · have hf := kif_t c3 hf
        refine lv_iload_n hx hb dX0_leastCut_70 rfl (lv_at hl 1 rfl) ?_
        obtain rfl := Option.some.inj hf
        exact kret_i C0 hr hlk hP hS dX0_leastCut_71
      · have hf := kif_f c3 hf
        refine lv_aload_n hx hb dX0_leastCut_16 rfl (lv_at hl 0 rfl) ?_
        refine lv_iload_n hx hb dX0_leastCut_17 rfl (lv_at hl 3 rfl) ?_
        obtain ⟨r5, e4, hf⟩ := kb1_s hf
        refine kcallV (As := [.int x3]) (rest := []) C0 (cX0_keepsFixed_c hap hh e4) q_441 kw_X0_keepsFixed (xv_H hh C0.2 hP) hP hS ⟨Nat.le_of_ble_eq_true rfl, Nat.le_of_ble_eq_true rfl⟩ rfl hl.1 rfl (Nat.le_of_ble_eq_true rfl) dX0_leastCut_18 (fun H locs hP hS => ?_)
        refine lv_if_eq (tgt := 64) hx hb dX0_leastCut_21 (by decide) (fun c6 => ?_) (fun c6 => ?_)
        · have hf := kif_t c6 hf
          exact hB64 _ ih _ _ _ _ _ _ hf hP hS (lv_sub hl [0, 1, 2, 3] rfl)
        · have hf := kif_f c6 hf
          refine lv_aload_n hx hb dX0_leastCut_24 rfl (lv_at hl 0 rfl) ?_
          refine lv_iload_n hx hb dX0_leastCut_25 rfl (lv_at hl 3 rfl) ?_
          obtain ⟨r8, e7, hf⟩ := kb1_s hf
          refine kcallV (As := [.int x3]) (rest := []) C0 (cX0_cutsBy_c hap hh e7) q_298 kw_X0_cutsBy (xv_H hh C0.2 hP) hP hS ⟨Nat.le_of_ble_eq_true rfl, Nat.le_of_ble_eq_true rfl⟩ rfl hl.1 rfl (Nat.le_of_ble_eq_true rfl) dX0_leastCut_26 (fun H locs hP hS => ?_)
          refine lv_iload_n hx hb dX0_leastCut_29 rfl (lv_at hl 2 rfl) ?_
          refine lv_icmp_ge (tgt := 64) hx hb dX0_leastCut_30 (by decide) (fun c9 => ?_) (fun c9 => ?_)
          · have hf := kif_t c9 hf
            exact hB64 _ ih _ _ _ _ _ _ hf hP hS (lv_sub hl [0, 1, 2, 3] rfl)
          · have hf := kif_f c9 hf
            refine lv_aload_n hx hb dX0_leastCut_33 rfl (lv_at hl 0 rfl) ?_
            refine lv_iload_n hx hb dX0_leastCut_34 rfl (lv_at hl 3 rfl) ?_
            obtain ⟨r11, e10, hf⟩ := kb1_s hf
            refine kcallV (As := [.int x3]) (rest := []) C0 (cX0_isWithin_c hap hh e10) q_445 kw_X0_isWithin (xv_H hh C0.2 hP) hP hS ⟨Nat.le_of_ble_eq_true rfl, Nat.le_of_ble_eq_true rfl⟩ rfl hl.1 rfl (Nat.le_of_ble_eq_true rfl) dX0_leastCut_35 (fun H locs hP hS => ?_)
            refine lv_if_eq (tgt := 64) hx hb dX0_leastCut_38 (by decide) (fun c12 => ?_) (fun c12 => ?_)
            · have hf := kif_t c12 hf
              exact hB64 _ ih _ _ _ _ _ _ hf hP hS (lv_sub hl [0, 1, 2, 3] rfl)
            · have hf := kif_f c12 hf
              refine lv_aload_n hx hb dX0_leastCut_41 rfl (lv_at hl 0 rfl) ?_
              refine lv_aload_n hx hb dX0_leastCut_42 rfl (lv_at hl 0 rfl) ?_
              obtain ⟨r14, e13, hf⟩ := kb1_s hf
              refine kcallV (As := []) (rest := [.ref (a (2+h))]) C0 (cX0_all_c hap hh e13) q_313 kw_X0_all (xv_H hh C0.2 hP) hP hS ⟨Nat.le_of_ble_eq_true rfl, Nat.le_of_ble_eq_true rfl⟩ rfl hl.1 rfl (Nat.le_of_ble_eq_true rfl) dX0_leastCut_43 (fun H locs hP hS => ?_)
              refine lv_iload_n hx hb dX0_leastCut_46 rfl (lv_at hl 3 rfl) ?_
              refine lv_iconst (v := (-1 : Int32)) hx hb dX0_leastCut_47 (by decide) ?_
              refine lv_ixor hx hb dX0_leastCut_48 ?_
              refine lv_iand hx hb dX0_leastCut_49 ?_
              obtain ⟨r16, e15, hf⟩ := kb1_s hf
              refine kcallV (As := [.int (r14 &&& (x3 ^^^ (-1 : Int32)))]) (rest := []) C0 (cX0_isWithin_c hap hh e15) q_445 kw_X0_isWithin (xv_H hh C0.2 hP) hP hS ⟨Nat.le_of_ble_eq_true rfl, Nat.le_of_ble_eq_true rfl⟩ rfl hl.1 rfl (Nat.le_of_ble_eq_true rfl) dX0_leastCut_50 (fun H locs hP hS => ?_)
              refine lv_if_eq (tgt := 64) hx hb dX0_leastCut_53 (by decide) (fun c17 => ?_) (fun c17 => ?_)
              · have hf := kif_t c17 hf
                exact hB64 _ ih _ _ _ _ _ _ hf hP hS (lv_sub hl [0, 1, 2, 3] rfl)
              · have hf := kif_f c17 hf
                refine lv_iload_n hx hb dX0_leastCut_56 rfl (lv_at hl 3 rfl) ?_
                refine lv_istore_n (lv' := [(1, .int x3), (0, .ref (a (2+h))), (2, .int x2), (3, .int x3)]) hx hb dX0_leastCut_57 rfl hl (by decide) rfl (fun ls hl => ?_)
                refine lv_aload_n hx hb dX0_leastCut_58 rfl (lv_at hl 1 rfl) ?_
                refine lv_iload_n hx hb dX0_leastCut_59 rfl (lv_at hl 3 rfl) ?_
                obtain ⟨r19, e18, hf⟩ := kb1_s hf
                refine kcallV (As := [.int x3]) (rest := []) C0 (cX0_cutsBy_c hap hh e18) q_298 kw_X0_cutsBy (xv_H hh C0.2 hP) hP hS ⟨Nat.le_of_ble_eq_true rfl, Nat.le_of_ble_eq_true rfl⟩ rfl hl.1 rfl (Nat.le_of_ble_eq_true rfl) dX0_leastCut_60 (fun H locs hP hS => ?_)
                refine lv_istore_n (lv' := [(2, .int r19), (1, .int x3), (0, .ref (a (2+h))), (3, .int x3)]) hx hb dX0_leastCut_63 rfl hl (by decide) rfl (fun ls hl => ?_)
                exact hB64 _ ih _ _ _ _ _ _ hf hP hS (lv_sub hl [2, 1, 0, 3] rfl)
  unfold fX0_leastCut at hf
  refine lv_bipush (v := (-9 : Int32)) hx hb dX0_leastCut_0 (by decide) ?_
  refine lv_istore_n (lv' := [(1, .int (-9 : Int32)), (0, .ref (a (2+h)))]) hx hb dX0_leastCut_2 rfl hl (by decide) rfl (fun ls hl => ?_)
  refine lv_bipush (v := (7 : Int32)) hx hb dX0_leastCut_3 (by decide) ?_
  refine lv_istore_n (lv' := [(2, .int (7 : Int32)), (1, .int (-9 : Int32)), (0, .ref (a (2+h)))]) hx hb dX0_leastCut_5 rfl hl (by decide) rfl (fun ls hl => ?_)
  refine lv_iconst (v := (0 : Int32)) hx hb dX0_leastCut_6 (by decide) ?_
  refine lv_istore_n (lv' := [(3, .int (0 : Int32)), (2, .int (7 : Int32)), (1, .int (-9 : Int32)), (0, .ref (a (2+h)))]) hx hb dX0_leastCut_7 rfl hl (by decide) rfl (fun ls hl => ?_)
  exact hB8 _ _ _ _ _ _ _ hf hP hS (lv_sub hl [3, 2, 1, 0] rfl)
set_option maxHeartbeats 4000000 in
set_option maxRecDepth 100000 in
theorem cX6_least_c {l : Launch} {D : va_G} {cI cS : ClassId} {a : Nat → Nat} (hap : kAp a 29) {v : kV} {ar : kR} {p1 : Int32} {r : Int32} (hf : fX6_least v ar p1 = some r) : kMet l D cI cS (xW cI cS a) (kA a 29) yX6_least cX6_least 3 (some .int) 4 93 [.ref (a 0), .int p1] v ar (some (.int r)) v ar := by
  refine kstart (by decide) (Nat.le_of_ble_eq_true rfl) ?_
  intro p e s m args below meth c ls C0 hr hlk hl hP hS
  have C0 : kC p s m c args cX6_least 3 RX6 D cI cS := C0
  have hx := C0.1.1
  have hb := C0.1.2.1
  have hl : lv_has ls 3 [(0, .ref (a 0)), (1, .int p1)] := hl
  unfold fX6_least at hf
  refine lv_aload_n hx hb dX6_least_0 rfl (lv_at hl 0 rfl) ?_
  obtain ⟨r2, e1, hf⟩ := kb1_s hf
  refine kcallV (As := []) (rest := []) C0 (cX6_noCircuit_c hap e1) q_330 kw_X6_noCircuit (xv_HC C0.2 hP) hP hS ⟨Nat.le_of_ble_eq_true rfl, Nat.le_of_ble_eq_true rfl⟩ rfl hl.1 rfl (Nat.le_of_ble_eq_true rfl) dX6_least_1 (fun H locs hP hS => ?_)
  refine lv_if_eq (tgt := 10) hx hb dX6_least_4 (by decide) (fun c3 => ?_) (fun c3 => ?_)
  · have hf := kif_t c3 hf
    refine lv_iload_n hx hb dX6_least_10 rfl (lv_at hl 1 rfl) ?_
    refine lv_if_lt (tgt := 19) hx hb dX6_least_11 (by decide) (fun c4 => ?_) (fun c4 => ?_)
    · have hf := kif_t c4 hf
      refine lv_bipush (v := (-2 : Int32)) hx hb dX6_least_19 (by decide) ?_
      obtain rfl := Option.some.inj hf
      exact kret_i C0 hr hlk hP hS dX6_least_21
    · have hf := kif_f c4 hf
      refine lv_iload_n hx hb dX6_least_14 rfl (lv_at hl 1 rfl) ?_
      refine lv_iconst (v := (1 : Int32)) hx hb dX6_least_15 (by decide) ?_
      refine lv_icmp_le (tgt := 22) hx hb dX6_least_16 (by decide) (fun c5 => ?_) (fun c5 => ?_)
      · have hf := kif_t c5 hf
        refine lv_aload_n hx hb dX6_least_22 rfl (lv_at hl 0 rfl) ?_
        refine xg_HC_1 C0 hP q_170 dX6_least_23 ?_
        obtain ⟨r7, e6, hf⟩ := kb1_s hf
        refine kcallV (As := []) (rest := []) C0 (cX0_leastCut_c hap k0_2 e6) q_437 kw_X0_leastCut (xv_H k0_2 C0.2 hP) hP hS ⟨Nat.le_of_ble_eq_true rfl, Nat.le_of_ble_eq_true rfl⟩ rfl hl.1 rfl (Nat.le_of_ble_eq_true rfl) dX6_least_26 (fun H locs hP hS => ?_)
        refine lv_istore_n (lv' := [(2, .int r7), (0, .ref (a 0)), (1, .int p1)]) hx hb dX6_least_29 rfl hl (by decide) rfl (fun ls hl => ?_)
        refine lv_iload_n hx hb dX6_least_30 rfl (lv_at hl 0 rfl) ?_
        refine lv_bipush (v := (-9 : Int32)) hx hb dX6_least_31 (by decide) ?_
        refine lv_icmp_eq (tgt := 41) hx hb dX6_least_33 (by decide) (fun c8 => ?_) (fun c8 => ?_)
        · have hf := kif_t c8 hf
          refine lv_iload_n hx hb dX6_least_41 rfl (lv_at hl 0 rfl) ?_
          obtain rfl := Option.some.inj hf
          exact kret_i C0 hr hlk hP hS dX6_least_42
        · have hf := kif_f c8 hf
          refine lv_iload_n hx hb dX6_least_36 rfl (lv_at hl 2 rfl) ?_
          refine lv_iconst (v := (1 : Int32)) hx hb dX6_least_37 (by decide) ?_
          refine lv_icmp_ne (tgt := 43) hx hb dX6_least_38 (by decide) (fun c9 => ?_) (fun c9 => ?_)
          · have hf := kif_f c9 hf
            refine lv_aload_n hx hb dX6_least_43 rfl (lv_at hl 1 rfl) ?_
            refine xg_HC_1 C0 hP q_170 dX6_least_44 ?_
            refine lv_iload_n hx hb dX6_least_47 rfl (lv_at hl 0 rfl) ?_
            obtain ⟨r11, e10, hf⟩ := kb1_s hf
            refine kcallV (As := [.int r7]) (rest := []) C0 (cX0_cutsBy_c hap k0_2 e10) q_446 kw_X0_cutsBy (xv_H k0_2 C0.2 hP) hP hS ⟨Nat.le_of_ble_eq_true rfl, Nat.le_of_ble_eq_true rfl⟩ rfl hl.1 rfl (Nat.le_of_ble_eq_true rfl) dX6_least_48 (fun H locs hP hS => ?_)
            obtain rfl := Option.some.inj hf
            exact kret_i C0 hr hlk hP hS dX6_least_51
          · have hf := kif_t c9 hf
            refine lv_iload_n hx hb dX6_least_41 rfl (lv_at hl 0 rfl) ?_
            obtain rfl := Option.some.inj hf
            exact kret_i C0 hr hlk hP hS dX6_least_42
      · have hf := kif_f c5 hf
        refine lv_bipush (v := (-2 : Int32)) hx hb dX6_least_19 (by decide) ?_
        obtain rfl := Option.some.inj hf
        exact kret_i C0 hr hlk hP hS dX6_least_21
  · have hf := kif_f c3 hf
    refine lv_bipush (v := (-3 : Int32)) hx hb dX6_least_7 (by decide) ?_
    obtain rfl := Option.some.inj hf
    exact kret_i C0 hr hlk hP hS dX6_least_9
set_option maxHeartbeats 4000000 in
set_option maxRecDepth 100000 in
theorem cX6_apart_c {l : Launch} {D : va_G} {cI cS : ClassId} {a : Nat → Nat} (hap : kAp a 29) {v : kV} {ar : kR} {p1 : Int32} {p2 : Int32} {r : Int32} (hf : fX6_apart v ar p1 p2 = some r) : kMet l D cI cS (xW cI cS a) (kA a 29) yX6_apart cX6_apart 5 (some .int) 2 45 [.ref (a 0), .int p1, .int p2] v ar (some (.int r)) v ar := by
  refine kstart (by decide) (Nat.le_of_ble_eq_true rfl) ?_
  intro p e s m args below meth c ls C0 hr hlk hl hP hS
  have C0 : kC p s m c args cX6_apart 5 RX6 D cI cS := C0
  have hx := C0.1.1
  have hb := C0.1.2.1
  have hl : lv_has ls 5 [(0, .ref (a 0)), (1, .int p1), (2, .int p2)] := hl
  have hB74 : ∀ (rec29 : Int32 → Int32 → Option Int32) (hrec29 : ∀ (x3 : Int32) (x4 : Int32) (H : Heap) (locs : List Loc) (ls : Array Slot), rec29 x3 x4 = some r → va_P D vwCl (xW cI cS a v ar) H → va_S (kA a 29) s.heap H locs → lv_has ls 5 [(0, .ref (a 0)), (1, .int p1), (2, .int p2), (3, .int x3), (4, .int x4)] → kGo p l e 2 45 s m args below meth c D (xW cI cS a) (kA a 29) (some (.int r)) v ar H locs (F0 m 29 ls [])) , ∀ (x3 : Int32) (x4 : Int32) (H : Heap) (locs : List Loc) (ls : Array Slot), fX6_apart_74 v ar p1 p2 rec29 x3 x4 = some r → va_P D vwCl (xW cI cS a v ar) H → va_S (kA a 29) s.heap H locs → lv_has ls 5 [(0, .ref (a 0)), (1, .int p1), (2, .int p2), (3, .int x3), (4, .int x4)] → kGo p l e 2 45 s m args below meth c D (xW cI cS a) (kA a 29) (some (.int r)) v ar H locs (F0 m 74 ls []) := by
    intro rec29 hrec29 x3 x4 H locs ls hf hP hS hl
    unfold fX6_apart_74 at hf
    refine lv_iinc (v := (x4 + (1 : Int32))) (lv' := [(4, .int (x4 + (1 : Int32))), (0, .ref (a 0)), (1, .int p1), (2, .int p2), (3, .int x3)]) hx hb dX6_apart_74 hl (k := 4) rfl rfl (by decide) rfl (fun ls hl => ?_)
    refine lv_goto (tgt := 29) hx hb dX6_apart_77 (by decide) ?_
    exact hrec29 _ _ _ _ _ hf hP hS (lv_sub hl [1, 2, 3, 4, 0] rfl)
  have hB29 : ∀ (n : Nat), ∀ (x3 : Int32) (x4 : Int32) (H : Heap) (locs : List Loc) (ls : Array Slot), fX6_apart_29 v ar p1 p2 n x3 x4 = some r → va_P D vwCl (xW cI cS a v ar) H → va_S (kA a 29) s.heap H locs → lv_has ls 5 [(0, .ref (a 0)), (1, .int p1), (2, .int p2), (3, .int x3), (4, .int x4)] → kGo p l e 2 45 s m args below meth c D (xW cI cS a) (kA a 29) (some (.int r)) v ar H locs (F0 m 29 ls []) := by
    intro  n
    induction n with
    | zero =>
      intro x3 x4 H locs ls hf
      have hf : (none : Option Int32) = some r := hf
      cases hf
    | succ n ih =>
      intro x3 x4 H locs ls hf hP hS hl
      have hf : fX6_apart_29b v ar p1 p2 (fX6_apart_29 v ar p1 p2 n) x3 x4 = some r := hf
      unfold fX6_apart_29b at hf
      refine lv_iload hx hb dX6_apart_29 (lv_at hl 4 rfl) ?_
      refine lv_aload_n hx hb dX6_apart_31 rfl (lv_at hl 0 rfl) ?_
      refine xg_HC_1 C0 hP q_170 dX6_apart_32 ?_
      obtain ⟨r9, e8, hf⟩ := kb1_s hf
      refine kcallV (As := []) (rest := [.int x4]) C0 (cX0_all_c hap k0_2 e8) q_451 kw_X0_all (xv_H k0_2 C0.2 hP) hP hS ⟨Nat.le_of_ble_eq_true rfl, Nat.le_of_ble_eq_true rfl⟩ rfl hl.1 rfl (Nat.le_of_ble_eq_true rfl) dX6_apart_35 (fun H locs hP hS => ?_)
      refine lv_icmp_gt (tgt := 80) hx hb dX6_apart_38 (by decide) (fun c10 => ?_) (fun c10 => ?_)
      · have hf := kif_t c10 hf
        refine lv_iload_n hx hb dX6_apart_80 rfl (lv_at hl 3 rfl) ?_
        obtain rfl := Option.some.inj hf
        exact kret_i C0 hr hlk hP hS dX6_apart_81
      · have hf := kif_f c10 hf
        refine lv_iload hx hb dX6_apart_41 (lv_at hl 4 rfl) ?_
        refine lv_iload_n hx hb dX6_apart_43 rfl (lv_at hl 1 rfl) ?_
        refine lv_ishr hx hb dX6_apart_44 ?_
        refine lv_iconst (v := (1 : Int32)) hx hb dX6_apart_45 (by decide) ?_
        refine lv_iand hx hb dX6_apart_46 ?_
        refine lv_if_ne (tgt := 74) hx hb dX6_apart_47 (by decide) (fun c11 => ?_) (fun c11 => ?_)
        · have hf := kif_f c11 hf
          exact hB74 _ ih _ _ _ _ _ hf hP hS (lv_sub hl [0, 1, 2, 3, 4] rfl)
        · have hf := kif_t c11 hf
          refine lv_iload hx hb dX6_apart_50 (lv_at hl 4 rfl) ?_
          refine lv_iload_n hx hb dX6_apart_52 rfl (lv_at hl 2 rfl) ?_
          refine lv_ishr hx hb dX6_apart_53 ?_
          refine lv_iconst (v := (1 : Int32)) hx hb dX6_apart_54 (by decide) ?_
          refine lv_iand hx hb dX6_apart_55 ?_
          refine lv_iconst (v := (1 : Int32)) hx hb dX6_apart_56 (by decide) ?_
          refine lv_icmp_ne (tgt := 74) hx hb dX6_apart_57 (by decide) (fun c12 => ?_) (fun c12 => ?_)
          · have hf := kif_f c12 hf
            exact hB74 _ ih _ _ _ _ _ hf hP hS (lv_sub hl [0, 1, 2, 3, 4] rfl)
          · have hf := kif_t c12 hf
            refine lv_iload_n hx hb dX6_apart_60 rfl (lv_at hl 3 rfl) ?_
            refine lv_aload_n hx hb dX6_apart_61 rfl (lv_at hl 0 rfl) ?_
            refine xg_HC_1 C0 hP q_170 dX6_apart_62 ?_
            refine lv_iload hx hb dX6_apart_65 (lv_at hl 4 rfl) ?_
            obtain ⟨r14, e13, hf⟩ := kb1_s hf
            refine kcallV (As := [.int x4]) (rest := [.int x3]) C0 (cX0_cutsBy_c hap k0_2 e13) q_446 kw_X0_cutsBy (xv_H k0_2 C0.2 hP) hP hS ⟨Nat.le_of_ble_eq_true rfl, Nat.le_of_ble_eq_true rfl⟩ rfl hl.1 rfl (Nat.le_of_ble_eq_true rfl) dX6_apart_67 (fun H locs hP hS => ?_)
            refine va_mmin hx hb (C0.1.2.2.1.trans hl.1.symm) C0.1.2.2.2.1 (C0.1.2.2.2.2 _ q_452) (C0.1.2.2.2.2 _ q_453) (C0.1.2.2.2.2 _ q_11) (C0.1.2.2.2.2 _ q_454) (Nat.le_of_ble_eq_true rfl) (Nat.le_of_ble_eq_true rfl) (Nat.zero_le _) (Nat.zero_le _) dX6_apart_70 ?_
            refine lv_istore_n (lv' := [(3, .int (if r14 < x3 then r14 else x3)), (0, .ref (a 0)), (1, .int p1), (2, .int p2), (4, .int x4)]) hx hb dX6_apart_73 rfl hl (by decide) rfl (fun ls hl => ?_)
            exact hB74 _ ih _ _ _ _ _ hf hP hS (lv_sub hl [1, 2, 3, 0, 4] rfl)
  unfold fX6_apart at hf
  refine lv_aload_n hx hb dX6_apart_0 rfl (lv_at hl 0 rfl) ?_
  refine lv_iload_n hx hb dX6_apart_1 rfl (lv_at hl 1 rfl) ?_
  obtain ⟨r2, e1, hf⟩ := kb1_s hf
  refine kcallV (As := [.int p1]) (rest := []) C0 (cX6_isCell_c hap e1) q_278 kw_X6_isCell (xv_HC C0.2 hP) hP hS ⟨Nat.le_of_ble_eq_true rfl, Nat.le_of_ble_eq_true rfl⟩ rfl hl.1 rfl (Nat.le_of_ble_eq_true rfl) dX6_apart_2 (fun H locs hP hS => ?_)
  refine lv_if_eq (tgt := 21) hx hb dX6_apart_5 (by decide) (fun c3 => ?_) (fun c3 => ?_)
  · have hf := kif_t c3 hf
    refine lv_iconst (v := (-1 : Int32)) hx hb dX6_apart_21 (by decide) ?_
    obtain rfl := Option.some.inj hf
    exact kret_i C0 hr hlk hP hS dX6_apart_22
  · have hf := kif_f c3 hf
    refine lv_aload_n hx hb dX6_apart_8 rfl (lv_at hl 0 rfl) ?_
    refine lv_iload_n hx hb dX6_apart_9 rfl (lv_at hl 2 rfl) ?_
    obtain ⟨r5, e4, hf⟩ := kb1_s hf
    refine kcallV (As := [.int p2]) (rest := []) C0 (cX6_isCell_c hap e4) q_278 kw_X6_isCell (xv_HC C0.2 hP) hP hS ⟨Nat.le_of_ble_eq_true rfl, Nat.le_of_ble_eq_true rfl⟩ rfl hl.1 rfl (Nat.le_of_ble_eq_true rfl) dX6_apart_10 (fun H locs hP hS => ?_)
    refine lv_if_eq (tgt := 21) hx hb dX6_apart_13 (by decide) (fun c6 => ?_) (fun c6 => ?_)
    · have hf := kif_t c6 hf
      refine lv_iconst (v := (-1 : Int32)) hx hb dX6_apart_21 (by decide) ?_
      obtain rfl := Option.some.inj hf
      exact kret_i C0 hr hlk hP hS dX6_apart_22
    · have hf := kif_f c6 hf
      refine lv_iload_n hx hb dX6_apart_16 rfl (lv_at hl 1 rfl) ?_
      refine lv_iload_n hx hb dX6_apart_17 rfl (lv_at hl 2 rfl) ?_
      refine lv_icmp_ne (tgt := 23) hx hb dX6_apart_18 (by decide) (fun c7 => ?_) (fun c7 => ?_)
      · have hf := kif_f c7 hf
        refine lv_bipush (v := (6 : Int32)) hx hb dX6_apart_23 (by decide) ?_
        refine lv_istore_n (lv' := [(3, .int (6 : Int32)), (0, .ref (a 0)), (1, .int p1), (2, .int p2)]) hx hb dX6_apart_25 rfl hl (by decide) rfl (fun ls hl => ?_)
        refine lv_iconst (v := (0 : Int32)) hx hb dX6_apart_26 (by decide) ?_
        refine lv_istore (lv' := [(4, .int (0 : Int32)), (3, .int (6 : Int32)), (0, .ref (a 0)), (1, .int p1), (2, .int p2)]) hx hb dX6_apart_27 hl (by decide) rfl (fun ls hl => ?_)
        exact hB29 _ _ _ _ _ _ hf hP hS (lv_sub hl [2, 3, 4, 1, 0] rfl)
      · have hf := kif_t c7 hf
        refine lv_iconst (v := (-1 : Int32)) hx hb dX6_apart_21 (by decide) ?_
        obtain rfl := Option.some.inj hf
        exact kret_i C0 hr hlk hP hS dX6_apart_22
set_option maxHeartbeats 4000000 in
set_option maxRecDepth 100000 in
theorem cX6_closest_c {l : Launch} {D : va_G} {cI cS : ClassId} {a : Nat → Nat} (hap : kAp a 29) {v : kV} {ar : kR} {p1 : Int32} {r : Int32} (hf : fX6_closest v ar p1 = some r) : kMet l D cI cS (xW cI cS a) (kA a 29) yX6_closest cX6_closest 8 (some .int) 1 23 [.ref (a 0), .int p1] v ar (some (.int r)) v ar := by
  refine kstart (by decide) (Nat.le_of_ble_eq_true rfl) ?_
  intro p e s m args below meth c ls C0 hr hlk hl hP hS
  have C0 : kC p s m c args cX6_closest 8 RX6 D cI cS := C0
  have hx := C0.1.1
  have hb := C0.1.2.1
  have hl : lv_has ls 8 [(0, .ref (a 0)), (1, .int p1)] := hl
  have hB106 : ∀ (rec36 : Int32 → Int32 → Int32 → Int32 → Option Int32) (hrec36 : ∀ (x2 : Int32) (x3 : Int32) (x4 : Int32) (x5 : Int32) (H : Heap) (locs : List Loc) (ls : Array Slot), rec36 x2 x3 x4 x5 = some r → va_P D vwCl (xW cI cS a v ar) H → va_S (kA a 29) s.heap H locs → lv_has ls 8 [(0, .ref (a 0)), (1, .int p1), (2, .int x2), (3, .int x3), (4, .int x4), (5, .int x5)] → kGo p l e 1 23 s m args below meth c D (xW cI cS a) (kA a 29) (some (.int r)) v ar H locs (F0 m 36 ls [])) (rec54 : Int32 → Int32 → Int32 → Int32 → Int32 → Option Int32) (hrec54 : ∀ (x2 : Int32) (x3 : Int32) (x4 : Int32) (x5 : Int32) (x6 : Int32) (H : Heap) (locs : List Loc) (ls : Array Slot), rec54 x2 x3 x4 x5 x6 = some r → va_P D vwCl (xW cI cS a v ar) H → va_S (kA a 29) s.heap H locs → lv_has ls 8 [(0, .ref (a 0)), (1, .int p1), (2, .int x2), (3, .int x3), (4, .int x4), (5, .int x5), (6, .int x6)] → kGo p l e 1 23 s m args below meth c D (xW cI cS a) (kA a 29) (some (.int r)) v ar H locs (F0 m 54 ls [])) , ∀ (x2 : Int32) (x3 : Int32) (x4 : Int32) (x5 : Int32) (x6 : Int32) (H : Heap) (locs : List Loc) (ls : Array Slot), fX6_closest_106 v ar p1 rec36 rec54 x2 x3 x4 x5 x6 = some r → va_P D vwCl (xW cI cS a v ar) H → va_S (kA a 29) s.heap H locs → lv_has ls 8 [(0, .ref (a 0)), (1, .int p1), (2, .int x2), (3, .int x3), (4, .int x4), (5, .int x5), (6, .int x6)] → kGo p l e 1 23 s m args below meth c D (xW cI cS a) (kA a 29) (some (.int r)) v ar H locs (F0 m 106 ls []) := by
    intro rec36 hrec36 rec54 hrec54 x2 x3 x4 x5 x6 H locs ls hf hP hS hl
    unfold fX6_closest_106 at hf
    refine lv_iinc (v := (x6 + (1 : Int32))) (lv' := [(6, .int (x6 + (1 : Int32))), (0, .ref (a 0)), (1, .int p1), (2, .int x2), (3, .int x3), (4, .int x4), (5, .int x5)]) hx hb dX6_closest_106 hl (k := 6) rfl rfl (by decide) rfl (fun ls hl => ?_)
    refine lv_goto (tgt := 54) hx hb dX6_closest_109 (by decide) ?_
    exact hrec54 _ _ _ _ _ _ _ _ hf hP hS (lv_sub hl [1, 2, 3, 4, 5, 6, 0] rfl)
  have hB54 : ∀ (rec36 : Int32 → Int32 → Int32 → Int32 → Option Int32) (hrec36 : ∀ (x2 : Int32) (x3 : Int32) (x4 : Int32) (x5 : Int32) (H : Heap) (locs : List Loc) (ls : Array Slot), rec36 x2 x3 x4 x5 = some r → va_P D vwCl (xW cI cS a v ar) H → va_S (kA a 29) s.heap H locs → lv_has ls 8 [(0, .ref (a 0)), (1, .int p1), (2, .int x2), (3, .int x3), (4, .int x4), (5, .int x5)] → kGo p l e 1 23 s m args below meth c D (xW cI cS a) (kA a 29) (some (.int r)) v ar H locs (F0 m 36 ls [])) (n : Nat), ∀ (x2 : Int32) (x3 : Int32) (x4 : Int32) (x5 : Int32) (x6 : Int32) (H : Heap) (locs : List Loc) (ls : Array Slot), fX6_closest_54 v ar p1 rec36 n x2 x3 x4 x5 x6 = some r → va_P D vwCl (xW cI cS a v ar) H → va_S (kA a 29) s.heap H locs → lv_has ls 8 [(0, .ref (a 0)), (1, .int p1), (2, .int x2), (3, .int x3), (4, .int x4), (5, .int x5), (6, .int x6)] → kGo p l e 1 23 s m args below meth c D (xW cI cS a) (kA a 29) (some (.int r)) v ar H locs (F0 m 54 ls []) := by
    intro rec36 hrec36 n
    induction n with
    | zero =>
      intro x2 x3 x4 x5 x6 H locs ls hf
      have hf : (none : Option Int32) = some r := hf
      cases hf
    | succ n ih =>
      intro x2 x3 x4 x5 x6 H locs ls hf hP hS hl
      have hf : fX6_closest_54b v ar p1 rec36 (fX6_closest_54 v ar p1 rec36 n) x2 x3 x4 x5 x6 = some r := hf
      unfold fX6_closest_54b at hf
      refine lv_iload hx hb dX6_closest_54 (lv_at hl 6 rfl) ?_
      refine lv_aload_n hx hb dX6_closest_56 rfl (lv_at hl 0 rfl) ?_
      refine xg_HC_1 C0 hP q_170 dX6_closest_57 ?_
      refine xg_H_0 C0 k0_2 hP q_31 dX6_closest_60 ?_
      refine lv_icmp_ge (tgt := 112) hx hb dX6_closest_63 (by decide) (fun c7 => ?_) (fun c7 => ?_)
      · have hf := kif_t c7 hf
        refine lv_iinc (v := (x5 + (1 : Int32))) (lv' := [(5, .int (x5 + (1 : Int32))), (0, .ref (a 0)), (1, .int p1), (2, .int x2), (3, .int x3), (4, .int x4), (6, .int x6)]) hx hb dX6_closest_112 hl (k := 5) rfl rfl (by decide) rfl (fun ls hl => ?_)
        refine lv_goto (tgt := 36) hx hb dX6_closest_115 (by decide) ?_
        exact hrec36 _ _ _ _ _ _ _ hf hP hS (lv_sub hl [1, 2, 3, 4, 5, 0] rfl)
      · have hf := kif_f c7 hf
        refine lv_aload_n hx hb dX6_closest_66 rfl (lv_at hl 0 rfl) ?_
        refine xg_HC_1 C0 hP q_170 dX6_closest_67 ?_
        refine lv_iload hx hb dX6_closest_70 (lv_at hl 5 rfl) ?_
        obtain ⟨r9, e8, hf⟩ := kb1_s hf
        refine kcallV (As := [.int x5]) (rest := []) C0 (cX0_netsOf_c hap k0_2 e8) q_290 kw_X0_netsOf (xv_H k0_2 C0.2 hP) hP hS ⟨Nat.le_of_ble_eq_true rfl, Nat.le_of_ble_eq_true rfl⟩ rfl hl.1 rfl (Nat.le_of_ble_eq_true rfl) dX6_closest_72 (fun H locs hP hS => ?_)
        refine lv_aload_n hx hb dX6_closest_75 rfl (lv_at hl 0 rfl) ?_
        refine xg_HC_1 C0 hP q_170 dX6_closest_76 ?_
        refine lv_iload hx hb dX6_closest_79 (lv_at hl 6 rfl) ?_
        obtain ⟨r11, e10, hf⟩ := kb1_s hf
        refine kcallV (As := [.int x6]) (rest := [.int r9]) C0 (cX0_netsOf_c hap k0_2 e10) q_290 kw_X0_netsOf (xv_H k0_2 C0.2 hP) hP hS ⟨Nat.le_of_ble_eq_true rfl, Nat.le_of_ble_eq_true rfl⟩ rfl hl.1 rfl (Nat.le_of_ble_eq_true rfl) dX6_closest_81 (fun H locs hP hS => ?_)
        refine lv_iand hx hb dX6_closest_84 ?_
        obtain ⟨r13, e12, hf⟩ := kb1_s hf
        refine kcallT (As := [.int (r9 &&& r11)]) (rest := []) C0 (cJ6_bitCount_0f7a4_c hap e12) q_459 kw_J6_bitCount_0f7a4 hP hS ⟨Nat.le_of_ble_eq_true rfl, Nat.le_of_ble_eq_true rfl⟩ rfl hl.1 rfl (Nat.le_of_ble_eq_true rfl) dX6_closest_85 (fun H locs hP hS => ?_)
        refine lv_istore (lv' := [(7, .int r13), (0, .ref (a 0)), (1, .int p1), (2, .int x2), (3, .int x3), (4, .int x4), (5, .int x5), (6, .int x6)]) hx hb dX6_closest_88 hl (by decide) rfl (fun ls hl => ?_)
        refine lv_iload hx hb dX6_closest_90 (lv_at hl 0 rfl) ?_
        refine lv_iload_n hx hb dX6_closest_92 rfl (lv_at hl 3 rfl) ?_
        refine lv_icmp_le (tgt := 106) hx hb dX6_closest_93 (by decide) (fun c14 => ?_) (fun c14 => ?_)
        · have hf := kif_t c14 hf
          exact hB106 _ hrec36 _ ih _ _ _ _ _ _ _ _ hf hP hS (lv_sub hl [1, 2, 3, 4, 5, 6, 7] rfl)
        · have hf := kif_f c14 hf
          refine lv_iload hx hb dX6_closest_96 (lv_at hl 0 rfl) ?_
          refine lv_istore_n (lv' := [(2, .int r13), (7, .int r13), (0, .ref (a 0)), (1, .int p1), (3, .int x3), (4, .int x4), (5, .int x5), (6, .int x6)]) hx hb dX6_closest_98 rfl hl (by decide) rfl (fun ls hl => ?_)
          refine lv_iload hx hb dX6_closest_99 (lv_at hl 6 rfl) ?_
          refine lv_istore_n (lv' := [(3, .int x5), (2, .int r13), (7, .int r13), (0, .ref (a 0)), (1, .int p1), (4, .int x4), (5, .int x5), (6, .int x6)]) hx hb dX6_closest_101 rfl hl (by decide) rfl (fun ls hl => ?_)
          refine lv_iload hx hb dX6_closest_102 (lv_at hl 7 rfl) ?_
          refine lv_istore (lv' := [(4, .int x6), (3, .int x5), (2, .int r13), (7, .int r13), (0, .ref (a 0)), (1, .int p1), (5, .int x5), (6, .int x6)]) hx hb dX6_closest_104 hl (by decide) rfl (fun ls hl => ?_)
          exact hB106 _ hrec36 _ ih _ _ _ _ _ _ _ _ hf hP hS (lv_sub hl [4, 5, 2, 1, 0, 6, 7] rfl)
  have hB36 : ∀ (n : Nat), ∀ (x2 : Int32) (x3 : Int32) (x4 : Int32) (x5 : Int32) (H : Heap) (locs : List Loc) (ls : Array Slot), fX6_closest_36 v ar p1 n x2 x3 x4 x5 = some r → va_P D vwCl (xW cI cS a v ar) H → va_S (kA a 29) s.heap H locs → lv_has ls 8 [(0, .ref (a 0)), (1, .int p1), (2, .int x2), (3, .int x3), (4, .int x4), (5, .int x5)] → kGo p l e 1 23 s m args below meth c D (xW cI cS a) (kA a 29) (some (.int r)) v ar H locs (F0 m 36 ls []) := by
    intro  n
    induction n with
    | zero =>
      intro x2 x3 x4 x5 H locs ls hf
      have hf : (none : Option Int32) = some r := hf
      cases hf
    | succ n ih =>
      intro x2 x3 x4 x5 H locs ls hf hP hS hl
      have hf : fX6_closest_36b v ar p1 (fX6_closest_36 v ar p1 n) x2 x3 x4 x5 = some r := hf
      unfold fX6_closest_36b at hf
      refine lv_iload hx hb dX6_closest_36 (lv_at hl 5 rfl) ?_
      refine lv_aload_n hx hb dX6_closest_38 rfl (lv_at hl 0 rfl) ?_
      refine xg_HC_1 C0 hP q_170 dX6_closest_39 ?_
      refine xg_H_0 C0 k0_2 hP q_31 dX6_closest_42 ?_
      refine lv_icmp_ge (tgt := 118) hx hb dX6_closest_45 (by decide) (fun c4 => ?_) (fun c4 => ?_)
      · have hf := kif_t c4 hf
        refine lv_iload_n hx hb dX6_closest_118 rfl (lv_at hl 1 rfl) ?_
        refine lv_if_ne (tgt := 124) hx hb dX6_closest_119 (by decide) (fun c5 => ?_) (fun c5 => ?_)
        · have hf := kif_f c5 hf
          refine lv_iload_n hx hb dX6_closest_124 rfl (lv_at hl 1 rfl) ?_
          refine lv_iconst (v := (1 : Int32)) hx hb dX6_closest_125 (by decide) ?_
          refine lv_icmp_ne (tgt := 133) hx hb dX6_closest_126 (by decide) (fun c6 => ?_) (fun c6 => ?_)
          · have hf := kif_f c6 hf
            refine lv_iload hx hb dX6_closest_133 (lv_at hl 4 rfl) ?_
            obtain rfl := Option.some.inj hf
            exact kret_i C0 hr hlk hP hS dX6_closest_135
          · have hf := kif_t c6 hf
            refine lv_iload_n hx hb dX6_closest_129 rfl (lv_at hl 3 rfl) ?_
            refine lv_goto (tgt := 135) hx hb dX6_closest_130 (by decide) ?_
            obtain rfl := Option.some.inj hf
            exact kret_i C0 hr hlk hP hS dX6_closest_135
        · have hf := kif_t c5 hf
          refine lv_iload_n hx hb dX6_closest_122 rfl (lv_at hl 2 rfl) ?_
          obtain rfl := Option.some.inj hf
          exact kret_i C0 hr hlk hP hS dX6_closest_123
      · have hf := kif_f c4 hf
        refine lv_iload hx hb dX6_closest_48 (lv_at hl 5 rfl) ?_
        refine lv_iconst (v := (1 : Int32)) hx hb dX6_closest_50 (by decide) ?_
        refine lv_iadd hx hb dX6_closest_51 ?_
        refine lv_istore (lv' := [(6, .int (x5 + (1 : Int32))), (0, .ref (a 0)), (1, .int p1), (2, .int x2), (3, .int x3), (4, .int x4), (5, .int x5)]) hx hb dX6_closest_52 hl (by decide) rfl (fun ls hl => ?_)
        exact hB54 _ ih _ _ _ _ _ _ _ _ _ hf hP hS (lv_sub hl [1, 2, 3, 4, 5, 6, 0] rfl)
  unfold fX6_closest at hf
  refine lv_aload_n hx hb dX6_closest_0 rfl (lv_at hl 0 rfl) ?_
  refine xg_HC_1 C0 hP q_170 dX6_closest_1 ?_
  refine xg_H_0 C0 k0_2 hP q_31 dX6_closest_4 ?_
  refine lv_iconst (v := (2 : Int32)) hx hb dX6_closest_7 (by decide) ?_
  refine lv_icmp_ge (tgt := 14) hx hb dX6_closest_8 (by decide) (fun c1 => ?_) (fun c1 => ?_)
  · have hf := kif_t c1 hf
    refine lv_iload_n hx hb dX6_closest_14 rfl (lv_at hl 1 rfl) ?_
    refine lv_if_lt (tgt := 23) hx hb dX6_closest_15 (by decide) (fun c2 => ?_) (fun c2 => ?_)
    · have hf := kif_t c2 hf
      refine lv_bipush (v := (-2 : Int32)) hx hb dX6_closest_23 (by decide) ?_
      obtain rfl := Option.some.inj hf
      exact kret_i C0 hr hlk hP hS dX6_closest_25
    · have hf := kif_f c2 hf
      refine lv_iload_n hx hb dX6_closest_18 rfl (lv_at hl 1 rfl) ?_
      refine lv_iconst (v := (2 : Int32)) hx hb dX6_closest_19 (by decide) ?_
      refine lv_icmp_le (tgt := 26) hx hb dX6_closest_20 (by decide) (fun c3 => ?_) (fun c3 => ?_)
      · have hf := kif_t c3 hf
        refine lv_iconst (v := (-1 : Int32)) hx hb dX6_closest_26 (by decide) ?_
        refine lv_istore_n (lv' := [(2, .int (-1 : Int32)), (0, .ref (a 0)), (1, .int p1)]) hx hb dX6_closest_27 rfl hl (by decide) rfl (fun ls hl => ?_)
        refine lv_iconst (v := (0 : Int32)) hx hb dX6_closest_28 (by decide) ?_
        refine lv_istore_n (lv' := [(3, .int (0 : Int32)), (2, .int (-1 : Int32)), (0, .ref (a 0)), (1, .int p1)]) hx hb dX6_closest_29 rfl hl (by decide) rfl (fun ls hl => ?_)
        refine lv_iconst (v := (0 : Int32)) hx hb dX6_closest_30 (by decide) ?_
        refine lv_istore (lv' := [(4, .int (0 : Int32)), (3, .int (0 : Int32)), (2, .int (-1 : Int32)), (0, .ref (a 0)), (1, .int p1)]) hx hb dX6_closest_31 hl (by decide) rfl (fun ls hl => ?_)
        refine lv_iconst (v := (0 : Int32)) hx hb dX6_closest_33 (by decide) ?_
        refine lv_istore (lv' := [(5, .int (0 : Int32)), (4, .int (0 : Int32)), (3, .int (0 : Int32)), (2, .int (-1 : Int32)), (0, .ref (a 0)), (1, .int p1)]) hx hb dX6_closest_34 hl (by decide) rfl (fun ls hl => ?_)
        exact hB36 _ _ _ _ _ _ _ _ hf hP hS (lv_sub hl [4, 5, 3, 2, 1, 0] rfl)
      · have hf := kif_f c3 hf
        refine lv_bipush (v := (-2 : Int32)) hx hb dX6_closest_23 (by decide) ?_
        obtain rfl := Option.some.inj hf
        exact kret_i C0 hr hlk hP hS dX6_closest_25
  · have hf := kif_f c1 hf
    refine lv_bipush (v := (-3 : Int32)) hx hb dX6_closest_11 (by decide) ?_
    obtain rfl := Option.some.inj hf
    exact kret_i C0 hr hlk hP hS dX6_closest_13
set_option maxHeartbeats 4000000 in
set_option maxRecDepth 100000 in
theorem cX6_isKind_c {l : Launch} {D : va_G} {cI cS : ClassId} {a : Nat → Nat} (hap : kAp a 29) {v : kV} {ar : kR} {p0 : Int32} {r : Bool} (hf : fX6_isKind p0 = some r) : kMet l D cI cS (xW cI cS a) (kA a 29) yX6_isKind cX6_isKind 1 (some .boolean) 0 0 [.int p0] v ar (some (.int (bI r))) v ar := by
  refine kstart (by decide) (Nat.le_of_ble_eq_true rfl) ?_
  intro p e s m args below meth c ls C0 hr hlk hl hP hS
  have C0 : kC p s m c args cX6_isKind 1 RX6 D cI cS := C0
  have hx := C0.1.1
  have hb := C0.1.2.1
  have hl : lv_has ls 1 [(0, .int p0)] := hl
  unfold fX6_isKind at hf
  refine lv_iload_n hx hb dX6_isKind_0 rfl (lv_at hl 0 rfl) ?_
  refine lv_if_lt (tgt := 13) hx hb dX6_isKind_1 (by decide) (fun c1 => ?_) (fun c1 => ?_)
  · have hf := kif_t c1 hf
    refine lv_iconst (v := (0 : Int32)) hx hb dX6_isKind_13 (by decide) ?_
    obtain rfl := Option.some.inj hf
    exact kret_z false rfl C0 hr hlk hP hS dX6_isKind_14
  · have hf := kif_f c1 hf
    refine lv_iload_n hx hb dX6_isKind_4 rfl (lv_at hl 0 rfl) ?_
    refine lv_iconst (v := (2 : Int32)) hx hb dX6_isKind_5 (by decide) ?_
    refine lv_icmp_gt (tgt := 13) hx hb dX6_isKind_6 (by decide) (fun c2 => ?_) (fun c2 => ?_)
    · have hf := kif_t c2 hf
      refine lv_iconst (v := (0 : Int32)) hx hb dX6_isKind_13 (by decide) ?_
      obtain rfl := Option.some.inj hf
      exact kret_z false rfl C0 hr hlk hP hS dX6_isKind_14
    · have hf := kif_f c2 hf
      refine lv_iconst (v := (1 : Int32)) hx hb dX6_isKind_9 (by decide) ?_
      refine lv_goto (tgt := 14) hx hb dX6_isKind_10 (by decide) ?_
      obtain rfl := Option.some.inj hf
      exact kret_z true rfl C0 hr hlk hP hS dX6_isKind_14
set_option maxHeartbeats 4000000 in
set_option maxRecDepth 100000 in
theorem cJ7_fill_53178_c {l : Launch} {D : va_G} {cI cS : ClassId} {a : Nat → Nat} (hap : kAp a 29) {k : Nat} (hk : k < 17) {v : kV} {ar : kR} {p1 : Int32} {v2 : kV} {ar2 : kR} (hf : fJ7_fill_53178 k v ar p1 = some (v2, ar2)) : kMet l D cI cS (xW cI cS a) (kA a 29) yJ7_fill_53178 cJ7_fill_53178 4 none 0 0 [.ref (a (12+(k))), .int p1] v ar none v2 ar2 := by
  refine kstart (by decide) (Nat.le_of_ble_eq_true rfl) ?_
  intro p e s m args below meth c ls C0 hr hlk hl hP hS
  have C0 : kC p s m c args cJ7_fill_53178 4 RJ7 D cI cS := C0
  have hx := C0.1.1
  have hb := C0.1.2.1
  have hl : lv_has ls 4 [(0, .ref (a (12+(k)))), (1, .int p1)] := hl
  have hB5 : ∀ (n : Nat), ∀ (x2 : Int32) (x3 : Int32) (v : kV) (ar : kR) (H : Heap) (locs : List Loc) (ls : Array Slot), fJ7_fill_53178_5 k p1 n x2 x3 v ar = some (v2, ar2) → va_P D vwCl (xW cI cS a v ar) H → va_S (kA a 29) s.heap H locs → lv_has ls 4 [(0, .ref (a (12+(k)))), (1, .int p1), (2, .int x2), (3, .int x3)] → kGo p l e 0 0 s m args below meth c D (xW cI cS a) (kA a 29) none v2 ar2 H locs (F0 m 5 ls []) := by
    intro  n
    induction n with
    | zero =>
      intro x2 x3 v ar H locs ls hf
      have hf : (none : Option (kV × kR)) = some (v2, ar2) := hf
      cases hf
    | succ n ih =>
      intro x2 x3 v ar H locs ls hf hP hS hl
      have hf : fJ7_fill_53178_5b k p1 (fJ7_fill_53178_5 k p1 n) x2 x3 v ar = some (v2, ar2) := hf
      unfold fJ7_fill_53178_5b at hf
      refine lv_iload_n hx hb dJ7_fill_53178_5 rfl (lv_at hl 2 rfl) ?_
      refine lv_iload_n hx hb dJ7_fill_53178_6 rfl (lv_at hl 3 rfl) ?_
      refine lv_icmp_ge (tgt := 20) hx hb dJ7_fill_53178_7 (by decide) (fun c1 => ?_) (fun c1 => ?_)
      · have hf := kif_t c1 hf
        obtain ⟨rfl, rfl⟩ := kinj2 hf
        exact kret_v C0 hr hlk hP hS dJ7_fill_53178_20
      · have hf := kif_f c1 hf
        refine lv_aload_n hx hb dJ7_fill_53178_10 rfl (lv_at hl 0 rfl) ?_
        refine lv_iload_n hx hb dJ7_fill_53178_11 rfl (lv_at hl 2 rfl) ?_
        refine lv_iload_n hx hb dJ7_fill_53178_12 rfl (lv_at hl 1 rfl) ?_
        obtain ⟨g2, hf⟩ := kgd hf
        refine xt_any C0 hap hk hP hS g2 dJ7_fill_53178_13 (fun H locs hP hS => ?_)
        refine lv_iinc (v := (x2 + (1 : Int32))) (lv' := [(2, .int (x2 + (1 : Int32))), (0, .ref (a (12+(k)))), (1, .int p1), (3, .int x3)]) hx hb dJ7_fill_53178_14 hl (k := 2) rfl rfl (by decide) rfl (fun ls hl => ?_)
        refine lv_goto (tgt := 5) hx hb dJ7_fill_53178_17 (by decide) ?_
        exact ih _ _ _ _ _ _ _ hf hP hS (lv_sub hl [1, 2, 0, 3] rfl)
  unfold fJ7_fill_53178 at hf
  refine lv_iconst (v := (0 : Int32)) hx hb dJ7_fill_53178_0 (by decide) ?_
  refine lv_istore_n (lv' := [(2, .int (0 : Int32)), (0, .ref (a (12+(k)))), (1, .int p1)]) hx hb dJ7_fill_53178_1 rfl hl (by decide) rfl (fun ls hl => ?_)
  refine lv_aload_n hx hb dJ7_fill_53178_2 rfl (lv_at hl 1 rfl) ?_
  refine xn_any C0 hk hP dJ7_fill_53178_3 ?_
  refine lv_istore_n (lv' := [(3, .int (Int32.ofNat (xLen k))), (2, .int (0 : Int32)), (0, .ref (a (12+(k)))), (1, .int p1)]) hx hb dJ7_fill_53178_4 rfl hl (by decide) rfl (fun ls hl => ?_)
  exact hB5 _ _ _ _ _ _ _ _ hf hP hS (lv_sub hl [2, 3, 1, 0] rfl)
set_option maxHeartbeats 4000000 in
set_option maxRecDepth 100000 in
theorem cX2_renew_c {l : Launch} {D : va_G} {cI cS : ClassId} {a : Nat → Nat} (hap : kAp a 29) {v : kV} {ar : kR} {p1 : Int32} {p2 : Int32} {v2 : kV} {ar2 : kR} (hf : fX2_renew v ar p1 p2 = some (v2, ar2)) : kMet l D cI cS (xW cI cS a) (kA a 29) yX2_renew cX2_renew 3 none 1 23 [.ref (a 6), .int p1, .int p2] v ar none v2 ar2 := by
  refine kstart (by decide) (Nat.le_of_ble_eq_true rfl) ?_
  intro p e s m args below meth c ls C0 hr hlk hl hP hS
  have C0 : kC p s m c args cX2_renew 3 RX2 D cI cS := C0
  have hx := C0.1.1
  have hb := C0.1.2.1
  have hl : lv_has ls 3 [(0, .ref (a 6)), (1, .int p1), (2, .int p2)] := hl
  unfold fX2_renew at hf
  refine lv_aload_n hx hb dX2_renew_0 rfl (lv_at hl 0 rfl) ?_
  refine lv_iconst (v := (1 : Int32)) hx hb dX2_renew_1 (by decide) ?_
  refine xp_R_0 C0 hap rfl rfl hP hS q_116 dX2_renew_2 (fun H locs hP hS => ?_)
  refine lv_aload_n hx hb dX2_renew_5 rfl (lv_at hl 0 rfl) ?_
  refine lv_iload_n hx hb dX2_renew_6 rfl (lv_at hl 1 rfl) ?_
  refine xp_R_1 C0 hap hP hS q_118 dX2_renew_7 (fun H locs hP hS => ?_)
  refine lv_aload_n hx hb dX2_renew_10 rfl (lv_at hl 0 rfl) ?_
  refine lv_iload_n hx hb dX2_renew_11 rfl (lv_at hl 2 rfl) ?_
  refine xp_R_2 C0 hap hP hS q_120 dX2_renew_12 (fun H locs hP hS => ?_)
  refine lv_aload_n hx hb dX2_renew_15 rfl (lv_at hl 0 rfl) ?_
  refine xg_R_3 C0 hP q_122 dX2_renew_16 ?_
  refine lv_bipush (v := (-9 : Int32)) hx hb dX2_renew_19 (by decide) ?_
  obtain ⟨v3, ar4, e1, hf⟩ := kb2_s hf
  refine kcallT (As := [.ref (a (12+(10))), .int (-9 : Int32)]) (rest := []) C0 (cJ7_fill_53178_c hap (by decide) e1) q_471 kw_J7_fill_53178 hP hS ⟨Nat.le_of_ble_eq_true rfl, Nat.le_of_ble_eq_true rfl⟩ rfl hl.1 rfl (Nat.le_of_ble_eq_true rfl) dX2_renew_21 (fun H locs hP hS => ?_)
  obtain ⟨rfl, rfl⟩ := kinj2 hf
  exact kret_v C0 hr hlk hP hS dX2_renew_24
set_option maxHeartbeats 4000000 in
set_option maxRecDepth 100000 in
theorem cX6_rack_c {l : Launch} {D : va_G} {cI cS : ClassId} {a : Nat → Nat} (hap : kAp a 29) {v : kV} {ar : kR} {p1 : Int32} {p2 : Int32} {r : Int32} {v2 : kV} {ar2 : kR} (hf : fX6_rack v ar p1 p2 = some (r, v2, ar2)) : kMet l D cI cS (xW cI cS a) (kA a 29) yX6_rack cX6_rack 3 (some .int) 2 45 [.ref (a 0), .int p1, .int p2] v ar (some (.int r)) v2 ar2 := by
  refine kstart (by decide) (Nat.le_of_ble_eq_true rfl) ?_
  intro p e s m args below meth c ls C0 hr hlk hl hP hS
  have C0 : kC p s m c args cX6_rack 3 RX6 D cI cS := C0
  have hx := C0.1.1
  have hb := C0.1.2.1
  have hl : lv_has ls 3 [(0, .ref (a 0)), (1, .int p1), (2, .int p2)] := hl
  have hB27 : ∀ (v : kV) (ar : kR) (H : Heap) (locs : List Loc) (ls : Array Slot), fX6_rack_27 p1 p2 v ar = some (r, v2, ar2) → va_P D vwCl (xW cI cS a v ar) H → va_S (kA a 29) s.heap H locs → lv_has ls 3 [(0, .ref (a 0))] → kGo p l e 2 45 s m args below meth c D (xW cI cS a) (kA a 29) (some (.int r)) v2 ar2 H locs (F0 m 27 ls []) := by
    intro  v ar H locs ls hf hP hS hl
    unfold fX6_rack_27 at hf
    refine lv_aload_n hx hb dX6_rack_27 rfl (lv_at hl 0 rfl) ?_
    refine lv_bipush (v := (-2 : Int32)) hx hb dX6_rack_28 (by decide) ?_
    obtain ⟨r8, v9, ar10, e7, hf⟩ := kb3_s hf
    refine kcallV (As := [.int (-2 : Int32)]) (rest := []) C0 (cX6_refused_c hap e7) q_204 kw_X6_refused (xv_HC C0.2 hP) hP hS ⟨Nat.le_of_ble_eq_true rfl, Nat.le_of_ble_eq_true rfl⟩ rfl hl.1 rfl (Nat.le_of_ble_eq_true rfl) dX6_rack_30 (fun H locs hP hS => ?_)
    obtain ⟨rfl, rfl, rfl⟩ := kinj3 hf
    exact kret_i C0 hr hlk hP hS dX6_rack_33
  unfold fX6_rack at hf
  refine lv_aload_n hx hb dX6_rack_0 rfl (lv_at hl 0 rfl) ?_
  obtain ⟨r2, e1, hf⟩ := kb1_s hf
  refine kcallV (As := []) (rest := []) C0 (cX6_noCircuit_c hap e1) q_330 kw_X6_noCircuit (xv_HC C0.2 hP) hP hS ⟨Nat.le_of_ble_eq_true rfl, Nat.le_of_ble_eq_true rfl⟩ rfl hl.1 rfl (Nat.le_of_ble_eq_true rfl) dX6_rack_1 (fun H locs hP hS => ?_)
  refine lv_if_eq (tgt := 14) hx hb dX6_rack_4 (by decide) (fun c3 => ?_) (fun c3 => ?_)
  · have hf := kif_t c3 hf
    refine lv_iload_n hx hb dX6_rack_14 rfl (lv_at hl 1 rfl) ?_
    obtain ⟨r5, e4, hf⟩ := kb1_s hf
    refine kcallT (As := [.int p1]) (rest := []) C0 (cX6_isKind_c hap e4) q_464 kw_X6_isKind hP hS ⟨Nat.le_of_ble_eq_true rfl, Nat.le_of_ble_eq_true rfl⟩ rfl hl.1 rfl (Nat.le_of_ble_eq_true rfl) dX6_rack_15 (fun H locs hP hS => ?_)
    refine lv_if_eq (tgt := 27) hx hb dX6_rack_18 (by decide) (fun c6 => ?_) (fun c6 => ?_)
    · have hf := kif_t c6 hf
      exact hB27 _ _ _ _ _ hf hP hS (lv_sub hl [0] rfl)
    · have hf := kif_f c6 hf
      refine lv_iload_n hx hb dX6_rack_21 rfl (lv_at hl 2 rfl) ?_
      refine lv_bipush (v := (9 : Int32)) hx hb dX6_rack_22 (by decide) ?_
      refine lv_icmp_le (tgt := 34) hx hb dX6_rack_24 (by decide) (fun c11 => ?_) (fun c11 => ?_)
      · have hf := kif_t c11 hf
        refine lv_iload_n hx hb dX6_rack_34 rfl (lv_at hl 2 rfl) ?_
        refine lv_if_ge (tgt := 44) hx hb dX6_rack_35 (by decide) (fun c12 => ?_) (fun c12 => ?_)
        · have hf := kif_t c12 hf
          refine lv_aload_n hx hb dX6_rack_44 rfl (lv_at hl 0 rfl) ?_
          refine lv_iconst (v := (0 : Int32)) hx hb dX6_rack_45 (by decide) ?_
          refine xp_HC_8 C0 hap hP hS q_177 dX6_rack_46 (fun H locs hP hS => ?_)
          refine lv_aload_n hx hb dX6_rack_49 rfl (lv_at hl 0 rfl) ?_
          refine xg_HC_5 C0 hP q_174 dX6_rack_50 ?_
          refine lv_iload_n hx hb dX6_rack_53 rfl (lv_at hl 1 rfl) ?_
          refine lv_iload_n hx hb dX6_rack_54 rfl (lv_at hl 2 rfl) ?_
          obtain ⟨v15, ar16, e13, hf⟩ := kb2_s hf
          refine kcallV (As := [.int p1, .int p2]) (rest := []) C0 (cX2_renew_c hap e13) q_467 kw_X2_renew (xv_R C0.2 hP) hP hS ⟨Nat.le_of_ble_eq_true rfl, Nat.le_of_ble_eq_true rfl⟩ rfl hl.1 rfl (Nat.le_of_ble_eq_true rfl) dX6_rack_55 (fun H locs hP hS => ?_)
          refine lv_iload_n hx hb dX6_rack_58 rfl (lv_at hl 2 rfl) ?_
          obtain ⟨rfl, rfl, rfl⟩ := kinj3 hf
          exact kret_i C0 hr hlk hP hS dX6_rack_59
        · have hf := kif_f c12 hf
          refine lv_aload_n hx hb dX6_rack_38 rfl (lv_at hl 0 rfl) ?_
          refine lv_iconst (v := (4 : Int32)) hx hb dX6_rack_39 (by decide) ?_
          obtain ⟨r18, v19, ar20, e17, hf⟩ := kb3_s hf
          refine kcallV (As := [.int (4 : Int32)]) (rest := []) C0 (cX6_failed_c hap e17) q_219 kw_X6_failed (xv_HC C0.2 hP) hP hS ⟨Nat.le_of_ble_eq_true rfl, Nat.le_of_ble_eq_true rfl⟩ rfl hl.1 rfl (Nat.le_of_ble_eq_true rfl) dX6_rack_40 (fun H locs hP hS => ?_)
          obtain ⟨rfl, rfl, rfl⟩ := kinj3 hf
          exact kret_i C0 hr hlk hP hS dX6_rack_43
      · have hf := kif_f c11 hf
        exact hB27 _ _ _ _ _ hf hP hS (lv_sub hl [0] rfl)
  · have hf := kif_f c3 hf
    refine lv_aload_n hx hb dX6_rack_7 rfl (lv_at hl 0 rfl) ?_
    refine lv_bipush (v := (-3 : Int32)) hx hb dX6_rack_8 (by decide) ?_
    obtain ⟨r22, v23, ar24, e21, hf⟩ := kb3_s hf
    refine kcallV (As := [.int (-3 : Int32)]) (rest := []) C0 (cX6_refused_c hap e21) q_204 kw_X6_refused (xv_HC C0.2 hP) hP hS ⟨Nat.le_of_ble_eq_true rfl, Nat.le_of_ble_eq_true rfl⟩ rfl hl.1 rfl (Nat.le_of_ble_eq_true rfl) dX6_rack_10 (fun H locs hP hS => ?_)
    obtain ⟨rfl, rfl, rfl⟩ := kinj3 hf
    exact kret_i C0 hr hlk hP hS dX6_rack_13
set_option maxHeartbeats 4000000 in
set_option maxRecDepth 100000 in
theorem cX2_faultAt_c {l : Launch} {D : va_G} {cI cS : ClassId} {a : Nat → Nat} (hap : kAp a 29) {v : kV} {ar : kR} {p1 : Int32} {r : Int32} (hf : fX2_faultAt v ar p1 = some r) : kMet l D cI cS (xW cI cS a) (kA a 29) yX2_faultAt cX2_faultAt 2 (some .int) 0 0 [.ref (a 6), .int p1] v ar (some (.int r)) v ar := by
  refine kstart (by decide) (Nat.le_of_ble_eq_true rfl) ?_
  intro p e s m args below meth c ls C0 hr hlk hl hP hS
  have C0 : kC p s m c args cX2_faultAt 2 RX2 D cI cS := C0
  have hx := C0.1.1
  have hb := C0.1.2.1
  have hl : lv_has ls 2 [(0, .ref (a 6)), (1, .int p1)] := hl
  unfold fX2_faultAt at hf
  refine lv_aload_n hx hb dX2_faultAt_0 rfl (lv_at hl 0 rfl) ?_
  refine xg_R_0 C0 hP q_116 dX2_faultAt_1 ?_
  refine lv_if_ne (tgt := 9) hx hb dX2_faultAt_4 (by decide) (fun c1 => ?_) (fun c1 => ?_)
  · have hf := kif_f c1 hf
    refine lv_iload_n hx hb dX2_faultAt_9 rfl (lv_at hl 1 rfl) ?_
    refine lv_if_lt (tgt := 25) hx hb dX2_faultAt_10 (by decide) (fun c2 => ?_) (fun c2 => ?_)
    · have hf := kif_t c2 hf
      refine lv_iconst (v := (3 : Int32)) hx hb dX2_faultAt_25 (by decide) ?_
      obtain rfl := Option.some.inj hf
      exact kret_i C0 hr hlk hP hS dX2_faultAt_26
    · have hf := kif_f c2 hf
      refine lv_iload_n hx hb dX2_faultAt_13 rfl (lv_at hl 1 rfl) ?_
      refine lv_aload_n hx hb dX2_faultAt_14 rfl (lv_at hl 0 rfl) ?_
      refine xg_R_2 C0 hP q_120 dX2_faultAt_15 ?_
      refine lv_icmp_ge (tgt := 25) hx hb dX2_faultAt_18 (by decide) (fun c3 => ?_) (fun c3 => ?_)
      · have hf := kif_t c3 hf
        refine lv_iconst (v := (3 : Int32)) hx hb dX2_faultAt_25 (by decide) ?_
        obtain rfl := Option.some.inj hf
        exact kret_i C0 hr hlk hP hS dX2_faultAt_26
      · have hf := kif_f c3 hf
        refine lv_iconst (v := (0 : Int32)) hx hb dX2_faultAt_21 (by decide) ?_
        refine lv_goto (tgt := 26) hx hb dX2_faultAt_22 (by decide) ?_
        obtain rfl := Option.some.inj hf
        exact kret_i C0 hr hlk hP hS dX2_faultAt_26
  · have hf := kif_t c1 hf
    refine lv_iconst (v := (1 : Int32)) hx hb dX2_faultAt_7 (by decide) ?_
    obtain rfl := Option.some.inj hf
    exact kret_i C0 hr hlk hP hS dX2_faultAt_8
set_option maxHeartbeats 4000000 in
set_option maxRecDepth 100000 in
theorem cX6_isOfKind_c {l : Launch} {D : va_G} {cI cS : ClassId} {a : Nat → Nat} (hap : kAp a 29) {v : kV} {ar : kR} {p1 : Int32} {p2 : Int32} {r : Bool} (hf : fX6_isOfKind v ar p1 p2 = some r) : kMet l D cI cS (xW cI cS a) (kA a 29) yX6_isOfKind cX6_isOfKind 3 (some .boolean) 0 0 [.ref (a 0), .int p1, .int p2] v ar (some (.int (bI r))) v ar := by
  refine kstart (by decide) (Nat.le_of_ble_eq_true rfl) ?_
  intro p e s m args below meth c ls C0 hr hlk hl hP hS
  have C0 : kC p s m c args cX6_isOfKind 3 RX6 D cI cS := C0
  have hx := C0.1.1
  have hb := C0.1.2.1
  have hl : lv_has ls 3 [(0, .ref (a 0)), (1, .int p1), (2, .int p2)] := hl
  unfold fX6_isOfKind at hf
  refine lv_aload_n hx hb dX6_isOfKind_0 rfl (lv_at hl 0 rfl) ?_
  refine xg_HC_1 C0 hP q_170 dX6_isOfKind_1 ?_
  refine xg_H_5 C0 k0_2 hP q_46 dX6_isOfKind_4 ?_
  refine lv_iload_n hx hb dX6_isOfKind_7 rfl (lv_at hl 1 rfl) ?_
  obtain ⟨g1, hf⟩ := kgd hf
  refine xl_kind C0 k0_2 hP g1 dX6_isOfKind_8 ?_
  refine lv_iload_n hx hb dX6_isOfKind_9 rfl (lv_at hl 2 rfl) ?_
  refine lv_icmp_lt (tgt := 17) hx hb dX6_isOfKind_10 (by decide) (fun c2 => ?_) (fun c2 => ?_)
  · have hf := kif_t c2 hf
    refine lv_iconst (v := (0 : Int32)) hx hb dX6_isOfKind_17 (by decide) ?_
    obtain rfl := Option.some.inj hf
    exact kret_z false rfl C0 hr hlk hP hS dX6_isOfKind_18
  · have hf := kif_f c2 hf
    refine lv_iconst (v := (1 : Int32)) hx hb dX6_isOfKind_13 (by decide) ?_
    refine lv_goto (tgt := 18) hx hb dX6_isOfKind_14 (by decide) ?_
    obtain rfl := Option.some.inj hf
    exact kret_z true rfl C0 hr hlk hP hS dX6_isOfKind_18
set_option maxHeartbeats 4000000 in
set_option maxRecDepth 100000 in
theorem cX6_stow_c {l : Launch} {D : va_G} {cI cS : ClassId} {a : Nat → Nat} (hap : kAp a 29) {v : kV} {ar : kR} {p1 : Int32} {p2 : Int32} {r : Int32} {v2 : kV} {ar2 : kR} (hf : fX6_stow v ar p1 p2 = some (r, v2, ar2)) : kMet l D cI cS (xW cI cS a) (kA a 29) yX6_stow cX6_stow 4 (some .int) 1 22 [.ref (a 0), .int p1, .int p2] v ar (some (.int r)) v2 ar2 := by
  refine kstart (by decide) (Nat.le_of_ble_eq_true rfl) ?_
  intro p e s m args below meth c ls C0 hr hlk hl hP hS
  have C0 : kC p s m c args cX6_stow 4 RX6 D cI cS := C0
  have hx := C0.1.1
  have hb := C0.1.2.1
  have hl : lv_has ls 4 [(0, .ref (a 0)), (1, .int p1), (2, .int p2)] := hl
  have hB44 : ∀ (x3 : Int32) (v : kV) (ar : kR) (H : Heap) (locs : List Loc) (ls : Array Slot), fX6_stow_44 p1 p2 x3 v ar = some (r, v2, ar2) → va_P D vwCl (xW cI cS a v ar) H → va_S (kA a 29) s.heap H locs → lv_has ls 4 [(0, .ref (a 0)), (1, .int p1), (2, .int p2), (3, .int x3)] → kGo p l e 1 22 s m args below meth c D (xW cI cS a) (kA a 29) (some (.int r)) v2 ar2 H locs (F0 m 44 ls []) := by
    intro  x3 v ar H locs ls hf hP hS hl
    unfold fX6_stow_44 at hf
    refine lv_iload_n hx hb dX6_stow_44 rfl (lv_at hl 3 rfl) ?_
    refine lv_if_eq (tgt := 54) hx hb dX6_stow_45 (by decide) (fun c7 => ?_) (fun c7 => ?_)
    · have hf := kif_t c7 hf
      refine lv_aload_n hx hb dX6_stow_54 rfl (lv_at hl 0 rfl) ?_
      refine lv_iconst (v := (0 : Int32)) hx hb dX6_stow_55 (by decide) ?_
      refine xp_HC_8 C0 hap hP hS q_177 dX6_stow_56 (fun H locs hP hS => ?_)
      refine lv_aload_n hx hb dX6_stow_59 rfl (lv_at hl 0 rfl) ?_
      refine xg_HC_5 C0 hP q_174 dX6_stow_60 ?_
      refine xg_R_3 C0 hP q_123 dX6_stow_63 ?_
      refine lv_iload_n hx hb dX6_stow_66 rfl (lv_at hl 1 rfl) ?_
      refine lv_iload_n hx hb dX6_stow_67 rfl (lv_at hl 2 rfl) ?_
      obtain ⟨g8, hf⟩ := kgd hf
      refine xt_held C0 hap hP hS g8 dX6_stow_68 (fun H locs hP hS => ?_)
      refine lv_iconst (v := (1 : Int32)) hx hb dX6_stow_69 (by decide) ?_
      obtain ⟨rfl, rfl, rfl⟩ := kinj3 hf
      exact kret_i C0 hr hlk hP hS dX6_stow_70
    · have hf := kif_f c7 hf
      refine lv_aload_n hx hb dX6_stow_48 rfl (lv_at hl 0 rfl) ?_
      refine lv_iload_n hx hb dX6_stow_49 rfl (lv_at hl 3 rfl) ?_
      obtain ⟨r10, v11, ar12, e9, hf⟩ := kb3_s hf
      refine kcallV (As := [.int x3]) (rest := []) C0 (cX6_failed_c hap e9) q_219 kw_X6_failed (xv_HC C0.2 hP) hP hS ⟨Nat.le_of_ble_eq_true rfl, Nat.le_of_ble_eq_true rfl⟩ rfl hl.1 rfl (Nat.le_of_ble_eq_true rfl) dX6_stow_50 (fun H locs hP hS => ?_)
      obtain ⟨rfl, rfl, rfl⟩ := kinj3 hf
      exact kret_i C0 hr hlk hP hS dX6_stow_53
  unfold fX6_stow at hf
  refine lv_aload_n hx hb dX6_stow_0 rfl (lv_at hl 0 rfl) ?_
  refine lv_iload_n hx hb dX6_stow_1 rfl (lv_at hl 2 rfl) ?_
  obtain ⟨r2, e1, hf⟩ := kb1_s hf
  refine kcallV (As := [.int p2]) (rest := []) C0 (cX6_isCell_c hap e1) q_278 kw_X6_isCell (xv_HC C0.2 hP) hP hS ⟨Nat.le_of_ble_eq_true rfl, Nat.le_of_ble_eq_true rfl⟩ rfl hl.1 rfl (Nat.le_of_ble_eq_true rfl) dX6_stow_2 (fun H locs hP hS => ?_)
  refine lv_if_ne (tgt := 14) hx hb dX6_stow_5 (by decide) (fun c3 => ?_) (fun c3 => ?_)
  · have hf := kif_f c3 hf
    refine lv_aload_n hx hb dX6_stow_14 rfl (lv_at hl 0 rfl) ?_
    refine xg_HC_5 C0 hP q_174 dX6_stow_15 ?_
    refine lv_iload_n hx hb dX6_stow_18 rfl (lv_at hl 1 rfl) ?_
    obtain ⟨r5, e4, hf⟩ := kb1_s hf
    refine kcallV (As := [.int p1]) (rest := []) C0 (cX2_faultAt_c hap e4) q_478 kw_X2_faultAt (xv_R C0.2 hP) hP hS ⟨Nat.le_of_ble_eq_true rfl, Nat.le_of_ble_eq_true rfl⟩ rfl hl.1 rfl (Nat.le_of_ble_eq_true rfl) dX6_stow_19 (fun H locs hP hS => ?_)
    refine lv_istore_n (lv' := [(3, .int r5), (0, .ref (a 0)), (1, .int p1), (2, .int p2)]) hx hb dX6_stow_22 rfl hl (by decide) rfl (fun ls hl => ?_)
    refine lv_iload_n hx hb dX6_stow_23 rfl (lv_at hl 0 rfl) ?_
    refine lv_if_ne (tgt := 44) hx hb dX6_stow_24 (by decide) (fun c6 => ?_) (fun c6 => ?_)
    · have hf := kif_f c6 hf
      exact hB44 _ _ _ _ _ _ hf hP hS (lv_sub hl [1, 2, 3, 0] rfl)
    · have hf := kif_t c6 hf
      refine lv_aload_n hx hb dX6_stow_27 rfl (lv_at hl 1 rfl) ?_
      refine lv_iload_n hx hb dX6_stow_28 rfl (lv_at hl 3 rfl) ?_
      refine lv_aload_n hx hb dX6_stow_29 rfl (lv_at hl 1 rfl) ?_
      refine xg_HC_5 C0 hP q_174 dX6_stow_30 ?_
      refine xg_R_1 C0 hP q_119 dX6_stow_33 ?_
      obtain ⟨r14, e13, hf⟩ := kb1_s hf
      refine kcallV (As := [.int p2, .int (v (17))]) (rest := []) C0 (cX6_isOfKind_c hap e13) q_482 kw_X6_isOfKind (xv_HC C0.2 hP) hP hS ⟨Nat.le_of_ble_eq_true rfl, Nat.le_of_ble_eq_true rfl⟩ rfl hl.1 rfl (Nat.le_of_ble_eq_true rfl) dX6_stow_36 (fun H locs hP hS => ?_)
      refine lv_if_ne (tgt := 44) hx hb dX6_stow_39 (by decide) (fun c15 => ?_) (fun c15 => ?_)
      · have hf := kif_f c15 hf
        exact hB44 _ _ _ _ _ _ hf hP hS (lv_sub hl [1, 2, 3, 0] rfl)
      · have hf := kif_t c15 hf
        refine lv_iconst (v := (5 : Int32)) hx hb dX6_stow_42 (by decide) ?_
        refine lv_istore_n (lv' := [(3, .int (5 : Int32)), (0, .ref (a 0)), (1, .int p1), (2, .int p2)]) hx hb dX6_stow_43 rfl hl (by decide) rfl (fun ls hl => ?_)
        exact hB44 _ _ _ _ _ _ hf hP hS (lv_sub hl [1, 2, 3, 0] rfl)
  · have hf := kif_t c3 hf
    refine lv_aload_n hx hb dX6_stow_8 rfl (lv_at hl 0 rfl) ?_
    refine lv_iconst (v := (-1 : Int32)) hx hb dX6_stow_9 (by decide) ?_
    obtain ⟨r17, v18, ar19, e16, hf⟩ := kb3_s hf
    refine kcallV (As := [.int (-1 : Int32)]) (rest := []) C0 (cX6_refused_c hap e16) q_204 kw_X6_refused (xv_HC C0.2 hP) hP hS ⟨Nat.le_of_ble_eq_true rfl, Nat.le_of_ble_eq_true rfl⟩ rfl hl.1 rfl (Nat.le_of_ble_eq_true rfl) dX6_stow_10 (fun H locs hP hS => ?_)
    obtain ⟨rfl, rfl, rfl⟩ := kinj3 hf
    exact kret_i C0 hr hlk hP hS dX6_stow_13
