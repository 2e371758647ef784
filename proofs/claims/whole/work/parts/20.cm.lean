set_option maxHeartbeats 4000000 in
set_option maxRecDepth 100000 in
theorem cX7_circuit_c {l : Launch} {D : va_G} {cI cS : ClassId} {a : Nat → Nat} (hap : kAp a 15) {v : kV} {ar : kR} {p1 : Int32} {p2 : Int32} {p3 : Int32} {p4 : Int32} {r : Int32} {v2 : kV} {ar2 : kR} (hf : fX7_circuit v ar p1 p2 p3 p4 = some (r, v2, ar2)) : kMet l D cI cS (mW cI a) (kA a 15) yX7_circuit cX7_circuit 8 (some .int) 3 67 [.ref (a 0), .int p1, .int p2, .int p3, .int p4] v ar (some (.int r)) v2 ar2 := by
  refine kstart (by decide) (Nat.le_of_ble_eq_true rfl) ?_
  intro p e s m args below meth c ls C0 hr hlk hl hP hS
  have C0 : kC p s m c args cX7_circuit 8 RX7 D cI cS := C0
  have hx := C0.1.1
  have hb := C0.1.2.1
  have hl : lv_has ls 8 [(0, .ref (a 0)), (1, .int p1), (2, .int p2), (3, .int p3), (4, .int p4)] := hl
  have hB165 : ∀ (n : Nat), ∀ (x7 : Int32) (v : kV) (ar : kR) (H : Heap) (locs : List Loc) (ls : Array Slot), fX7_circuit_165 p1 p2 p3 p4 n x7 v ar = some (r, v2, ar2) → va_P D vwCl (mW cI a v ar) H → va_S (kA a 15) s.heap H locs → lv_has ls 8 [(0, .ref (a 0)), (7, .int x7)] → kGo p l e 3 67 s m args below meth c D (mW cI a) (kA a 15) (some (.int r)) v2 ar2 H locs (F0 m 165 ls []) := by
    intro  n
    induction n with
    | zero =>
      intro x7 v ar H locs ls hf
      have hf : (none : Option (Int32 × kV × kR)) = some (r, v2, ar2) := hf
      cases hf
    | succ n ih =>
      intro x7 v ar H locs ls hf hP hS hl
      have hf : fX7_circuit_165b p1 p2 p3 p4 (fX7_circuit_165 p1 p2 p3 p4 n) x7 v ar = some (r, v2, ar2) := hf
      unfold fX7_circuit_165b at hf
      refine lv_iload hx hb dX7_circuit_165 (lv_at hl 1 rfl) ?_
      refine lv_aload_n hx hb dX7_circuit_167 rfl (lv_at hl 0 rfl) ?_
      refine xg_M_6 C0 hP q_603 dX7_circuit_168 ?_
      refine lv_icmp_ge (tgt := 194) hx hb dX7_circuit_171 (by decide) (fun c16 => ?_) (fun c16 => ?_)
      · have hf := kif_t c16 hf
        refine lv_aload_n hx hb dX7_circuit_194 rfl (lv_at hl 0 rfl) ?_
        refine lv_ldc (v := (1065353216 : Int32)) hx hb C0.1.2.2.2.1 (C0.1.2.2.2.2 _ q_596) dX7_circuit_195 ?_
        refine xp_M_9 C0 hap hP hS q_606 dX7_circuit_197 (fun H locs hP hS => ?_)
        refine lv_aload_n hx hb dX7_circuit_200 rfl (lv_at hl 0 rfl) ?_
        refine lv_bipush (v := (-9 : Int32)) hx hb dX7_circuit_201 (by decide) ?_
        refine xp_M_10 C0 hap hP hS q_607 dX7_circuit_203 (fun H locs hP hS => ?_)
        refine lv_aload_n hx hb dX7_circuit_206 rfl (lv_at hl 0 rfl) ?_
        refine lv_iconst (v := (0 : Int32)) hx hb dX7_circuit_207 (by decide) ?_
        refine xp_M_11 C0 hap hP hS q_608 dX7_circuit_208 (fun H locs hP hS => ?_)
        refine lv_aload_n hx hb dX7_circuit_211 rfl (lv_at hl 0 rfl) ?_
        refine lv_iconst (v := (0 : Int32)) hx hb dX7_circuit_212 (by decide) ?_
        refine xp_M_29 C0 hap hP hS q_626 dX7_circuit_213 (fun H locs hP hS => ?_)
        refine lv_aload_n hx hb dX7_circuit_216 rfl (lv_at hl 0 rfl) ?_
        refine xg_M_5 C0 hP q_602 dX7_circuit_217 ?_
        obtain ⟨rfl, rfl, rfl⟩ := kinj3 hf
        exact kret_i C0 hr hlk hP hS dX7_circuit_220
      · have hf := kif_f c16 hf
        refine lv_aload_n hx hb dX7_circuit_174 rfl (lv_at hl 0 rfl) ?_
        refine xg_M_15 C0 hP q_612 dX7_circuit_175 ?_
        refine lv_iload hx hb dX7_circuit_178 (lv_at hl 1 rfl) ?_
        refine lv_aload_n hx hb dX7_circuit_180 rfl (lv_at hl 0 rfl) ?_
        refine xg_M_23 C0 hP q_620 dX7_circuit_181 ?_
        refine lv_iload hx hb dX7_circuit_184 (lv_at hl 1 rfl) ?_
        obtain ⟨g17, hf⟩ := kgd hf
        refine ml_readNet C0 hP g17 dX7_circuit_186 ?_
        obtain ⟨g18, hf⟩ := kgd hf
        refine mt_net C0 hap hP hS g18 dX7_circuit_187 (fun H locs hP hS => ?_)
        refine lv_iinc (v := (x7 + (1 : Int32))) (lv' := [(7, .int (x7 + (1 : Int32))), (0, .ref (a 0))]) hx hb dX7_circuit_188 hl (k := 1) rfl rfl (by decide) rfl (fun ls hl => ?_)
        refine lv_goto (tgt := 165) hx hb dX7_circuit_191 (by decide) ?_
        exact ih _ _ _ _ _ _ hf hP hS (lv_sub hl [1, 0] rfl)
  have hB119 : ∀ (n : Nat), ∀ (x7 : Int32) (v : kV) (ar : kR) (H : Heap) (locs : List Loc) (ls : Array Slot), fX7_circuit_119 p1 p2 p3 p4 n x7 v ar = some (r, v2, ar2) → va_P D vwCl (mW cI a v ar) H → va_S (kA a 15) s.heap H locs → lv_has ls 8 [(0, .ref (a 0)), (7, .int x7)] → kGo p l e 3 67 s m args below meth c D (mW cI a) (kA a 15) (some (.int r)) v2 ar2 H locs (F0 m 119 ls []) := by
    intro  n
    induction n with
    | zero =>
      intro x7 v ar H locs ls hf
      have hf : (none : Option (Int32 × kV × kR)) = some (r, v2, ar2) := hf
      cases hf
    | succ n ih =>
      intro x7 v ar H locs ls hf hP hS hl
      have hf : fX7_circuit_119b p1 p2 p3 p4 (fX7_circuit_119 p1 p2 p3 p4 n) x7 v ar = some (r, v2, ar2) := hf
      unfold fX7_circuit_119b at hf
      refine lv_iload hx hb dX7_circuit_119 (lv_at hl 1 rfl) ?_
      refine lv_aload_n hx hb dX7_circuit_121 rfl (lv_at hl 0 rfl) ?_
      refine xg_M_5 C0 hP q_602 dX7_circuit_122 ?_
      refine lv_icmp_ge (tgt := 162) hx hb dX7_circuit_125 (by decide) (fun c15 => ?_) (fun c15 => ?_)
      · have hf := kif_t c15 hf
        refine lv_iconst (v := (0 : Int32)) hx hb dX7_circuit_162 (by decide) ?_
        refine lv_istore (lv' := [(7, .int (0 : Int32)), (0, .ref (a 0))]) hx hb dX7_circuit_163 hl (by decide) rfl (fun ls hl => ?_)
        exact hB165 _ _ _ _ _ _ _ hf hP hS (lv_sub hl [1, 0] rfl)
      · have hf := kif_f c15 hf
        refine lv_aload_n hx hb dX7_circuit_128 rfl (lv_at hl 0 rfl) ?_
        refine xg_M_13 C0 hP q_610 dX7_circuit_129 ?_
        refine lv_iload hx hb dX7_circuit_132 (lv_at hl 1 rfl) ?_
        refine lv_aload_n hx hb dX7_circuit_134 rfl (lv_at hl 0 rfl) ?_
        refine xg_M_21 C0 hP q_618 dX7_circuit_135 ?_
        refine lv_iload hx hb dX7_circuit_138 (lv_at hl 1 rfl) ?_
        obtain ⟨g19, hf⟩ := kgd hf
        refine ml_readKind C0 hP g19 dX7_circuit_140 ?_
        obtain ⟨g20, hf⟩ := kgd hf
        refine mt_kind C0 hap hP hS g20 dX7_circuit_141 (fun H locs hP hS => ?_)
        refine lv_aload_n hx hb dX7_circuit_142 rfl (lv_at hl 0 rfl) ?_
        refine xg_M_14 C0 hP q_611 dX7_circuit_143 ?_
        refine lv_iload hx hb dX7_circuit_146 (lv_at hl 1 rfl) ?_
        refine lv_aload_n hx hb dX7_circuit_148 rfl (lv_at hl 0 rfl) ?_
        refine xg_M_22 C0 hP q_619 dX7_circuit_149 ?_
        refine lv_iload hx hb dX7_circuit_152 (lv_at hl 1 rfl) ?_
        obtain ⟨g21, hf⟩ := kgd hf
        refine ml_readBulk C0 hP g21 dX7_circuit_154 ?_
        obtain ⟨g22, hf⟩ := kgd hf
        refine mt_bulk C0 hap hP hS g22 dX7_circuit_155 (fun H locs hP hS => ?_)
        refine lv_iinc (v := (x7 + (1 : Int32))) (lv' := [(7, .int (x7 + (1 : Int32))), (0, .ref (a 0))]) hx hb dX7_circuit_156 hl (k := 1) rfl rfl (by decide) rfl (fun ls hl => ?_)
        refine lv_goto (tgt := 119) hx hb dX7_circuit_159 (by decide) ?_
        exact ih _ _ _ _ _ _ hf hP hS (lv_sub hl [1, 0] rfl)
  unfold fX7_circuit at hf
  refine lv_aload_n hx hb dX7_circuit_0 rfl (lv_at hl 0 rfl) ?_
  refine lv_iconst (v := (0 : Int32)) hx hb dX7_circuit_1 (by decide) ?_
  refine xp_M_0 C0 hap hP hS q_597 dX7_circuit_2 (fun H locs hP hS => ?_)
  refine lv_iload_n hx hb dX7_circuit_5 rfl (lv_at hl 1 rfl) ?_
  obtain ⟨r2, e1, hf⟩ := kb1_s hf
  refine kcallT (As := [.int p1]) (rest := []) C0 (cX7_isSheet_c hap e1) q_698 kw_X7_isSheet hP hS ⟨Nat.le_of_ble_eq_true rfl, Nat.le_of_ble_eq_true rfl⟩ rfl hl.1 rfl (Nat.le_of_ble_eq_true rfl) dX7_circuit_6 (fun H locs hP hS => ?_)
  refine lv_if_ne (tgt := 14) hx hb dX7_circuit_9 (by decide) (fun c3 => ?_) (fun c3 => ?_)
  · have hf := kif_f c3 hf
    refine lv_iload_n hx hb dX7_circuit_14 rfl (lv_at hl 2 rfl) ?_
    obtain ⟨r5, e4, hf⟩ := kb1_s hf
    refine kcallT (As := [.int p2]) (rest := []) C0 (cX7_isSort_c hap e4) q_704 kw_X7_isSort hP hS ⟨Nat.le_of_ble_eq_true rfl, Nat.le_of_ble_eq_true rfl⟩ rfl hl.1 rfl (Nat.le_of_ble_eq_true rfl) dX7_circuit_15 (fun H locs hP hS => ?_)
    refine lv_if_ne (tgt := 24) hx hb dX7_circuit_18 (by decide) (fun c6 => ?_) (fun c6 => ?_)
    · have hf := kif_f c6 hf
      refine lv_aload_n hx hb dX7_circuit_24 rfl (lv_at hl 0 rfl) ?_
      refine lv_iload_n hx hb dX7_circuit_25 rfl (lv_at hl 1 rfl) ?_
      refine lv_iload_n hx hb dX7_circuit_26 rfl (lv_at hl 2 rfl) ?_
      refine lv_iload_n hx hb dX7_circuit_27 rfl (lv_at hl 3 rfl) ?_
      refine lv_iload hx hb dX7_circuit_28 (lv_at hl 4 rfl) ?_
      obtain ⟨r8, e7, hf⟩ := kb1_s hf
      refine kcallV (As := [.int p1, .int p2, .int p3, .int p4]) (rest := []) C0 (cX7_against_c hap e7) q_707 kw_X7_against (xv_M C0.2 hP) hP hS ⟨Nat.le_of_ble_eq_true rfl, Nat.le_of_ble_eq_true rfl⟩ rfl hl.1 rfl (Nat.le_of_ble_eq_true rfl) dX7_circuit_30 (fun H locs hP hS => ?_)
      refine lv_istore (lv' := [(5, .int r8), (0, .ref (a 0)), (1, .int p1), (2, .int p2), (3, .int p3), (4, .int p4)]) hx hb dX7_circuit_33 hl (by decide) rfl (fun ls hl => ?_)
      refine lv_iload hx hb dX7_circuit_35 (lv_at hl 0 rfl) ?_
      refine lv_if_eq (tgt := 47) hx hb dX7_circuit_37 (by decide) (fun c9 => ?_) (fun c9 => ?_)
      · have hf := kif_t c9 hf
        refine lv_bipush (v := (60 : Int32)) hx hb dX7_circuit_47 (by decide) ?_
        refine lv_iload_n hx hb dX7_circuit_49 rfl (lv_at hl 2 rfl) ?_
        refine lv_imul hx hb dX7_circuit_50 ?_
        refine lv_iload_n hx hb dX7_circuit_51 rfl (lv_at hl 4 rfl) ?_
        refine lv_iadd hx hb dX7_circuit_52 ?_
        refine lv_istore (lv' := [(6, .int (((60 : Int32) * p1) + p3)), (5, .int r8), (0, .ref (a 0)), (1, .int p1), (2, .int p2), (3, .int p3), (4, .int p4)]) hx hb dX7_circuit_53 hl (by decide) rfl (fun ls hl => ?_)
        refine lv_aload_n hx hb dX7_circuit_55 rfl (lv_at hl 2 rfl) ?_
        refine lv_iload hx hb dX7_circuit_56 (lv_at hl 0 rfl) ?_
        refine xp_M_16 C0 hap hP hS q_613 dX7_circuit_58 (fun H locs hP hS => ?_)
        refine lv_aload_n hx hb dX7_circuit_61 rfl (lv_at hl 2 rfl) ?_
        refine lv_iload hx hb dX7_circuit_62 (lv_at hl 0 rfl) ?_
        refine lv_iload hx hb dX7_circuit_64 (lv_at hl 6 rfl) ?_
        refine lv_iadd hx hb dX7_circuit_66 ?_
        obtain ⟨r11, v12, ar13, e10, hf⟩ := kb3_s hf
        refine kcallV (As := [.int ((((60 : Int32) * p1) + p3) + p4)]) (rest := []) C0 (cX7_readAll_c hap e10) q_715 kw_X7_readAll (xv_M C0.2 hP) hP hS ⟨Nat.le_of_ble_eq_true rfl, Nat.le_of_ble_eq_true rfl⟩ rfl hl.1 rfl (Nat.le_of_ble_eq_true rfl) dX7_circuit_67 (fun H locs hP hS => ?_)
        refine lv_if_ne (tgt := 84) hx hb dX7_circuit_70 (by decide) (fun c14 => ?_) (fun c14 => ?_)
        · have hf := kif_f c14 hf
          refine lv_aload_n hx hb dX7_circuit_84 rfl (lv_at hl 2 rfl) ?_
          refine lv_aload_n hx hb dX7_circuit_85 rfl (lv_at hl 2 rfl) ?_
          refine xg_M_17 C0 hP q_614 dX7_circuit_86 ?_
          refine xp_M_5 C0 hap hP hS q_602 dX7_circuit_89 (fun H locs hP hS => ?_)
          refine lv_aload_n hx hb dX7_circuit_92 rfl (lv_at hl 2 rfl) ?_
          refine lv_aload_n hx hb dX7_circuit_93 rfl (lv_at hl 2 rfl) ?_
          refine xg_M_18 C0 hP q_615 dX7_circuit_94 ?_
          refine xp_M_6 C0 hap hP hS q_603 dX7_circuit_97 (fun H locs hP hS => ?_)
          refine lv_aload_n hx hb dX7_circuit_100 rfl (lv_at hl 2 rfl) ?_
          refine lv_aload_n hx hb dX7_circuit_101 rfl (lv_at hl 2 rfl) ?_
          refine xg_M_19 C0 hP q_616 dX7_circuit_102 ?_
          refine xp_M_7 C0 hap hP hS q_604 dX7_circuit_105 (fun H locs hP hS => ?_)
          refine lv_aload_n hx hb dX7_circuit_108 rfl (lv_at hl 2 rfl) ?_
          refine lv_aload_n hx hb dX7_circuit_109 rfl (lv_at hl 2 rfl) ?_
          refine xg_M_20 C0 hP q_617 dX7_circuit_110 ?_
          refine xp_M_8 C0 hap hP hS q_605 dX7_circuit_113 (fun H locs hP hS => ?_)
          refine lv_iconst (v := (0 : Int32)) hx hb dX7_circuit_116 (by decide) ?_
          refine lv_istore (lv' := [(7, .int (0 : Int32)), (6, .int (((60 : Int32) * p1) + p3)), (5, .int r8), (0, .ref (a 0)), (1, .int p1), (2, .int p2), (3, .int p3), (4, .int p4)]) hx hb dX7_circuit_117 hl (by decide) rfl (fun ls hl => ?_)
          exact hB119 _ _ _ _ _ _ _ hf hP hS (lv_sub hl [3, 0] rfl)
        · have hf := kif_t c14 hf
          refine lv_bipush (v := (-100 : Int32)) hx hb dX7_circuit_73 (by decide) ?_
          refine lv_aload_n hx hb dX7_circuit_75 rfl (lv_at hl 2 rfl) ?_
          refine xg_M_16 C0 hP q_613 dX7_circuit_76 ?_
          refine lv_iload hx hb dX7_circuit_79 (lv_at hl 0 rfl) ?_
          refine lv_isub hx hb dX7_circuit_81 ?_
          refine lv_isub hx hb dX7_circuit_82 ?_
          obtain ⟨rfl, rfl, rfl⟩ := kinj3 hf
          exact kret_i C0 hr hlk hP hS dX7_circuit_83
      · have hf := kif_f c9 hf
        refine lv_aload_n hx hb dX7_circuit_40 rfl (lv_at hl 1 rfl) ?_
        refine lv_iload hx hb dX7_circuit_41 (lv_at hl 0 rfl) ?_
        obtain ⟨r24, v25, ar26, e23, hf⟩ := kb3_s hf
        refine kcallV (As := [.int r8]) (rest := []) C0 (cX7_fails_c hap e23) q_711 kw_X7_fails (xv_M C0.2 hP) hP hS ⟨Nat.le_of_ble_eq_true rfl, Nat.le_of_ble_eq_true rfl⟩ rfl hl.1 rfl (Nat.le_of_ble_eq_true rfl) dX7_circuit_43 (fun H locs hP hS => ?_)
        obtain ⟨rfl, rfl, rfl⟩ := kinj3 hf
        exact kret_i C0 hr hlk hP hS dX7_circuit_46
    · have hf := kif_t c6 hf
      refine lv_bipush (v := (-2 : Int32)) hx hb dX7_circuit_21 (by decide) ?_
      obtain ⟨rfl, rfl, rfl⟩ := kinj3 hf
      exact kret_i C0 hr hlk hP hS dX7_circuit_23
  · have hf := kif_t c3 hf
    refine lv_iconst (v := (-1 : Int32)) hx hb dX7_circuit_12 (by decide) ?_
    obtain ⟨rfl, rfl, rfl⟩ := kinj3 hf
    exact kret_i C0 hr hlk hP hS dX7_circuit_13
set_option maxHeartbeats 4000000 in
set_option maxRecDepth 100000 in
theorem cX7_isCell_c {l : Launch} {D : va_G} {cI cS : ClassId} {a : Nat → Nat} (hap : kAp a 15) {v : kV} {ar : kR} {p1 : Int32} {r : Bool} (hf : fX7_isCell v ar p1 = some r) : kMet l D cI cS (mW cI a) (kA a 15) yX7_isCell cX7_isCell 2 (some .boolean) 0 0 [.ref (a 0), .int p1] v ar (some (.int (bI r))) v ar := by
  refine kstart (by decide) (Nat.le_of_ble_eq_true rfl) ?_
  intro p e s m args below meth c ls C0 hr hlk hl hP hS
  have C0 : kC p s m c args cX7_isCell 2 RX7 D cI cS := C0
  have hx := C0.1.1
  have hb := C0.1.2.1
  have hl : lv_has ls 2 [(0, .ref (a 0)), (1, .int p1)] := hl
  unfold fX7_isCell at hf
  refine lv_iload_n hx hb dX7_isCell_0 rfl (lv_at hl 1 rfl) ?_
  refine lv_if_lt (tgt := 16) hx hb dX7_isCell_1 (by decide) (fun c1 => ?_) (fun c1 => ?_)
  · have hf := kif_t c1 hf
    refine lv_iconst (v := (0 : Int32)) hx hb dX7_isCell_16 (by decide) ?_
    obtain rfl := Option.some.inj hf
    exact kret_z false rfl C0 hr hlk hP hS dX7_isCell_17
  · have hf := kif_f c1 hf
    refine lv_iload_n hx hb dX7_isCell_4 rfl (lv_at hl 1 rfl) ?_
    refine lv_aload_n hx hb dX7_isCell_5 rfl (lv_at hl 0 rfl) ?_
    refine xg_M_5 C0 hP q_602 dX7_isCell_6 ?_
    refine lv_icmp_ge (tgt := 16) hx hb dX7_isCell_9 (by decide) (fun c2 => ?_) (fun c2 => ?_)
    · have hf := kif_t c2 hf
      refine lv_iconst (v := (0 : Int32)) hx hb dX7_isCell_16 (by decide) ?_
      obtain rfl := Option.some.inj hf
      exact kret_z false rfl C0 hr hlk hP hS dX7_isCell_17
    · have hf := kif_f c2 hf
      refine lv_iconst (v := (1 : Int32)) hx hb dX7_isCell_12 (by decide) ?_
      refine lv_goto (tgt := 17) hx hb dX7_isCell_13 (by decide) ?_
      obtain rfl := Option.some.inj hf
      exact kret_z true rfl C0 hr hlk hP hS dX7_isCell_17
set_option maxHeartbeats 4000000 in
set_option maxRecDepth 100000 in
theorem cX7_weightOf_c {l : Launch} {D : va_G} {cI cS : ClassId} {a : Nat → Nat} (hap : kAp a 15) {v : kV} {ar : kR} {p1 : Int32} {r : Int32} (hf : fX7_weightOf v ar p1 = some r) : kMet l D cI cS (mW cI a) (kA a 15) yX7_weightOf cX7_weightOf 2 (some .int) 0 0 [.ref (a 0), .int p1] v ar (some (.int r)) v ar := by
  refine kstart (by decide) (Nat.le_of_ble_eq_true rfl) ?_
  intro p e s m args below meth c ls C0 hr hlk hl hP hS
  have C0 : kC p s m c args cX7_weightOf 2 RX7 D cI cS := C0
  have hx := C0.1.1
  have hb := C0.1.2.1
  have hl : lv_has ls 2 [(0, .ref (a 0)), (1, .int p1)] := hl
  unfold fX7_weightOf at hf
  refine lv_aload_n hx hb dX7_weightOf_0 rfl (lv_at hl 0 rfl) ?_
  refine xg_M_13 C0 hP q_610 dX7_weightOf_1 ?_
  refine lv_iload_n hx hb dX7_weightOf_4 rfl (lv_at hl 1 rfl) ?_
  obtain ⟨g1, hf⟩ := kgd hf
  refine ml_kind C0 hP g1 dX7_weightOf_5 ?_
  refine lv_if_ne (tgt := 18) hx hb dX7_weightOf_6 (by decide) (fun c2 => ?_) (fun c2 => ?_)
  · have hf := kif_f c2 hf
    refine lv_aload_n hx hb dX7_weightOf_18 rfl (lv_at hl 0 rfl) ?_
    refine xg_M_13 C0 hP q_610 dX7_weightOf_19 ?_
    refine lv_iload_n hx hb dX7_weightOf_22 rfl (lv_at hl 1 rfl) ?_
    obtain ⟨g3, hf⟩ := kgd hf
    refine ml_kind C0 hP g3 dX7_weightOf_23 ?_
    refine lv_iconst (v := (1 : Int32)) hx hb dX7_weightOf_24 (by decide) ?_
    refine lv_icmp_ne (tgt := 39) hx hb dX7_weightOf_25 (by decide) (fun c4 => ?_) (fun c4 => ?_)
    · have hf := kif_f c4 hf
      refine lv_iconst (v := (2 : Int32)) hx hb dX7_weightOf_39 (by decide) ?_
      refine lv_aload_n hx hb dX7_weightOf_40 rfl (lv_at hl 0 rfl) ?_
      refine xg_M_14 C0 hP q_611 dX7_weightOf_41 ?_
      refine lv_iload_n hx hb dX7_weightOf_44 rfl (lv_at hl 1 rfl) ?_
      obtain ⟨g5, hf⟩ := kgd hf
      refine ml_bulk C0 hP g5 dX7_weightOf_45 ?_
      refine lv_imul hx hb dX7_weightOf_46 ?_
      obtain rfl := Option.some.inj hf
      exact kret_i C0 hr hlk hP hS dX7_weightOf_47
    · have hf := kif_t c4 hf
      refine lv_aload_n hx hb dX7_weightOf_28 rfl (lv_at hl 0 rfl) ?_
      refine xg_M_14 C0 hP q_611 dX7_weightOf_29 ?_
      refine lv_iload_n hx hb dX7_weightOf_32 rfl (lv_at hl 1 rfl) ?_
      obtain ⟨g6, hf⟩ := kgd hf
      refine ml_bulk C0 hP g6 dX7_weightOf_33 ?_
      refine lv_iconst (v := (1 : Int32)) hx hb dX7_weightOf_34 (by decide) ?_
      refine lv_iadd hx hb dX7_weightOf_35 ?_
      refine lv_goto (tgt := 47) hx hb dX7_weightOf_36 (by decide) ?_
      obtain rfl := Option.some.inj hf
      exact kret_i C0 hr hlk hP hS dX7_weightOf_47
  · have hf := kif_t c2 hf
    refine lv_aload_n hx hb dX7_weightOf_9 rfl (lv_at hl 0 rfl) ?_
    refine xg_M_14 C0 hP q_611 dX7_weightOf_10 ?_
    refine lv_iload_n hx hb dX7_weightOf_13 rfl (lv_at hl 1 rfl) ?_
    obtain ⟨g7, hf⟩ := kgd hf
    refine ml_bulk C0 hP g7 dX7_weightOf_14 ?_
    refine lv_goto (tgt := 47) hx hb dX7_weightOf_15 (by decide) ?_
    obtain rfl := Option.some.inj hf
    exact kret_i C0 hr hlk hP hS dX7_weightOf_47
set_option maxHeartbeats 4000000 in
set_option maxRecDepth 100000 in
theorem cX7_netsOf_c {l : Launch} {D : va_G} {cI cS : ClassId} {a : Nat → Nat} (hap : kAp a 15) {v : kV} {ar : kR} {p1 : Int32} {r : Int32} (hf : fX7_netsOf v ar p1 = some r) : kMet l D cI cS (mW cI a) (kA a 15) yX7_netsOf cX7_netsOf 4 (some .int) 1 21 [.ref (a 0), .int p1] v ar (some (.int r)) v ar := by
  refine kstart (by decide) (Nat.le_of_ble_eq_true rfl) ?_
  intro p e s m args below meth c ls C0 hr hlk hl hP hS
  have C0 : kC p s m c args cX7_netsOf 4 RX7 D cI cS := C0
  have hx := C0.1.1
  have hb := C0.1.2.1
  have hl : lv_has ls 4 [(0, .ref (a 0)), (1, .int p1)] := hl
  have hB33 : ∀ (rec4 : Int32 → Int32 → Option Int32) (hrec4 : ∀ (x2 : Int32) (x3 : Int32) (H : Heap) (locs : List Loc) (ls : Array Slot), rec4 x2 x3 = some r → va_P D vwCl (mW cI a v ar) H → va_S (kA a 15) s.heap H locs → lv_has ls 4 [(0, .ref (a 0)), (1, .int p1), (2, .int x2), (3, .int x3)] → kGo p l e 1 21 s m args below meth c D (mW cI a) (kA a 15) (some (.int r)) v ar H locs (F0 m 4 ls [])) , ∀ (x3 : Int32) (s0 : Int32) (s1 : Int32) (H : Heap) (locs : List Loc) (ls : Array Slot), fX7_netsOf_33 v ar p1 rec4 x3 s0 s1 = some r → va_P D vwCl (mW cI a v ar) H → va_S (kA a 15) s.heap H locs → lv_has ls 4 [(0, .ref (a 0)), (1, .int p1), (3, .int x3)] → kGo p l e 1 21 s m args below meth c D (mW cI a) (kA a 15) (some (.int r)) v ar H locs (F0 m 33 ls [.int s0, .int s1]) := by
    intro rec4 hrec4 x3 s0 s1 H locs ls hf hP hS hl
    unfold fX7_netsOf_33 at hf
    refine lv_ior hx hb dX7_netsOf_33 ?_
    refine lv_istore_n (lv' := [(2, .int (s1 ||| s0)), (0, .ref (a 0)), (1, .int p1), (3, .int x3)]) hx hb dX7_netsOf_34 rfl hl (by decide) rfl (fun ls hl => ?_)
    refine lv_iinc (v := (x3 + (1 : Int32))) (lv' := [(3, .int (x3 + (1 : Int32))), (2, .int (s1 ||| s0)), (0, .ref (a 0)), (1, .int p1)]) hx hb dX7_netsOf_35 hl (k := 3) rfl rfl (by decide) rfl (fun ls hl => ?_)
    refine lv_goto (tgt := 4) hx hb dX7_netsOf_38 (by decide) ?_
    exact hrec4 _ _ _ _ _ hf hP hS (lv_sub hl [2, 3, 1, 0] rfl)
  have hB4 : ∀ (n : Nat), ∀ (x2 : Int32) (x3 : Int32) (H : Heap) (locs : List Loc) (ls : Array Slot), fX7_netsOf_4 v ar p1 n x2 x3 = some r → va_P D vwCl (mW cI a v ar) H → va_S (kA a 15) s.heap H locs → lv_has ls 4 [(0, .ref (a 0)), (1, .int p1), (2, .int x2), (3, .int x3)] → kGo p l e 1 21 s m args below meth c D (mW cI a) (kA a 15) (some (.int r)) v ar H locs (F0 m 4 ls []) := by
    intro  n
    induction n with
    | zero =>
      intro x2 x3 H locs ls hf
      have hf : (none : Option Int32) = some r := hf
      cases hf
    | succ n ih =>
      intro x2 x3 H locs ls hf hP hS hl
      have hf : fX7_netsOf_4b v ar p1 (fX7_netsOf_4 v ar p1 n) x2 x3 = some r := hf
      unfold fX7_netsOf_4b at hf
      refine lv_iload_n hx hb dX7_netsOf_4 rfl (lv_at hl 3 rfl) ?_
      refine lv_aload_n hx hb dX7_netsOf_5 rfl (lv_at hl 0 rfl) ?_
      refine xg_M_6 C0 hP q_603 dX7_netsOf_6 ?_
      refine lv_icmp_ge (tgt := 41) hx hb dX7_netsOf_9 (by decide) (fun c1 => ?_) (fun c1 => ?_)
      · have hf := kif_t c1 hf
        refine lv_iload_n hx hb dX7_netsOf_41 rfl (lv_at hl 2 rfl) ?_
        obtain rfl := Option.some.inj hf
        exact kret_i C0 hr hlk hP hS dX7_netsOf_42
      · have hf := kif_f c1 hf
        refine lv_iload_n hx hb dX7_netsOf_12 rfl (lv_at hl 2 rfl) ?_
        refine lv_aload_n hx hb dX7_netsOf_13 rfl (lv_at hl 0 rfl) ?_
        refine xg_M_15 C0 hP q_612 dX7_netsOf_14 ?_
        refine lv_iload_n hx hb dX7_netsOf_17 rfl (lv_at hl 3 rfl) ?_
        obtain ⟨g2, hf⟩ := kgd hf
        refine ml_net C0 hP g2 dX7_netsOf_18 ?_
        refine lv_iload_n hx hb dX7_netsOf_19 rfl (lv_at hl 1 rfl) ?_
        obtain ⟨r4, e3, hf⟩ := kb1_s hf
        refine kcallT (As := [.int (ar (6) x3.toNatClampNeg), .int p1]) (rest := [.int x2]) C0 (cX7_isOf_c hap e3) q_734 kw_X7_isOf hP hS ⟨Nat.le_of_ble_eq_true rfl, Nat.le_of_ble_eq_true rfl⟩ rfl hl.1 rfl (Nat.le_of_ble_eq_true rfl) dX7_netsOf_20 (fun H locs hP hS => ?_)
        refine lv_if_eq (tgt := 32) hx hb dX7_netsOf_23 (by decide) (fun c5 => ?_) (fun c5 => ?_)
        · have hf := kif_t c5 hf
          refine lv_iconst (v := (0 : Int32)) hx hb dX7_netsOf_32 (by decide) ?_
          exact hB33 _ ih _ _ _ _ _ _ hf hP hS (lv_sub hl [0, 1, 3] rfl)
        · have hf := kif_f c5 hf
          refine lv_iconst (v := (1 : Int32)) hx hb dX7_netsOf_26 (by decide) ?_
          refine lv_iload_n hx hb dX7_netsOf_27 rfl (lv_at hl 3 rfl) ?_
          refine lv_ishl hx hb dX7_netsOf_28 ?_
          refine lv_goto (tgt := 33) hx hb dX7_netsOf_29 (by decide) ?_
          exact hB33 _ ih _ _ _ _ _ _ hf hP hS (lv_sub hl [0, 1, 3] rfl)
  unfold fX7_netsOf at hf
  refine lv_iconst (v := (0 : Int32)) hx hb dX7_netsOf_0 (by decide) ?_
  refine lv_istore_n (lv' := [(2, .int (0 : Int32)), (0, .ref (a 0)), (1, .int p1)]) hx hb dX7_netsOf_1 rfl hl (by decide) rfl (fun ls hl => ?_)
  refine lv_iconst (v := (0 : Int32)) hx hb dX7_netsOf_2 (by decide) ?_
  refine lv_istore_n (lv' := [(3, .int (0 : Int32)), (2, .int (0 : Int32)), (0, .ref (a 0)), (1, .int p1)]) hx hb dX7_netsOf_3 rfl hl (by decide) rfl (fun ls hl => ?_)
  exact hB4 _ _ _ _ _ _ hf hP hS (lv_sub hl [2, 3, 1, 0] rfl)
set_option maxHeartbeats 4000000 in
set_option maxRecDepth 100000 in
theorem cX7_isCut_c {l : Launch} {D : va_G} {cI cS : ClassId} {a : Nat → Nat} (hap : kAp a 15) {v : kV} {ar : kR} {p1 : Int32} {p2 : Int32} {r : Bool} (hf : fX7_isCut v ar p1 p2 = some r) : kMet l D cI cS (mW cI a) (kA a 15) yX7_isCut cX7_isCut 4 (some .boolean) 0 0 [.ref (a 0), .int p1, .int p2] v ar (some (.int (bI r))) v ar := by
  refine kstart (by decide) (Nat.le_of_ble_eq_true rfl) ?_
  intro p e s m args below meth c ls C0 hr hlk hl hP hS
  have C0 : kC p s m c args cX7_isCut 4 RX7 D cI cS := C0
  have hx := C0.1.1
  have hb := C0.1.2.1
  have hl : lv_has ls 4 [(0, .ref (a 0)), (1, .int p1), (2, .int p2)] := hl
  unfold fX7_isCut at hf
  refine lv_aload_n hx hb dX7_isCut_0 rfl (lv_at hl 0 rfl) ?_
  refine xg_M_15 C0 hP q_612 dX7_isCut_1 ?_
  refine lv_iload_n hx hb dX7_isCut_4 rfl (lv_at hl 1 rfl) ?_
  obtain ⟨g1, hf⟩ := kgd hf
  refine ml_net C0 hP g1 dX7_isCut_5 ?_
  refine lv_iload_n hx hb dX7_isCut_6 rfl (lv_at hl 2 rfl) ?_
  refine lv_iand hx hb dX7_isCut_7 ?_
  refine lv_istore_n (lv' := [(3, .int ((ar (6) p1.toNatClampNeg) &&& p2)), (0, .ref (a 0)), (1, .int p1), (2, .int p2)]) hx hb dX7_isCut_8 rfl hl (by decide) rfl (fun ls hl => ?_)
  refine lv_iload_n hx hb dX7_isCut_9 rfl (lv_at hl 0 rfl) ?_
  refine lv_if_eq (tgt := 27) hx hb dX7_isCut_10 (by decide) (fun c2 => ?_) (fun c2 => ?_)
  · have hf := kif_t c2 hf
    refine lv_iconst (v := (0 : Int32)) hx hb dX7_isCut_27 (by decide) ?_
    obtain rfl := Option.some.inj hf
    exact kret_z false rfl C0 hr hlk hP hS dX7_isCut_28
  · have hf := kif_f c2 hf
    refine lv_iload_n hx hb dX7_isCut_13 rfl (lv_at hl 0 rfl) ?_
    refine lv_aload_n hx hb dX7_isCut_14 rfl (lv_at hl 1 rfl) ?_
    refine xg_M_15 C0 hP q_612 dX7_isCut_15 ?_
    refine lv_iload_n hx hb dX7_isCut_18 rfl (lv_at hl 2 rfl) ?_
    obtain ⟨g3, hf⟩ := kgd hf
    refine ml_net C0 hP g3 dX7_isCut_19 ?_
    refine lv_icmp_eq (tgt := 27) hx hb dX7_isCut_20 (by decide) (fun c4 => ?_) (fun c4 => ?_)
    · have hf := kif_t c4 hf
      refine lv_iconst (v := (0 : Int32)) hx hb dX7_isCut_27 (by decide) ?_
      obtain rfl := Option.some.inj hf
      exact kret_z false rfl C0 hr hlk hP hS dX7_isCut_28
    · have hf := kif_f c4 hf
      refine lv_iconst (v := (1 : Int32)) hx hb dX7_isCut_23 (by decide) ?_
      refine lv_goto (tgt := 28) hx hb dX7_isCut_24 (by decide) ?_
      obtain rfl := Option.some.inj hf
      exact kret_z true rfl C0 hr hlk hP hS dX7_isCut_28
set_option maxHeartbeats 4000000 in
set_option maxRecDepth 100000 in
theorem cX7_cutsBy_c {l : Launch} {D : va_G} {cI cS : ClassId} {a : Nat → Nat} (hap : kAp a 15) {v : kV} {ar : kR} {p1 : Int32} {r : Int32} (hf : fX7_cutsBy v ar p1 = some r) : kMet l D cI cS (mW cI a) (kA a 15) yX7_cutsBy cX7_cutsBy 4 (some .int) 1 23 [.ref (a 0), .int p1] v ar (some (.int r)) v ar := by
  refine kstart (by decide) (Nat.le_of_ble_eq_true rfl) ?_
  intro p e s m args below meth c ls C0 hr hlk hl hP hS
  have C0 : kC p s m c args cX7_cutsBy 4 RX7 D cI cS := C0
  have hx := C0.1.1
  have hb := C0.1.2.1
  have hl : lv_has ls 4 [(0, .ref (a 0)), (1, .int p1)] := hl
  have hB27 : ∀ (rec4 : Int32 → Int32 → Option Int32) (hrec4 : ∀ (x2 : Int32) (x3 : Int32) (H : Heap) (locs : List Loc) (ls : Array Slot), rec4 x2 x3 = some r → va_P D vwCl (mW cI a v ar) H → va_S (kA a 15) s.heap H locs → lv_has ls 4 [(0, .ref (a 0)), (1, .int p1), (2, .int x2), (3, .int x3)] → kGo p l e 1 23 s m args below meth c D (mW cI a) (kA a 15) (some (.int r)) v ar H locs (F0 m 4 ls [])) , ∀ (x3 : Int32) (s0 : Int32) (s1 : Int32) (H : Heap) (locs : List Loc) (ls : Array Slot), fX7_cutsBy_27 v ar p1 rec4 x3 s0 s1 = some r → va_P D vwCl (mW cI a v ar) H → va_S (kA a 15) s.heap H locs → lv_has ls 4 [(0, .ref (a 0)), (1, .int p1), (3, .int x3)] → kGo p l e 1 23 s m args below meth c D (mW cI a) (kA a 15) (some (.int r)) v ar H locs (F0 m 27 ls [.int s0, .int s1]) := by
    intro rec4 hrec4 x3 s0 s1 H locs ls hf hP hS hl
    unfold fX7_cutsBy_27 at hf
    refine lv_iadd hx hb dX7_cutsBy_27 ?_
    refine lv_istore_n (lv' := [(2, .int (s1 + s0)), (0, .ref (a 0)), (1, .int p1), (3, .int x3)]) hx hb dX7_cutsBy_28 rfl hl (by decide) rfl (fun ls hl => ?_)
    refine lv_iinc (v := (x3 + (1 : Int32))) (lv' := [(3, .int (x3 + (1 : Int32))), (2, .int (s1 + s0)), (0, .ref (a 0)), (1, .int p1)]) hx hb dX7_cutsBy_29 hl (k := 3) rfl rfl (by decide) rfl (fun ls hl => ?_)
    refine lv_goto (tgt := 4) hx hb dX7_cutsBy_32 (by decide) ?_
    exact hrec4 _ _ _ _ _ hf hP hS (lv_sub hl [2, 3, 1, 0] rfl)
  have hB4 : ∀ (n : Nat), ∀ (x2 : Int32) (x3 : Int32) (H : Heap) (locs : List Loc) (ls : Array Slot), fX7_cutsBy_4 v ar p1 n x2 x3 = some r → va_P D vwCl (mW cI a v ar) H → va_S (kA a 15) s.heap H locs → lv_has ls 4 [(0, .ref (a 0)), (1, .int p1), (2, .int x2), (3, .int x3)] → kGo p l e 1 23 s m args below meth c D (mW cI a) (kA a 15) (some (.int r)) v ar H locs (F0 m 4 ls []) := by
    intro  n
    induction n with
    | zero =>
      intro x2 x3 H locs ls hf
      have hf : (none : Option Int32) = some r := hf
      cases hf
    | succ n ih =>
      intro x2 x3 H locs ls hf hP hS hl
      have hf : fX7_cutsBy_4b v ar p1 (fX7_cutsBy_4 v ar p1 n) x2 x3 = some r := hf
      unfold fX7_cutsBy_4b at hf
      refine lv_iload_n hx hb dX7_cutsBy_4 rfl (lv_at hl 3 rfl) ?_
      refine lv_aload_n hx hb dX7_cutsBy_5 rfl (lv_at hl 0 rfl) ?_
      refine xg_M_6 C0 hP q_603 dX7_cutsBy_6 ?_
      refine lv_icmp_ge (tgt := 35) hx hb dX7_cutsBy_9 (by decide) (fun c1 => ?_) (fun c1 => ?_)
      · have hf := kif_t c1 hf
        refine lv_iload_n hx hb dX7_cutsBy_35 rfl (lv_at hl 2 rfl) ?_
        obtain rfl := Option.some.inj hf
        exact kret_i C0 hr hlk hP hS dX7_cutsBy_36
      · have hf := kif_f c1 hf
        refine lv_iload_n hx hb dX7_cutsBy_12 rfl (lv_at hl 2 rfl) ?_
        refine lv_aload_n hx hb dX7_cutsBy_13 rfl (lv_at hl 0 rfl) ?_
        refine lv_iload_n hx hb dX7_cutsBy_14 rfl (lv_at hl 3 rfl) ?_
        refine lv_iload_n hx hb dX7_cutsBy_15 rfl (lv_at hl 1 rfl) ?_
        obtain ⟨r3, e2, hf⟩ := kb1_s hf
        refine kcallV (As := [.int x3, .int p1]) (rest := [.int x2]) C0 (cX7_isCut_c hap e2) q_761 kw_X7_isCut (xv_M C0.2 hP) hP hS ⟨Nat.le_of_ble_eq_true rfl, Nat.le_of_ble_eq_true rfl⟩ rfl hl.1 rfl (Nat.le_of_ble_eq_true rfl) dX7_cutsBy_16 (fun H locs hP hS => ?_)
        refine lv_if_eq (tgt := 26) hx hb dX7_cutsBy_19 (by decide) (fun c4 => ?_) (fun c4 => ?_)
        · have hf := kif_t c4 hf
          refine lv_iconst (v := (0 : Int32)) hx hb dX7_cutsBy_26 (by decide) ?_
          exact hB27 _ ih _ _ _ _ _ _ hf hP hS (lv_sub hl [0, 1, 3] rfl)
        · have hf := kif_f c4 hf
          refine lv_iconst (v := (1 : Int32)) hx hb dX7_cutsBy_22 (by decide) ?_
          refine lv_goto (tgt := 27) hx hb dX7_cutsBy_23 (by decide) ?_
          exact hB27 _ ih _ _ _ _ _ _ hf hP hS (lv_sub hl [0, 1, 3] rfl)
  unfold fX7_cutsBy at hf
  refine lv_iconst (v := (0 : Int32)) hx hb dX7_cutsBy_0 (by decide) ?_
  refine lv_istore_n (lv' := [(2, .int (0 : Int32)), (0, .ref (a 0)), (1, .int p1)]) hx hb dX7_cutsBy_1 rfl hl (by decide) rfl (fun ls hl => ?_)
  refine lv_iconst (v := (0 : Int32)) hx hb dX7_cutsBy_2 (by decide) ?_
  refine lv_istore_n (lv' := [(3, .int (0 : Int32)), (2, .int (0 : Int32)), (0, .ref (a 0)), (1, .int p1)]) hx hb dX7_cutsBy_3 rfl hl (by decide) rfl (fun ls hl => ?_)
  exact hB4 _ _ _ _ _ _ hf hP hS (lv_sub hl [2, 3, 1, 0] rfl)
set_option maxHeartbeats 4000000 in
set_option maxRecDepth 100000 in
theorem cX7_gainOf_c {l : Launch} {D : va_G} {cI cS : ClassId} {a : Nat → Nat} (hap : kAp a 15) {v : kV} {ar : kR} {p1 : Int32} {p2 : Int32} {r : Int32} (hf : fX7_gainOf v ar p1 p2 = some r) : kMet l D cI cS (mW cI a) (kA a 15) yX7_gainOf cX7_gainOf 3 (some .int) 2 46 [.ref (a 0), .int p1, .int p2] v ar (some (.int r)) v ar := by
  refine kstart (by decide) (Nat.le_of_ble_eq_true rfl) ?_
  intro p e s m args below meth c ls C0 hr hlk hl hP hS
  have C0 : kC p s m c args cX7_gainOf 3 RX7 D cI cS := C0
  have hx := C0.1.1
  have hb := C0.1.2.1
  have hl : lv_has ls 3 [(0, .ref (a 0)), (1, .int p1), (2, .int p2)] := hl
  unfold fX7_gainOf at hf
  refine lv_aload_n hx hb dX7_gainOf_0 rfl (lv_at hl 0 rfl) ?_
  refine lv_iload_n hx hb dX7_gainOf_1 rfl (lv_at hl 2 rfl) ?_
  obtain ⟨r2, e1, hf⟩ := kb1_s hf
  refine kcallV (As := [.int p2]) (rest := []) C0 (cX7_cutsBy_c hap e1) q_757 kw_X7_cutsBy (xv_M C0.2 hP) hP hS ⟨Nat.le_of_ble_eq_true rfl, Nat.le_of_ble_eq_true rfl⟩ rfl hl.1 rfl (Nat.le_of_ble_eq_true rfl) dX7_gainOf_2 (fun H locs hP hS => ?_)
  refine lv_aload_n hx hb dX7_gainOf_5 rfl (lv_at hl 0 rfl) ?_
  refine lv_iload_n hx hb dX7_gainOf_6 rfl (lv_at hl 2 rfl) ?_
  refine lv_iconst (v := (1 : Int32)) hx hb dX7_gainOf_7 (by decide) ?_
  refine lv_iload_n hx hb dX7_gainOf_8 rfl (lv_at hl 1 rfl) ?_
  refine lv_ishl hx hb dX7_gainOf_9 ?_
  refine lv_ixor hx hb dX7_gainOf_10 ?_
  obtain ⟨r4, e3, hf⟩ := kb1_s hf
  refine kcallV (As := [.int (p2 ^^^ ((1 : Int32) <<< (p1 &&& 31)))]) (rest := [.int r2]) C0 (cX7_cutsBy_c hap e3) q_757 kw_X7_cutsBy (xv_M C0.2 hP) hP hS ⟨Nat.le_of_ble_eq_true rfl, Nat.le_of_ble_eq_true rfl⟩ rfl hl.1 rfl (Nat.le_of_ble_eq_true rfl) dX7_gainOf_11 (fun H locs hP hS => ?_)
  refine lv_isub hx hb dX7_gainOf_14 ?_
  obtain rfl := Option.some.inj hf
  exact kret_i C0 hr hlk hP hS dX7_gainOf_15
set_option maxHeartbeats 4000000 in
set_option maxRecDepth 100000 in
theorem cX7_all_c {l : Launch} {D : va_G} {cI cS : ClassId} {a : Nat → Nat} (hap : kAp a 15) {v : kV} {ar : kR} {r : Int32} (hf : fX7_all v ar = some r) : kMet l D cI cS (mW cI a) (kA a 15) yX7_all cX7_all 1 (some .int) 0 0 [.ref (a 0)] v ar (some (.int r)) v ar := by
  refine kstart (by decide) (Nat.le_of_ble_eq_true rfl) ?_
  intro p e s m args below meth c ls C0 hr hlk hl hP hS
  have C0 : kC p s m c args cX7_all 1 RX7 D cI cS := C0
  have hx := C0.1.1
  have hb := C0.1.2.1
  have hl : lv_has ls 1 [(0, .ref (a 0))] := hl
  unfold fX7_all at hf
  refine lv_iconst (v := (1 : Int32)) hx hb dX7_all_0 (by decide) ?_
  refine lv_aload_n hx hb dX7_all_1 rfl (lv_at hl 0 rfl) ?_
  refine xg_M_5 C0 hP q_602 dX7_all_2 ?_
  refine lv_ishl hx hb dX7_all_5 ?_
  refine lv_iconst (v := (1 : Int32)) hx hb dX7_all_6 (by decide) ?_
  refine lv_isub hx hb dX7_all_7 ?_
  obtain rfl := Option.some.inj hf
  exact kret_i C0 hr hlk hP hS dX7_all_8
set_option maxHeartbeats 4000000 in
set_option maxRecDepth 100000 in
theorem cX7_weightOfSet_c {l : Launch} {D : va_G} {cI cS : ClassId} {a : Nat → Nat} (hap : kAp a 15) {v : kV} {ar : kR} {p1 : Int32} {r : Int32} (hf : fX7_weightOfSet v ar p1 = some r) : kMet l D cI cS (mW cI a) (kA a 15) yX7_weightOfSet cX7_weightOfSet 4 (some .int) 1 21 [.ref (a 0), .int p1] v ar (some (.int r)) v ar := by
  refine kstart (by decide) (Nat.le_of_ble_eq_true rfl) ?_
  intro p e s m args below meth c ls C0 hr hlk hl hP hS
  have C0 : kC p s m c args cX7_weightOfSet 4 RX7 D cI cS := C0
  have hx := C0.1.1
  have hb := C0.1.2.1
  have hl : lv_has ls 4 [(0, .ref (a 0)), (1, .int p1)] := hl
  have hB30 : ∀ (rec4 : Int32 → Int32 → Option Int32) (hrec4 : ∀ (x2 : Int32) (x3 : Int32) (H : Heap) (locs : List Loc) (ls : Array Slot), rec4 x2 x3 = some r → va_P D vwCl (mW cI a v ar) H → va_S (kA a 15) s.heap H locs → lv_has ls 4 [(0, .ref (a 0)), (1, .int p1), (2, .int x2), (3, .int x3)] → kGo p l e 1 21 s m args below meth c D (mW cI a) (kA a 15) (some (.int r)) v ar H locs (F0 m 4 ls [])) , ∀ (x3 : Int32) (s0 : Int32) (s1 : Int32) (H : Heap) (locs : List Loc) (ls : Array Slot), fX7_weightOfSet_30 v ar p1 rec4 x3 s0 s1 = some r → va_P D vwCl (mW cI a v ar) H → va_S (kA a 15) s.heap H locs → lv_has ls 4 [(0, .ref (a 0)), (1, .int p1), (3, .int x3)] → kGo p l e 1 21 s m args below meth c D (mW cI a) (kA a 15) (some (.int r)) v ar H locs (F0 m 30 ls [.int s0, .int s1]) := by
    intro rec4 hrec4 x3 s0 s1 H locs ls hf hP hS hl
    unfold fX7_weightOfSet_30 at hf
    refine lv_iadd hx hb dX7_weightOfSet_30 ?_
    refine lv_istore_n (lv' := [(2, .int (s1 + s0)), (0, .ref (a 0)), (1, .int p1), (3, .int x3)]) hx hb dX7_weightOfSet_31 rfl hl (by decide) rfl (fun ls hl => ?_)
    refine lv_iinc (v := (x3 + (1 : Int32))) (lv' := [(3, .int (x3 + (1 : Int32))), (2, .int (s1 + s0)), (0, .ref (a 0)), (1, .int p1)]) hx hb dX7_weightOfSet_32 hl (k := 3) rfl rfl (by decide) rfl (fun ls hl => ?_)
    refine lv_goto (tgt := 4) hx hb dX7_weightOfSet_35 (by decide) ?_
    exact hrec4 _ _ _ _ _ hf hP hS (lv_sub hl [2, 3, 1, 0] rfl)
  have hB4 : ∀ (n : Nat), ∀ (x2 : Int32) (x3 : Int32) (H : Heap) (locs : List Loc) (ls : Array Slot), fX7_weightOfSet_4 v ar p1 n x2 x3 = some r → va_P D vwCl (mW cI a v ar) H → va_S (kA a 15) s.heap H locs → lv_has ls 4 [(0, .ref (a 0)), (1, .int p1), (2, .int x2), (3, .int x3)] → kGo p l e 1 21 s m args below meth c D (mW cI a) (kA a 15) (some (.int r)) v ar H locs (F0 m 4 ls []) := by
    intro  n
    induction n with
    | zero =>
      intro x2 x3 H locs ls hf
      have hf : (none : Option Int32) = some r := hf
      cases hf
    | succ n ih =>
      intro x2 x3 H locs ls hf hP hS hl
      have hf : fX7_weightOfSet_4b v ar p1 (fX7_weightOfSet_4 v ar p1 n) x2 x3 = some r := hf
      unfold fX7_weightOfSet_4b at hf
      refine lv_iload_n hx hb dX7_weightOfSet_4 rfl (lv_at hl 3 rfl) ?_
      refine lv_aload_n hx hb dX7_weightOfSet_5 rfl (lv_at hl 0 rfl) ?_
      refine xg_M_5 C0 hP q_602 dX7_weightOfSet_6 ?_
      refine lv_icmp_ge (tgt := 38) hx hb dX7_weightOfSet_9 (by decide) (fun c1 => ?_) (fun c1 => ?_)
      · have hf := kif_t c1 hf
        refine lv_iload_n hx hb dX7_weightOfSet_38 rfl (lv_at hl 2 rfl) ?_
        obtain rfl := Option.some.inj hf
        exact kret_i C0 hr hlk hP hS dX7_weightOfSet_39
      · have hf := kif_f c1 hf
        refine lv_iload_n hx hb dX7_weightOfSet_12 rfl (lv_at hl 2 rfl) ?_
        refine lv_iload_n hx hb dX7_weightOfSet_13 rfl (lv_at hl 1 rfl) ?_
        refine lv_iload_n hx hb dX7_weightOfSet_14 rfl (lv_at hl 3 rfl) ?_
        obtain ⟨r3, e2, hf⟩ := kb1_s hf
        refine kcallT (As := [.int p1, .int x3]) (rest := [.int x2]) C0 (cX7_isOf_c hap e2) q_734 kw_X7_isOf hP hS ⟨Nat.le_of_ble_eq_true rfl, Nat.le_of_ble_eq_true rfl⟩ rfl hl.1 rfl (Nat.le_of_ble_eq_true rfl) dX7_weightOfSet_15 (fun H locs hP hS => ?_)
        refine lv_if_eq (tgt := 29) hx hb dX7_weightOfSet_18 (by decide) (fun c4 => ?_) (fun c4 => ?_)
        · have hf := kif_t c4 hf
          refine lv_iconst (v := (0 : Int32)) hx hb dX7_weightOfSet_29 (by decide) ?_
          exact hB30 _ ih _ _ _ _ _ _ hf hP hS (lv_sub hl [0, 1, 3] rfl)
        · have hf := kif_f c4 hf
          refine lv_aload_n hx hb dX7_weightOfSet_21 rfl (lv_at hl 0 rfl) ?_
          refine lv_iload_n hx hb dX7_weightOfSet_22 rfl (lv_at hl 3 rfl) ?_
          obtain ⟨r6, e5, hf⟩ := kb1_s hf
          refine kcallV (As := [.int x3]) (rest := [.int x2]) C0 (cX7_weightOf_c hap e5) q_745 kw_X7_weightOf (xv_M C0.2 hP) hP hS ⟨Nat.le_of_ble_eq_true rfl, Nat.le_of_ble_eq_true rfl⟩ rfl hl.1 rfl (Nat.le_of_ble_eq_true rfl) dX7_weightOfSet_23 (fun H locs hP hS => ?_)
          refine lv_goto (tgt := 30) hx hb dX7_weightOfSet_26 (by decide) ?_
          exact hB30 _ ih _ _ _ _ _ _ hf hP hS (lv_sub hl [0, 1, 3] rfl)
  unfold fX7_weightOfSet at hf
  refine lv_iconst (v := (0 : Int32)) hx hb dX7_weightOfSet_0 (by decide) ?_
  refine lv_istore_n (lv' := [(2, .int (0 : Int32)), (0, .ref (a 0)), (1, .int p1)]) hx hb dX7_weightOfSet_1 rfl hl (by decide) rfl (fun ls hl => ?_)
  refine lv_iconst (v := (0 : Int32)) hx hb dX7_weightOfSet_2 (by decide) ?_
  refine lv_istore_n (lv' := [(3, .int (0 : Int32)), (2, .int (0 : Int32)), (0, .ref (a 0)), (1, .int p1)]) hx hb dX7_weightOfSet_3 rfl hl (by decide) rfl (fun ls hl => ?_)
  exact hB4 _ _ _ _ _ _ hf hP hS (lv_sub hl [2, 3, 1, 0] rfl)
set_option maxHeartbeats 4000000 in
set_option maxRecDepth 100000 in
theorem cX7_floatOf_c {l : Launch} {D : va_G} {cI cS : ClassId} {a : Nat → Nat} (hap : kAp a 15) {v : kV} {ar : kR} {p0 : Int32} {p1 : Int32} {r : Int32} (hf : fX7_floatOf p0 p1 = some r) : kMet l D cI cS (mW cI a) (kA a 15) yX7_floatOf cX7_floatOf 9 (some .int) 0 0 [.int p0, .int p1] v ar (some (.int r)) v ar := by
  refine kstart (by decide) (Nat.le_of_ble_eq_true rfl) ?_
  intro p e s m args below meth c ls C0 hr hlk hl hP hS
  have C0 : kC p s m c args cX7_floatOf 9 RX7 D cI cS := C0
  have hx := C0.1.1
  have hb := C0.1.2.1
  have hl : lv_has ls 9 [(0, .int p0), (1, .int p1)] := hl
  have hB78 : ∀ (x2 : Int32) (x5 : Int64) (H : Heap) (locs : List Loc) (ls : Array Slot), fX7_floatOf_78 p0 p1 x2 x5 = some r → va_P D vwCl (mW cI a v ar) H → va_S (kA a 15) s.heap H locs → lv_has ls 9 [(2, .int x2), (5, .long x5)] → kGo p l e 0 0 s m args below meth c D (mW cI a) (kA a 15) (some (.int r)) v ar H locs (F0 m 78 ls []) := by
    intro  x2 x5 H locs ls hf hP hS hl
    unfold fX7_floatOf_78 at hf
    refine lv_bipush (v := (127 : Int32)) hx hb dX7_floatOf_78 (by decide) ?_
    refine lv_iload_n hx hb dX7_floatOf_80 rfl (lv_at hl 0 rfl) ?_
    refine lv_isub hx hb dX7_floatOf_81 ?_
    refine lv_bipush (v := (23 : Int32)) hx hb dX7_floatOf_82 (by decide) ?_
    refine lv_ishl hx hb dX7_floatOf_84 ?_
    refine lv_lload hx hb dX7_floatOf_85 (lv_at hl 1 rfl) ?_
    refine lv_ldc2 (v := (8388608 : Int64)) hx hb C0.1.2.2.2.1 (C0.1.2.2.2.2 _ q_777) dX7_floatOf_87 ?_
    refine lv_lsub hx hb dX7_floatOf_90 ?_
    refine lv_l2i (v := ((x5 - (8388608 : Int64)).toInt32)) hx hb dX7_floatOf_91 rfl ?_
    refine lv_iadd hx hb dX7_floatOf_92 ?_
    obtain rfl := Option.some.inj hf
    exact kret_i C0 hr hlk hP hS dX7_floatOf_93
  have hB72 : ∀ (x2 : Int32) (x5 : Int64) (H : Heap) (locs : List Loc) (ls : Array Slot), fX7_floatOf_72 p0 p1 x2 x5 = some r → va_P D vwCl (mW cI a v ar) H → va_S (kA a 15) s.heap H locs → lv_has ls 9 [(2, .int x2), (5, .long x5)] → kGo p l e 0 0 s m args below meth c D (mW cI a) (kA a 15) (some (.int r)) v ar H locs (F0 m 72 ls []) := by
    intro  x2 x5 H locs ls hf hP hS hl
    unfold fX7_floatOf_72 at hf
    refine lv_lload hx hb dX7_floatOf_72 (lv_at hl 1 rfl) ?_
    refine lv_lconst (v := (1 : Int64)) hx hb dX7_floatOf_74 (by decide) ?_
    refine lv_ladd hx hb dX7_floatOf_75 ?_
    refine lv_lstore (lv' := [(5, .long (x5 + (1 : Int64))), (2, .int x2)]) hx hb dX7_floatOf_76 hl (by decide) rfl (fun ls hl => ?_)
    exact hB78 _ _ _ _ _ hf hP hS (lv_sub hl [1, 0] rfl)
  have hB8 : ∀ (n : Nat), ∀ (x2 : Int32) (H : Heap) (locs : List Loc) (ls : Array Slot), fX7_floatOf_8 p0 p1 n x2 = some r → va_P D vwCl (mW cI a v ar) H → va_S (kA a 15) s.heap H locs → lv_has ls 9 [(0, .int p0), (1, .int p1), (2, .int x2)] → kGo p l e 0 0 s m args below meth c D (mW cI a) (kA a 15) (some (.int r)) v ar H locs (F0 m 8 ls []) := by
    intro  n
    induction n with
    | zero =>
      intro x2 H locs ls hf
      have hf : (none : Option Int32) = some r := hf
      cases hf
    | succ n ih =>
      intro x2 H locs ls hf hP hS hl
      have hf : fX7_floatOf_8b p0 p1 (fX7_floatOf_8 p0 p1 n) x2 = some r := hf
      unfold fX7_floatOf_8b at hf
      refine lv_iload_n hx hb dX7_floatOf_8 rfl (lv_at hl 0 rfl) ?_
      refine lv_iload_n hx hb dX7_floatOf_9 rfl (lv_at hl 2 rfl) ?_
      refine lv_ishl hx hb dX7_floatOf_10 ?_
      refine lv_iload_n hx hb dX7_floatOf_11 rfl (lv_at hl 1 rfl) ?_
      refine lv_icmp_ge (tgt := 21) hx hb dX7_floatOf_12 (by decide) (fun c2 => ?_) (fun c2 => ?_)
      · have hf := kif_t c2 hf
        refine lv_iload_n hx hb dX7_floatOf_21 rfl (lv_at hl 0 rfl) ?_
        refine lv_i2l (v := (p0.toInt64)) hx hb dX7_floatOf_22 rfl ?_
        refine lv_bipush (v := (23 : Int32)) hx hb dX7_floatOf_23 (by decide) ?_
        refine lv_iload_n hx hb dX7_floatOf_25 rfl (lv_at hl 2 rfl) ?_
        refine lv_iadd hx hb dX7_floatOf_26 ?_
        refine lv_lshl (v := ((p0.toInt64) <<< (((23 : Int32) + x2).toInt64 &&& 63))) hx hb dX7_floatOf_27 rfl ?_
        refine lv_lstore_n (lv' := [(3, .long ((p0.toInt64) <<< (((23 : Int32) + x2).toInt64 &&& 63))), (0, .int p0), (1, .int p1), (2, .int x2)]) hx hb dX7_floatOf_28 rfl hl (by decide) rfl (fun ls hl => ?_)
        refine lv_lload_n hx hb dX7_floatOf_29 rfl (lv_at hl 0 rfl) ?_
        refine lv_iload_n hx hb dX7_floatOf_30 rfl (lv_at hl 2 rfl) ?_
        refine lv_i2l (v := (p1.toInt64)) hx hb dX7_floatOf_31 rfl ?_
        obtain ⟨g3, hf⟩ := kgd hf
        refine lv_ldiv hx hb dX7_floatOf_32 g3 ?_
        refine lv_lstore (lv' := [(5, .long (((p0.toInt64) <<< (((23 : Int32) + x2).toInt64 &&& 63)) / (p1.toInt64))), (3, .long ((p0.toInt64) <<< (((23 : Int32) + x2).toInt64 &&& 63))), (0, .int p0), (1, .int p1), (2, .int x2)]) hx hb dX7_floatOf_33 hl (by decide) rfl (fun ls hl => ?_)
        refine lv_ldc2 (v := (2 : Int64)) hx hb C0.1.2.2.2.1 (C0.1.2.2.2.2 _ q_776) dX7_floatOf_35 ?_
        refine lv_lload_n hx hb dX7_floatOf_38 rfl (lv_at hl 1 rfl) ?_
        refine lv_iload_n hx hb dX7_floatOf_39 rfl (lv_at hl 3 rfl) ?_
        refine lv_i2l (v := (p1.toInt64)) hx hb dX7_floatOf_40 rfl ?_
        obtain ⟨g4, hf⟩ := kgd hf
        refine lv_lrem hx hb dX7_floatOf_41 g4 ?_
        refine lv_lmul hx hb dX7_floatOf_42 ?_
        refine lv_lstore (lv' := [(7, .long ((2 : Int64) * (((p0.toInt64) <<< (((23 : Int32) + x2).toInt64 &&& 63)) - ((p0.toInt64) <<< (((23 : Int32) + x2).toInt64 &&& 63)) / (p1.toInt64) * (p1.toInt64)))), (5, .long (((p0.toInt64) <<< (((23 : Int32) + x2).toInt64 &&& 63)) / (p1.toInt64))), (3, .long ((p0.toInt64) <<< (((23 : Int32) + x2).toInt64 &&& 63))), (0, .int p0), (1, .int p1), (2, .int x2)]) hx hb dX7_floatOf_43 hl (by decide) rfl (fun ls hl => ?_)
        refine lv_lload hx hb dX7_floatOf_45 (lv_at hl 0 rfl) ?_
        refine lv_iload_n hx hb dX7_floatOf_47 rfl (lv_at hl 4 rfl) ?_
        refine lv_i2l (v := (p1.toInt64)) hx hb dX7_floatOf_48 rfl ?_
        refine W.lcmp hx hb dX7_floatOf_49 ?_
        refine lv_if_gt (tgt := 72) hx hb dX7_floatOf_50 (by decide) (fun c5 => ?_) (fun c5 => ?_)
        · have hf := kif_t c5 hf
          exact hB72 _ _ _ _ _ hf hP hS (lv_sub hl [5, 1] rfl)
        · have hf := kif_f c5 hf
          refine lv_lload hx hb dX7_floatOf_53 (lv_at hl 0 rfl) ?_
          refine lv_iload_n hx hb dX7_floatOf_55 rfl (lv_at hl 4 rfl) ?_
          refine lv_i2l (v := (p1.toInt64)) hx hb dX7_floatOf_56 rfl ?_
          refine W.lcmp hx hb dX7_floatOf_57 ?_
          refine lv_if_ne (tgt := 78) hx hb dX7_floatOf_58 (by decide) (fun c6 => ?_) (fun c6 => ?_)
          · have hf := kif_f c6 hf
            exact hB78 _ _ _ _ _ hf hP hS (lv_sub hl [5, 1] rfl)
          · have hf := kif_t c6 hf
            refine lv_lload hx hb dX7_floatOf_61 (lv_at hl 1 rfl) ?_
            refine lv_ldc2 (v := (2 : Int64)) hx hb C0.1.2.2.2.1 (C0.1.2.2.2.2 _ q_776) dX7_floatOf_63 ?_
            obtain ⟨g7, hf⟩ := kgd hf
            refine lv_lrem hx hb dX7_floatOf_66 g7 ?_
            refine lv_lconst (v := (1 : Int64)) hx hb dX7_floatOf_67 (by decide) ?_
            refine W.lcmp hx hb dX7_floatOf_68 ?_
            refine lv_if_ne (tgt := 78) hx hb dX7_floatOf_69 (by decide) (fun c8 => ?_) (fun c8 => ?_)
            · have hf := kif_f c8 hf
              exact hB78 _ _ _ _ _ hf hP hS (lv_sub hl [5, 1] rfl)
            · have hf := kif_t c8 hf
              exact hB72 _ _ _ _ _ hf hP hS (lv_sub hl [5, 1] rfl)
      · have hf := kif_f c2 hf
        refine lv_iinc (v := (x2 + (1 : Int32))) (lv' := [(2, .int (x2 + (1 : Int32))), (0, .int p0), (1, .int p1)]) hx hb dX7_floatOf_15 hl (k := 2) rfl rfl (by decide) rfl (fun ls hl => ?_)
        refine lv_goto (tgt := 8) hx hb dX7_floatOf_18 (by decide) ?_
        exact ih _ _ _ _ hf hP hS (lv_sub hl [1, 2, 0] rfl)
  unfold fX7_floatOf at hf
  refine lv_iload_n hx hb dX7_floatOf_0 rfl (lv_at hl 0 rfl) ?_
  refine lv_if_ne (tgt := 6) hx hb dX7_floatOf_1 (by decide) (fun c1 => ?_) (fun c1 => ?_)
  · have hf := kif_f c1 hf
    refine lv_iconst (v := (0 : Int32)) hx hb dX7_floatOf_6 (by decide) ?_
    refine lv_istore_n (lv' := [(2, .int (0 : Int32)), (0, .int p0), (1, .int p1)]) hx hb dX7_floatOf_7 rfl hl (by decide) rfl (fun ls hl => ?_)
    exact hB8 _ _ _ _ _ hf hP hS (lv_sub hl [1, 2, 0] rfl)
  · have hf := kif_t c1 hf
    refine lv_iconst (v := (0 : Int32)) hx hb dX7_floatOf_4 (by decide) ?_
    obtain rfl := Option.some.inj hf
    exact kret_i C0 hr hlk hP hS dX7_floatOf_5
set_option maxHeartbeats 4000000 in
set_option maxRecDepth 100000 in
theorem cX7_ofCell_c {l : Launch} {D : va_G} {cI cS : ClassId} {a : Nat → Nat} (hap : kAp a 15) {v : kV} {ar : kR} {p1 : Int32} {p2 : Int32} {r : Int32} (hf : fX7_ofCell v ar p1 p2 = some r) : kMet l D cI cS (mW cI a) (kA a 15) yX7_ofCell cX7_ofCell 3 (some .int) 3 68 [.ref (a 0), .int p1, .int p2] v ar (some (.int r)) v ar := by
  refine kstart (by decide) (Nat.le_of_ble_eq_true rfl) ?_
  intro p e s m args below meth c ls C0 hr hlk hl hP hS
  have C0 : kC p s m c args cX7_ofCell 3 RX7 D cI cS := C0
  have hx := C0.1.1
  have hb := C0.1.2.1
  have hl : lv_has ls 3 [(0, .ref (a 0)), (1, .int p1), (2, .int p2)] := hl
  unfold fX7_ofCell at hf
  refine lv_aload_n hx hb dX7_ofCell_0 rfl (lv_at hl 0 rfl) ?_
  refine lv_iload_n hx hb dX7_ofCell_1 rfl (lv_at hl 1 rfl) ?_
  obtain ⟨r2, e1, hf⟩ := kb1_s hf
  refine kcallV (As := [.int p1]) (rest := []) C0 (cX7_isCell_c hap e1) q_741 kw_X7_isCell (xv_M C0.2 hP) hP hS ⟨Nat.le_of_ble_eq_true rfl, Nat.le_of_ble_eq_true rfl⟩ rfl hl.1 rfl (Nat.le_of_ble_eq_true rfl) dX7_ofCell_2 (fun H locs hP hS => ?_)
  refine lv_if_ne (tgt := 10) hx hb dX7_ofCell_5 (by decide) (fun c3 => ?_) (fun c3 => ?_)
  · have hf := kif_f c3 hf
    refine lv_iload_n hx hb dX7_ofCell_10 rfl (lv_at hl 2 rfl) ?_
    by_cases c4 : p2 = (0 : Int32)
    · have hf := kif_t c4 hf
      refine lv_tableIn (tgt := 56) (off := (45 : Int)) hx hb dX7_ofCell_11 (by rw [c4]; decide) (by rw [c4]; decide) (by rw [c4]; decide) (by decide) ?_
      refine lv_aload_n hx hb dX7_ofCell_56 rfl (lv_at hl 0 rfl) ?_
      refine xg_M_13 C0 hP q_610 dX7_ofCell_57 ?_
      refine lv_iload_n hx hb dX7_ofCell_60 rfl (lv_at hl 1 rfl) ?_
      obtain ⟨g5, hf⟩ := kgd hf
      refine ml_kind C0 hP g5 dX7_ofCell_61 ?_
      obtain rfl := Option.some.inj hf
      exact kret_i C0 hr hlk hP hS dX7_ofCell_62
    · have hf := kif_f c4 hf
      by_cases c6 : p2 = (1 : Int32)
      · have hf := kif_t c6 hf
        refine lv_tableIn (tgt := 63) (off := (52 : Int)) hx hb dX7_ofCell_11 (by rw [c6]; decide) (by rw [c6]; decide) (by rw [c6]; decide) (by decide) ?_
        refine lv_aload_n hx hb dX7_ofCell_63 rfl (lv_at hl 0 rfl) ?_
        refine xg_M_14 C0 hP q_611 dX7_ofCell_64 ?_
        refine lv_iload_n hx hb dX7_ofCell_67 rfl (lv_at hl 1 rfl) ?_
        obtain ⟨g7, hf⟩ := kgd hf
        refine ml_bulk C0 hP g7 dX7_ofCell_68 ?_
        obtain rfl := Option.some.inj hf
        exact kret_i C0 hr hlk hP hS dX7_ofCell_69
      · have hf := kif_f c6 hf
        by_cases c8 : p2 = (2 : Int32)
        · have hf := kif_t c8 hf
          refine lv_tableIn (tgt := 70) (off := (59 : Int)) hx hb dX7_ofCell_11 (by rw [c8]; decide) (by rw [c8]; decide) (by rw [c8]; decide) (by decide) ?_
          refine lv_aload_n hx hb dX7_ofCell_70 rfl (lv_at hl 0 rfl) ?_
          refine lv_iload_n hx hb dX7_ofCell_71 rfl (lv_at hl 1 rfl) ?_
          obtain ⟨r10, e9, hf⟩ := kb1_s hf
          refine kcallV (As := [.int p1]) (rest := []) C0 (cX7_weightOf_c hap e9) q_745 kw_X7_weightOf (xv_M C0.2 hP) hP hS ⟨Nat.le_of_ble_eq_true rfl, Nat.le_of_ble_eq_true rfl⟩ rfl hl.1 rfl (Nat.le_of_ble_eq_true rfl) dX7_ofCell_72 (fun H locs hP hS => ?_)
          obtain rfl := Option.some.inj hf
          exact kret_i C0 hr hlk hP hS dX7_ofCell_75
        · have hf := kif_f c8 hf
          by_cases c11 : p2 = (3 : Int32)
          · have hf := kif_t c11 hf
            refine lv_tableIn (tgt := 76) (off := (65 : Int)) hx hb dX7_ofCell_11 (by rw [c11]; decide) (by rw [c11]; decide) (by rw [c11]; decide) (by decide) ?_
            refine lv_aload_n hx hb dX7_ofCell_76 rfl (lv_at hl 0 rfl) ?_
            refine xg_M_7 C0 hP q_604 dX7_ofCell_77 ?_
            refine lv_iload_n hx hb dX7_ofCell_80 rfl (lv_at hl 1 rfl) ?_
            refine lv_ishr hx hb dX7_ofCell_81 ?_
            refine lv_iconst (v := (1 : Int32)) hx hb dX7_ofCell_82 (by decide) ?_
            refine lv_iand hx hb dX7_ofCell_83 ?_
            obtain rfl := Option.some.inj hf
            exact kret_i C0 hr hlk hP hS dX7_ofCell_84
          · have hf := kif_f c11 hf
            by_cases c12 : p2 = (4 : Int32)
            · have hf := kif_t c12 hf
              refine lv_tableIn (tgt := 85) (off := (74 : Int)) hx hb dX7_ofCell_11 (by rw [c12]; decide) (by rw [c12]; decide) (by rw [c12]; decide) (by decide) ?_
              refine lv_aload_n hx hb dX7_ofCell_85 rfl (lv_at hl 0 rfl) ?_
              refine xg_M_8 C0 hP q_605 dX7_ofCell_86 ?_
              refine lv_iload_n hx hb dX7_ofCell_89 rfl (lv_at hl 1 rfl) ?_
              refine lv_ishr hx hb dX7_ofCell_90 ?_
              refine lv_iconst (v := (1 : Int32)) hx hb dX7_ofCell_91 (by decide) ?_
              refine lv_iand hx hb dX7_ofCell_92 ?_
              obtain rfl := Option.some.inj hf
              exact kret_i C0 hr hlk hP hS dX7_ofCell_93
            · have hf := kif_f c12 hf
              by_cases c13 : p2 = (5 : Int32)
              · have hf := kif_t c13 hf
                refine lv_tableIn (tgt := 94) (off := (83 : Int)) hx hb dX7_ofCell_11 (by rw [c13]; decide) (by rw [c13]; decide) (by rw [c13]; decide) (by decide) ?_
                refine lv_aload_n hx hb dX7_ofCell_94 rfl (lv_at hl 0 rfl) ?_
                refine lv_iload_n hx hb dX7_ofCell_95 rfl (lv_at hl 1 rfl) ?_
                obtain ⟨r15, e14, hf⟩ := kb1_s hf
                refine kcallV (As := [.int p1]) (rest := []) C0 (cX7_netsOf_c hap e14) q_749 kw_X7_netsOf (xv_M C0.2 hP) hP hS ⟨Nat.le_of_ble_eq_true rfl, Nat.le_of_ble_eq_true rfl⟩ rfl hl.1 rfl (Nat.le_of_ble_eq_true rfl) dX7_ofCell_96 (fun H locs hP hS => ?_)
                obtain rfl := Option.some.inj hf
                exact kret_i C0 hr hlk hP hS dX7_ofCell_99
              · have hf := kif_f c13 hf
                by_cases c16 : p2 = (6 : Int32)
                · have hf := kif_t c16 hf
                  refine lv_tableIn (tgt := 100) (off := (89 : Int)) hx hb dX7_ofCell_11 (by rw [c16]; decide) (by rw [c16]; decide) (by rw [c16]; decide) (by decide) ?_
                  refine lv_aload_n hx hb dX7_ofCell_100 rfl (lv_at hl 0 rfl) ?_
                  refine lv_iload_n hx hb dX7_ofCell_101 rfl (lv_at hl 1 rfl) ?_
                  refine lv_aload_n hx hb dX7_ofCell_102 rfl (lv_at hl 0 rfl) ?_
                  refine xg_M_7 C0 hP q_604 dX7_ofCell_103 ?_
                  obtain ⟨r18, e17, hf⟩ := kb1_s hf
                  refine kcallV (As := [.int p1, .int (v (7))]) (rest := []) C0 (cX7_gainOf_c hap e17) q_753 kw_X7_gainOf (xv_M C0.2 hP) hP hS ⟨Nat.le_of_ble_eq_true rfl, Nat.le_of_ble_eq_true rfl⟩ rfl hl.1 rfl (Nat.le_of_ble_eq_true rfl) dX7_ofCell_106 (fun H locs hP hS => ?_)
                  refine lv_bipush (v := (10 : Int32)) hx hb dX7_ofCell_109 (by decide) ?_
                  refine lv_iadd hx hb dX7_ofCell_111 ?_
                  obtain rfl := Option.some.inj hf
                  exact kret_i C0 hr hlk hP hS dX7_ofCell_112
                · have hf := kif_f c16 hf
                  by_cases c19 : p2 = (7 : Int32)
                  · have hf := kif_t c19 hf
                    refine lv_tableIn (tgt := 113) (off := (102 : Int)) hx hb dX7_ofCell_11 (by rw [c19]; decide) (by rw [c19]; decide) (by rw [c19]; decide) (by decide) ?_
                    refine lv_aload_n hx hb dX7_ofCell_113 rfl (lv_at hl 0 rfl) ?_
                    refine lv_iload_n hx hb dX7_ofCell_114 rfl (lv_at hl 1 rfl) ?_
                    obtain ⟨r21, e20, hf⟩ := kb1_s hf
                    refine kcallV (As := [.int p1]) (rest := []) C0 (cX7_weightOf_c hap e20) q_745 kw_X7_weightOf (xv_M C0.2 hP) hP hS ⟨Nat.le_of_ble_eq_true rfl, Nat.le_of_ble_eq_true rfl⟩ rfl hl.1 rfl (Nat.le_of_ble_eq_true rfl) dX7_ofCell_115 (fun H locs hP hS => ?_)
                    refine lv_aload_n hx hb dX7_ofCell_118 rfl (lv_at hl 0 rfl) ?_
                    refine lv_aload_n hx hb dX7_ofCell_119 rfl (lv_at hl 0 rfl) ?_
                    obtain ⟨r23, e22, hf⟩ := kb1_s hf
                    refine kcallV (As := []) (rest := [.ref (a 0), .int r21]) C0 (cX7_all_c hap e22) q_765 kw_X7_all (xv_M C0.2 hP) hP hS ⟨Nat.le_of_ble_eq_true rfl, Nat.le_of_ble_eq_true rfl⟩ rfl hl.1 rfl (Nat.le_of_ble_eq_true rfl) dX7_ofCell_120 (fun H locs hP hS => ?_)
                    obtain ⟨r25, e24, hf⟩ := kb1_s hf
                    refine kcallV (As := [.int r23]) (rest := [.int r21]) C0 (cX7_weightOfSet_c hap e24) q_769 kw_X7_weightOfSet (xv_M C0.2 hP) hP hS ⟨Nat.le_of_ble_eq_true rfl, Nat.le_of_ble_eq_true rfl⟩ rfl hl.1 rfl (Nat.le_of_ble_eq_true rfl) dX7_ofCell_123 (fun H locs hP hS => ?_)
                    obtain ⟨r27, e26, hf⟩ := kb1_s hf
                    refine kcallT (As := [.int r21, .int r25]) (rest := []) C0 (cX7_floatOf_c hap e26) q_773 kw_X7_floatOf hP hS ⟨Nat.le_of_ble_eq_true rfl, Nat.le_of_ble_eq_true rfl⟩ rfl hl.1 rfl (Nat.le_of_ble_eq_true rfl) dX7_ofCell_126 (fun H locs hP hS => ?_)
                    obtain rfl := Option.some.inj hf
                    exact kret_i C0 hr hlk hP hS dX7_ofCell_129
                  · have hf := kif_f c19 hf
                    refine lv_tableOut (tgt := 130) hx hb dX7_ofCell_11 (kswO 8 (by decide) (fun k hk => match k, hk with | 0, _ => lv_neT c4 (by decide) | 1, _ => lv_neT c6 (by decide) | 2, _ => lv_neT c8 (by decide) | 3, _ => lv_neT c11 (by decide) | 4, _ => lv_neT c12 (by decide) | 5, _ => lv_neT c13 (by decide) | 6, _ => lv_neT c16 (by decide) | 7, _ => lv_neT c19 (by decide) | n + 8, hk => absurd hk (by omega))) (by decide) ?_
                    refine lv_bipush (v := (-2 : Int32)) hx hb dX7_ofCell_130 (by decide) ?_
                    obtain rfl := Option.some.inj hf
                    exact kret_i C0 hr hlk hP hS dX7_ofCell_132
  · have hf := kif_t c3 hf
    refine lv_iconst (v := (-1 : Int32)) hx hb dX7_ofCell_8 (by decide) ?_
    obtain rfl := Option.some.inj hf
    exact kret_i C0 hr hlk hP hS dX7_ofCell_9
set_option maxHeartbeats 4000000 in
set_option maxRecDepth 100000 in
theorem cX7_ofNet_c {l : Launch} {D : va_G} {cI cS : ClassId} {a : Nat → Nat} (hap : kAp a 15) {v : kV} {ar : kR} {p1 : Int32} {p2 : Int32} {r : Int32} (hf : fX7_ofNet v ar p1 p2 = some r) : kMet l D cI cS (mW cI a) (kA a 15) yX7_ofNet cX7_ofNet 3 (some .int) 1 23 [.ref (a 0), .int p1, .int p2] v ar (some (.int r)) v ar := by
  refine kstart (by decide) (Nat.le_of_ble_eq_true rfl) ?_
  intro p e s m args below meth c ls C0 hr hlk hl hP hS
  have C0 : kC p s m c args cX7_ofNet 3 RX7 D cI cS := C0
  have hx := C0.1.1
  have hb := C0.1.2.1
  have hl : lv_has ls 3 [(0, .ref (a 0)), (1, .int p1), (2, .int p2)] := hl
  unfold fX7_ofNet at hf
  refine lv_iload_n hx hb dX7_ofNet_0 rfl (lv_at hl 1 rfl) ?_
  refine lv_if_lt (tgt := 12) hx hb dX7_ofNet_1 (by decide) (fun c1 => ?_) (fun c1 => ?_)
  · have hf := kif_t c1 hf
    refine lv_iconst (v := (-1 : Int32)) hx hb dX7_ofNet_12 (by decide) ?_
    obtain rfl := Option.some.inj hf
    exact kret_i C0 hr hlk hP hS dX7_ofNet_13
  · have hf := kif_f c1 hf
    refine lv_iload_n hx hb dX7_ofNet_4 rfl (lv_at hl 1 rfl) ?_
    refine lv_aload_n hx hb dX7_ofNet_5 rfl (lv_at hl 0 rfl) ?_
    refine xg_M_6 C0 hP q_603 dX7_ofNet_6 ?_
    refine lv_icmp_lt (tgt := 14) hx hb dX7_ofNet_9 (by decide) (fun c2 => ?_) (fun c2 => ?_)
    · have hf := kif_t c2 hf
      refine lv_iload_n hx hb dX7_ofNet_14 rfl (lv_at hl 2 rfl) ?_
      refine lv_if_ne (tgt := 27) hx hb dX7_ofNet_15 (by decide) (fun c3 => ?_) (fun c3 => ?_)
      · have hf := kif_f c3 hf
        refine lv_iload_n hx hb dX7_ofNet_27 rfl (lv_at hl 2 rfl) ?_
        refine lv_iconst (v := (1 : Int32)) hx hb dX7_ofNet_28 (by decide) ?_
        refine lv_icmp_ne (tgt := 46) hx hb dX7_ofNet_29 (by decide) (fun c4 => ?_) (fun c4 => ?_)
        · have hf := kif_f c4 hf
          refine lv_iload_n hx hb dX7_ofNet_46 rfl (lv_at hl 2 rfl) ?_
          refine lv_iconst (v := (2 : Int32)) hx hb dX7_ofNet_47 (by decide) ?_
          refine lv_icmp_ne (tgt := 71) hx hb dX7_ofNet_48 (by decide) (fun c5 => ?_) (fun c5 => ?_)
          · have hf := kif_f c5 hf
            refine lv_bipush (v := (-2 : Int32)) hx hb dX7_ofNet_71 (by decide) ?_
            obtain rfl := Option.some.inj hf
            exact kret_i C0 hr hlk hP hS dX7_ofNet_73
          · have hf := kif_t c5 hf
            refine lv_aload_n hx hb dX7_ofNet_51 rfl (lv_at hl 0 rfl) ?_
            refine lv_iload_n hx hb dX7_ofNet_52 rfl (lv_at hl 1 rfl) ?_
            refine lv_aload_n hx hb dX7_ofNet_53 rfl (lv_at hl 0 rfl) ?_
            refine xg_M_7 C0 hP q_604 dX7_ofNet_54 ?_
            obtain ⟨r7, e6, hf⟩ := kb1_s hf
            refine kcallV (As := [.int p1, .int (v (7))]) (rest := []) C0 (cX7_isCut_c hap e6) q_761 kw_X7_isCut (xv_M C0.2 hP) hP hS ⟨Nat.le_of_ble_eq_true rfl, Nat.le_of_ble_eq_true rfl⟩ rfl hl.1 rfl (Nat.le_of_ble_eq_true rfl) dX7_ofNet_57 (fun H locs hP hS => ?_)
            refine lv_if_eq (tgt := 67) hx hb dX7_ofNet_60 (by decide) (fun c8 => ?_) (fun c8 => ?_)
            · have hf := kif_t c8 hf
              refine lv_iconst (v := (0 : Int32)) hx hb dX7_ofNet_67 (by decide) ?_
              refine lv_goto (tgt := 73) hx hb dX7_ofNet_68 (by decide) ?_
              obtain rfl := Option.some.inj hf
              exact kret_i C0 hr hlk hP hS dX7_ofNet_73
            · have hf := kif_f c8 hf
              refine lv_iconst (v := (1 : Int32)) hx hb dX7_ofNet_63 (by decide) ?_
              refine lv_goto (tgt := 73) hx hb dX7_ofNet_64 (by decide) ?_
              obtain rfl := Option.some.inj hf
              exact kret_i C0 hr hlk hP hS dX7_ofNet_73
        · have hf := kif_t c4 hf
          refine lv_aload_n hx hb dX7_ofNet_32 rfl (lv_at hl 0 rfl) ?_
          refine xg_M_15 C0 hP q_612 dX7_ofNet_33 ?_
          refine lv_iload_n hx hb dX7_ofNet_36 rfl (lv_at hl 1 rfl) ?_
          obtain ⟨g9, hf⟩ := kgd hf
          refine ml_net C0 hP g9 dX7_ofNet_37 ?_
          refine lv_aload_n hx hb dX7_ofNet_38 rfl (lv_at hl 0 rfl) ?_
          refine xg_M_7 C0 hP q_604 dX7_ofNet_39 ?_
          refine lv_iand hx hb dX7_ofNet_42 ?_
          refine lv_goto (tgt := 73) hx hb dX7_ofNet_43 (by decide) ?_
          obtain rfl := Option.some.inj hf
          exact kret_i C0 hr hlk hP hS dX7_ofNet_73
      · have hf := kif_t c3 hf
        refine lv_aload_n hx hb dX7_ofNet_18 rfl (lv_at hl 0 rfl) ?_
        refine xg_M_15 C0 hP q_612 dX7_ofNet_19 ?_
        refine lv_iload_n hx hb dX7_ofNet_22 rfl (lv_at hl 1 rfl) ?_
        obtain ⟨g10, hf⟩ := kgd hf
        refine ml_net C0 hP g10 dX7_ofNet_23 ?_
        refine lv_goto (tgt := 73) hx hb dX7_ofNet_24 (by decide) ?_
        obtain rfl := Option.some.inj hf
        exact kret_i C0 hr hlk hP hS dX7_ofNet_73
    · have hf := kif_f c2 hf
      refine lv_iconst (v := (-1 : Int32)) hx hb dX7_ofNet_12 (by decide) ?_
      obtain rfl := Option.some.inj hf
      exact kret_i C0 hr hlk hP hS dX7_ofNet_13
set_option maxHeartbeats 4000000 in
set_option maxRecDepth 100000 in
theorem cX7_shareOf_c {l : Launch} {D : va_G} {cI cS : ClassId} {a : Nat → Nat} (hap : kAp a 15) {v : kV} {ar : kR} {p1 : Int32} {p2 : Int32} {r : Int32} (hf : fX7_shareOf v ar p1 p2 = some r) : kMet l D cI cS (mW cI a) (kA a 15) yX7_shareOf cX7_shareOf 3 (some .int) 2 44 [.ref (a 0), .int p1, .int p2] v ar (some (.int r)) v ar := by
  refine kstart (by decide) (Nat.le_of_ble_eq_true rfl) ?_
  intro p e s m args below meth c ls C0 hr hlk hl hP hS
  have C0 : kC p s m c args cX7_shareOf 3 RX7 D cI cS := C0
  have hx := C0.1.1
  have hb := C0.1.2.1
  have hl : lv_has ls 3 [(0, .ref (a 0)), (1, .int p1), (2, .int p2)] := hl
  have hB18 : ∀ (s0 : Int32) (H : Heap) (locs : List Loc) (ls : Array Slot), fX7_shareOf_18 v ar p1 p2 s0 = some r → va_P D vwCl (mW cI a v ar) H → va_S (kA a 15) s.heap H locs → lv_has ls 3 [(0, .ref (a 0))] → kGo p l e 2 44 s m args below meth c D (mW cI a) (kA a 15) (some (.int r)) v ar H locs (F0 m 18 ls [.int s0, .ref (a 0)]) := by
    intro  s0 H locs ls hf hP hS hl
    unfold fX7_shareOf_18 at hf
    obtain ⟨r5, e4, hf⟩ := kb1_s hf
    refine kcallV (As := [.int s0]) (rest := []) C0 (cX7_weightOfSet_c hap e4) q_769 kw_X7_weightOfSet (xv_M C0.2 hP) hP hS ⟨Nat.le_of_ble_eq_true rfl, Nat.le_of_ble_eq_true rfl⟩ rfl hl.1 rfl (Nat.le_of_ble_eq_true rfl) dX7_shareOf_18 (fun H locs hP hS => ?_)
    refine lv_aload_n hx hb dX7_shareOf_21 rfl (lv_at hl 0 rfl) ?_
    refine lv_aload_n hx hb dX7_shareOf_22 rfl (lv_at hl 0 rfl) ?_
    obtain ⟨r7, e6, hf⟩ := kb1_s hf
    refine kcallV (As := []) (rest := [.ref (a 0), .int r5]) C0 (cX7_all_c hap e6) q_765 kw_X7_all (xv_M C0.2 hP) hP hS ⟨Nat.le_of_ble_eq_true rfl, Nat.le_of_ble_eq_true rfl⟩ rfl hl.1 rfl (Nat.le_of_ble_eq_true rfl) dX7_shareOf_23 (fun H locs hP hS => ?_)
    obtain ⟨r9, e8, hf⟩ := kb1_s hf
    refine kcallV (As := [.int r7]) (rest := [.int r5]) C0 (cX7_weightOfSet_c hap e8) q_769 kw_X7_weightOfSet (xv_M C0.2 hP) hP hS ⟨Nat.le_of_ble_eq_true rfl, Nat.le_of_ble_eq_true rfl⟩ rfl hl.1 rfl (Nat.le_of_ble_eq_true rfl) dX7_shareOf_26 (fun H locs hP hS => ?_)
    obtain ⟨r11, e10, hf⟩ := kb1_s hf
    refine kcallT (As := [.int r5, .int r9]) (rest := []) C0 (cX7_floatOf_c hap e10) q_773 kw_X7_floatOf hP hS ⟨Nat.le_of_ble_eq_true rfl, Nat.le_of_ble_eq_true rfl⟩ rfl hl.1 rfl (Nat.le_of_ble_eq_true rfl) dX7_shareOf_29 (fun H locs hP hS => ?_)
    obtain rfl := Option.some.inj hf
    exact kret_i C0 hr hlk hP hS dX7_shareOf_32
  unfold fX7_shareOf at hf
  refine lv_aload_n hx hb dX7_shareOf_0 rfl (lv_at hl 0 rfl) ?_
  refine lv_iload_n hx hb dX7_shareOf_1 rfl (lv_at hl 1 rfl) ?_
  refine lv_iconst (v := (1 : Int32)) hx hb dX7_shareOf_2 (by decide) ?_
  refine lv_icmp_ne (tgt := 10) hx hb dX7_shareOf_3 (by decide) (fun c1 => ?_) (fun c1 => ?_)
  · have hf := kif_f c1 hf
    refine lv_aload_n hx hb dX7_shareOf_10 rfl (lv_at hl 0 rfl) ?_
    obtain ⟨r3, e2, hf⟩ := kb1_s hf
    refine kcallV (As := []) (rest := [.ref (a 0)]) C0 (cX7_all_c hap e2) q_765 kw_X7_all (xv_M C0.2 hP) hP hS ⟨Nat.le_of_ble_eq_true rfl, Nat.le_of_ble_eq_true rfl⟩ rfl hl.1 rfl (Nat.le_of_ble_eq_true rfl) dX7_shareOf_11 (fun H locs hP hS => ?_)
    refine lv_iload_n hx hb dX7_shareOf_14 rfl (lv_at hl 2 rfl) ?_
    refine lv_iconst (v := (-1 : Int32)) hx hb dX7_shareOf_15 (by decide) ?_
    refine lv_ixor hx hb dX7_shareOf_16 ?_
    refine lv_iand hx hb dX7_shareOf_17 ?_
    exact hB18 _ _ _ _ hf hP hS (lv_sub hl [0] rfl)
  · have hf := kif_t c1 hf
    refine lv_iload_n hx hb dX7_shareOf_6 rfl (lv_at hl 2 rfl) ?_
    refine lv_goto (tgt := 18) hx hb dX7_shareOf_7 (by decide) ?_
    exact hB18 _ _ _ _ hf hP hS (lv_sub hl [0] rfl)
set_option maxHeartbeats 4000000 in
set_option maxRecDepth 100000 in
theorem cX7_isWithin_c {l : Launch} {D : va_G} {cI cS : ClassId} {a : Nat → Nat} (hap : kAp a 15) {v : kV} {ar : kR} {p1 : Int32} {p2 : Int32} {r : Bool} (hf : fX7_isWithin v ar p1 p2 = some r) : kMet l D cI cS (mW cI a) (kA a 15) yX7_isWithin cX7_isWithin 3 (some .boolean) 3 66 [.ref (a 0), .int p1, .int p2] v ar (some (.int (bI r))) v ar := by
  refine kstart (by decide) (Nat.le_of_ble_eq_true rfl) ?_
  intro p e s m args below meth c ls C0 hr hlk hl hP hS
  have C0 : kC p s m c args cX7_isWithin 3 RX7 D cI cS := C0
  have hx := C0.1.1
  have hb := C0.1.2.1
  have hl : lv_has ls 3 [(0, .ref (a 0)), (1, .int p1), (2, .int p2)] := hl
  unfold fX7_isWithin at hf
  refine lv_aload_n hx hb dX7_isWithin_0 rfl (lv_at hl 0 rfl) ?_
  refine lv_iload_n hx hb dX7_isWithin_1 rfl (lv_at hl 1 rfl) ?_
  refine lv_iload_n hx hb dX7_isWithin_2 rfl (lv_at hl 2 rfl) ?_
  obtain ⟨r2, e1, hf⟩ := kb1_s hf
  refine kcallV (As := [.int p1, .int p2]) (rest := []) C0 (cX7_shareOf_c hap e1) q_786 kw_X7_shareOf (xv_M C0.2 hP) hP hS ⟨Nat.le_of_ble_eq_true rfl, Nat.le_of_ble_eq_true rfl⟩ rfl hl.1 rfl (Nat.le_of_ble_eq_true rfl) dX7_isWithin_3 (fun H locs hP hS => ?_)
  refine lv_aload_n hx hb dX7_isWithin_6 rfl (lv_at hl 0 rfl) ?_
  refine xg_M_9 C0 hP q_606 dX7_isWithin_7 ?_
  refine lv_icmp_gt (tgt := 17) hx hb dX7_isWithin_10 (by decide) (fun c3 => ?_) (fun c3 => ?_)
  · have hf := kif_t c3 hf
    refine lv_iconst (v := (0 : Int32)) hx hb dX7_isWithin_17 (by decide) ?_
    obtain rfl := Option.some.inj hf
    exact kret_z false rfl C0 hr hlk hP hS dX7_isWithin_18
  · have hf := kif_f c3 hf
    refine lv_iconst (v := (1 : Int32)) hx hb dX7_isWithin_13 (by decide) ?_
    refine lv_goto (tgt := 18) hx hb dX7_isWithin_14 (by decide) ?_
    obtain rfl := Option.some.inj hf
    exact kret_z true rfl C0 hr hlk hP hS dX7_isWithin_18
