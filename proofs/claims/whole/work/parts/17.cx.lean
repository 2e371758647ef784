set_option maxHeartbeats 4000000 in
set_option maxRecDepth 100000 in
theorem cX6_stowed_c {l : Launch} {D : va_G} {cI cS : ClassId} {a : Nat → Nat} (hap : kAp a 29) {v : kV} {ar : kR} {p1 : Int32} {r : Int32} {v2 : kV} {ar2 : kR} (hf : fX6_stowed v ar p1 = some (r, v2, ar2)) : kMet l D cI cS (xW cI cS a) (kA a 29) yX6_stowed cX6_stowed 3 (some .int) 1 21 [.ref (a 0), .int p1] v ar (some (.int r)) v2 ar2 := by
  refine kstart (by decide) (Nat.le_of_ble_eq_true rfl) ?_
  intro p e s m args below meth c ls C0 hr hlk hl hP hS
  have C0 : kC p s m c args cX6_stowed 3 RX6 D cI cS := C0
  have hx := C0.1.1
  have hb := C0.1.2.1
  have hl : lv_has ls 3 [(0, .ref (a 0)), (1, .int p1)] := hl
  unfold fX6_stowed at hf
  refine lv_aload_n hx hb dX6_stowed_0 rfl (lv_at hl 0 rfl) ?_
  refine xg_HC_5 C0 hP q_174 dX6_stowed_1 ?_
  refine lv_iload_n hx hb dX6_stowed_4 rfl (lv_at hl 1 rfl) ?_
  obtain ⟨r2, e1, hf⟩ := kb1_s hf
  refine kcallV (As := [.int p1]) (rest := []) C0 (cX2_faultAt_c hap e1) q_478 kw_X2_faultAt (xv_R C0.2 hP) hP hS ⟨Nat.le_of_ble_eq_true rfl, Nat.le_of_ble_eq_true rfl⟩ rfl hl.1 rfl (Nat.le_of_ble_eq_true rfl) dX6_stowed_5 (fun H locs hP hS => ?_)
  refine lv_istore_n (lv' := [(2, .int r2), (0, .ref (a 0)), (1, .int p1)]) hx hb dX6_stowed_8 rfl hl (by decide) rfl (fun ls hl => ?_)
  refine lv_iload_n hx hb dX6_stowed_9 rfl (lv_at hl 0 rfl) ?_
  refine lv_if_eq (tgt := 19) hx hb dX6_stowed_10 (by decide) (fun c3 => ?_) (fun c3 => ?_)
  · have hf := kif_t c3 hf
    refine lv_aload_n hx hb dX6_stowed_19 rfl (lv_at hl 1 rfl) ?_
    refine lv_iconst (v := (0 : Int32)) hx hb dX6_stowed_20 (by decide) ?_
    refine xp_HC_8 C0 hap hP hS q_177 dX6_stowed_21 (fun H locs hP hS => ?_)
    refine lv_aload_n hx hb dX6_stowed_24 rfl (lv_at hl 1 rfl) ?_
    refine xg_HC_5 C0 hP q_174 dX6_stowed_25 ?_
    refine xg_R_3 C0 hP q_123 dX6_stowed_28 ?_
    refine lv_iload_n hx hb dX6_stowed_31 rfl (lv_at hl 2 rfl) ?_
    obtain ⟨g4, hf⟩ := kgd hf
    refine xl_held C0 hP g4 dX6_stowed_32 ?_
    obtain ⟨rfl, rfl, rfl⟩ := kinj3 hf
    exact kret_i C0 hr hlk hP hS dX6_stowed_33
  · have hf := kif_f c3 hf
    refine lv_aload_n hx hb dX6_stowed_13 rfl (lv_at hl 1 rfl) ?_
    refine lv_iload_n hx hb dX6_stowed_14 rfl (lv_at hl 0 rfl) ?_
    obtain ⟨r6, v7, ar8, e5, hf⟩ := kb3_s hf
    refine kcallV (As := [.int r2]) (rest := []) C0 (cX6_failed_c hap e5) q_219 kw_X6_failed (xv_HC C0.2 hP) hP hS ⟨Nat.le_of_ble_eq_true rfl, Nat.le_of_ble_eq_true rfl⟩ rfl hl.1 rfl (Nat.le_of_ble_eq_true rfl) dX6_stowed_15 (fun H locs hP hS => ?_)
    obtain ⟨rfl, rfl, rfl⟩ := kinj3 hf
    exact kret_i C0 hr hlk hP hS dX6_stowed_18
set_option maxHeartbeats 4000000 in
set_option maxRecDepth 100000 in
theorem cX3_add_c {l : Launch} {D : va_G} {cI cS : ClassId} {a : Nat → Nat} (hap : kAp a 29) {v : kV} {ar : kR} {p1 : Int32} {p2 : Int32} {r : Int32} {v2 : kV} {ar2 : kR} (hf : fX3_add v ar p1 p2 = some (r, v2, ar2)) : kMet l D cI cS (xW cI cS a) (kA a 29) yX3_add cX3_add 4 (some .int) 0 0 [.ref (a 7), .int p1, .int p2] v ar (some (.int r)) v2 ar2 := by
  refine kstart (by decide) (Nat.le_of_ble_eq_true rfl) ?_
  intro p e s m args below meth c ls C0 hr hlk hl hP hS
  have C0 : kC p s m c args cX3_add 4 RX3 D cI cS := C0
  have hx := C0.1.1
  have hb := C0.1.2.1
  have hl : lv_has ls 4 [(0, .ref (a 7)), (1, .int p1), (2, .int p2)] := hl
  unfold fX3_add at hf
  refine lv_aload_n hx hb dX3_add_0 rfl (lv_at hl 0 rfl) ?_
  refine xg_RD_0 C0 hP q_139 dX3_add_1 ?_
  refine lv_istore_n (lv' := [(3, .int (v (19))), (0, .ref (a 7)), (1, .int p1), (2, .int p2)]) hx hb dX3_add_4 rfl hl (by decide) rfl (fun ls hl => ?_)
  refine lv_aload_n hx hb dX3_add_5 rfl (lv_at hl 1 rfl) ?_
  refine xg_RD_1 C0 hP q_141 dX3_add_6 ?_
  refine lv_iload_n hx hb dX3_add_9 rfl (lv_at hl 0 rfl) ?_
  refine lv_iload_n hx hb dX3_add_10 rfl (lv_at hl 2 rfl) ?_
  obtain ⟨g1, hf⟩ := kgd hf
  refine xt_about C0 hap hP hS g1 dX3_add_11 (fun H locs hP hS => ?_)
  refine lv_aload_n hx hb dX3_add_12 rfl (lv_at hl 1 rfl) ?_
  refine xg_RD_2 C0 hP q_142 dX3_add_13 ?_
  refine lv_iload_n hx hb dX3_add_16 rfl (lv_at hl 0 rfl) ?_
  refine lv_iload_n hx hb dX3_add_17 rfl (lv_at hl 3 rfl) ?_
  obtain ⟨g2, hf⟩ := kgd hf
  refine xt_bits C0 hap hP hS g2 dX3_add_18 (fun H locs hP hS => ?_)
  refine lv_aload_n hx hb dX3_add_19 rfl (lv_at hl 1 rfl) ?_
  refine lv_dup hx hb dX3_add_20 rfl ?_
  refine xg_RD_0 C0 hP q_139 dX3_add_21 ?_
  refine lv_iconst (v := (1 : Int32)) hx hb dX3_add_24 (by decide) ?_
  refine lv_iadd hx hb dX3_add_25 ?_
  refine xp_RD_0 C0 hap hP hS q_139 dX3_add_26 (fun H locs hP hS => ?_)
  refine lv_iload_n hx hb dX3_add_29 rfl (lv_at hl 0 rfl) ?_
  obtain ⟨rfl, rfl, rfl⟩ := kinj3 hf
  exact kret_i C0 hr hlk hP hS dX3_add_30
set_option maxHeartbeats 4000000 in
set_option maxRecDepth 100000 in
theorem cX6_reading_c {l : Launch} {D : va_G} {cI cS : ClassId} {a : Nat → Nat} (hap : kAp a 29) {v : kV} {ar : kR} {p1 : Int32} {p2 : Int32} {r : Int32} {v2 : kV} {ar2 : kR} (hf : fX6_reading v ar p1 p2 = some (r, v2, ar2)) : kMet l D cI cS (xW cI cS a) (kA a 29) yX6_reading cX6_reading 3 (some .int) 1 23 [.ref (a 0), .int p1, .int p2] v ar (some (.int r)) v2 ar2 := by
  refine kstart (by decide) (Nat.le_of_ble_eq_true rfl) ?_
  intro p e s m args below meth c ls C0 hr hlk hl hP hS
  have C0 : kC p s m c args cX6_reading 3 RX6 D cI cS := C0
  have hx := C0.1.1
  have hb := C0.1.2.1
  have hl : lv_has ls 3 [(0, .ref (a 0)), (1, .int p1), (2, .int p2)] := hl
  unfold fX6_reading at hf
  refine lv_aload_n hx hb dX6_reading_0 rfl (lv_at hl 0 rfl) ?_
  refine lv_iload_n hx hb dX6_reading_1 rfl (lv_at hl 1 rfl) ?_
  obtain ⟨r2, e1, hf⟩ := kb1_s hf
  refine kcallV (As := [.int p1]) (rest := []) C0 (cX6_isCell_c hap e1) q_278 kw_X6_isCell (xv_HC C0.2 hP) hP hS ⟨Nat.le_of_ble_eq_true rfl, Nat.le_of_ble_eq_true rfl⟩ rfl hl.1 rfl (Nat.le_of_ble_eq_true rfl) dX6_reading_2 (fun H locs hP hS => ?_)
  refine lv_if_ne (tgt := 10) hx hb dX6_reading_5 (by decide) (fun c3 => ?_) (fun c3 => ?_)
  · have hf := kif_f c3 hf
    refine lv_iload_n hx hb dX6_reading_10 rfl (lv_at hl 2 rfl) ?_
    refine lv_if_lt (tgt := 20) hx hb dX6_reading_11 (by decide) (fun c4 => ?_) (fun c4 => ?_)
    · have hf := kif_t c4 hf
      refine lv_bipush (v := (-2 : Int32)) hx hb dX6_reading_20 (by decide) ?_
      obtain ⟨rfl, rfl, rfl⟩ := kinj3 hf
      exact kret_i C0 hr hlk hP hS dX6_reading_22
    · have hf := kif_f c4 hf
      refine lv_iload_n hx hb dX6_reading_14 rfl (lv_at hl 2 rfl) ?_
      refine lv_ldc (v := (1065353216 : Int32)) hx hb C0.1.2.2.2.1 (C0.1.2.2.2.2 _ q_357) dX6_reading_15 ?_
      refine lv_icmp_le (tgt := 23) hx hb dX6_reading_17 (by decide) (fun c5 => ?_) (fun c5 => ?_)
      · have hf := kif_t c5 hf
        refine lv_aload_n hx hb dX6_reading_23 rfl (lv_at hl 0 rfl) ?_
        refine xg_HC_6 C0 hP q_175 dX6_reading_24 ?_
        refine xg_RD_0 C0 hP q_140 dX6_reading_27 ?_
        refine lv_bipush (v := (8 : Int32)) hx hb dX6_reading_30 (by decide) ?_
        refine lv_icmp_lt (tgt := 38) hx hb dX6_reading_32 (by decide) (fun c6 => ?_) (fun c6 => ?_)
        · have hf := kif_t c6 hf
          refine lv_aload_n hx hb dX6_reading_38 rfl (lv_at hl 0 rfl) ?_
          refine xg_HC_6 C0 hP q_175 dX6_reading_39 ?_
          refine lv_iload_n hx hb dX6_reading_42 rfl (lv_at hl 1 rfl) ?_
          refine lv_iload_n hx hb dX6_reading_43 rfl (lv_at hl 2 rfl) ?_
          obtain ⟨r8, v9, ar10, e7, hf⟩ := kb3_s hf
          refine kcallV (As := [.int p1, .int p2]) (rest := []) C0 (cX3_add_c hap e7) q_494 kw_X3_add (xv_RD C0.2 hP) hP hS ⟨Nat.le_of_ble_eq_true rfl, Nat.le_of_ble_eq_true rfl⟩ rfl hl.1 rfl (Nat.le_of_ble_eq_true rfl) dX6_reading_44 (fun H locs hP hS => ?_)
          obtain ⟨rfl, rfl, rfl⟩ := kinj3 hf
          exact kret_i C0 hr hlk hP hS dX6_reading_47
        · have hf := kif_f c6 hf
          refine lv_bipush (v := (-4 : Int32)) hx hb dX6_reading_35 (by decide) ?_
          obtain ⟨rfl, rfl, rfl⟩ := kinj3 hf
          exact kret_i C0 hr hlk hP hS dX6_reading_37
      · have hf := kif_f c5 hf
        refine lv_bipush (v := (-2 : Int32)) hx hb dX6_reading_20 (by decide) ?_
        obtain ⟨rfl, rfl, rfl⟩ := kinj3 hf
        exact kret_i C0 hr hlk hP hS dX6_reading_22
  · have hf := kif_t c3 hf
    refine lv_iconst (v := (-1 : Int32)) hx hb dX6_reading_8 (by decide) ?_
    obtain ⟨rfl, rfl, rfl⟩ := kinj3 hf
    exact kret_i C0 hr hlk hP hS dX6_reading_9
set_option maxHeartbeats 4000000 in
set_option maxRecDepth 100000 in
theorem cX6_back_c {l : Launch} {D : va_G} {cI cS : ClassId} {a : Nat → Nat} (hap : kAp a 29) {v : kV} {ar : kR} {p1 : Int32} {r : Int32} {v2 : kV} {ar2 : kR} (hf : fX6_back v ar p1 = some (r, v2, ar2)) : kMet l D cI cS (xW cI cS a) (kA a 29) yX6_back cX6_back 2 (some .int) 0 0 [.ref (a 0), .int p1] v ar (some (.int r)) v2 ar2 := by
  refine kstart (by decide) (Nat.le_of_ble_eq_true rfl) ?_
  intro p e s m args below meth c ls C0 hr hlk hl hP hS
  have C0 : kC p s m c args cX6_back 2 RX6 D cI cS := C0
  have hx := C0.1.1
  have hb := C0.1.2.1
  have hl : lv_has ls 2 [(0, .ref (a 0)), (1, .int p1)] := hl
  unfold fX6_back at hf
  refine lv_iload_n hx hb dX6_back_0 rfl (lv_at hl 1 rfl) ?_
  refine lv_if_lt (tgt := 15) hx hb dX6_back_1 (by decide) (fun c1 => ?_) (fun c1 => ?_)
  · have hf := kif_t c1 hf
    refine lv_bipush (v := (-2 : Int32)) hx hb dX6_back_15 (by decide) ?_
    obtain ⟨rfl, rfl, rfl⟩ := kinj3 hf
    exact kret_i C0 hr hlk hP hS dX6_back_17
  · have hf := kif_f c1 hf
    refine lv_iload_n hx hb dX6_back_4 rfl (lv_at hl 1 rfl) ?_
    refine lv_aload_n hx hb dX6_back_5 rfl (lv_at hl 0 rfl) ?_
    refine xg_HC_6 C0 hP q_175 dX6_back_6 ?_
    refine xg_RD_0 C0 hP q_140 dX6_back_9 ?_
    refine lv_icmp_le (tgt := 18) hx hb dX6_back_12 (by decide) (fun c2 => ?_) (fun c2 => ?_)
    · have hf := kif_t c2 hf
      refine lv_aload_n hx hb dX6_back_18 rfl (lv_at hl 0 rfl) ?_
      refine xg_HC_6 C0 hP q_175 dX6_back_19 ?_
      refine lv_dup hx hb dX6_back_22 rfl ?_
      refine xg_RD_0 C0 hP q_140 dX6_back_23 ?_
      refine lv_iload_n hx hb dX6_back_26 rfl (lv_at hl 1 rfl) ?_
      refine lv_isub hx hb dX6_back_27 ?_
      refine xp_RD_0 C0 hap hP hS q_140 dX6_back_28 (fun H locs hP hS => ?_)
      refine lv_aload_n hx hb dX6_back_31 rfl (lv_at hl 0 rfl) ?_
      refine xg_HC_6 C0 hP q_175 dX6_back_32 ?_
      refine xg_RD_0 C0 hP q_140 dX6_back_35 ?_
      obtain ⟨rfl, rfl, rfl⟩ := kinj3 hf
      exact kret_i C0 hr hlk hP hS dX6_back_38
    · have hf := kif_f c2 hf
      refine lv_bipush (v := (-2 : Int32)) hx hb dX6_back_15 (by decide) ?_
      obtain ⟨rfl, rfl, rfl⟩ := kinj3 hf
      exact kret_i C0 hr hlk hP hS dX6_back_17
set_option maxHeartbeats 4000000 in
set_option maxRecDepth 100000 in
theorem cX3_areSoBy_c {l : Launch} {D : va_G} {cI cS : ClassId} {a : Nat → Nat} (hap : kAp a 29) {h : Nat} (hh : h < 2) {v : kV} {ar : kR} {r : Bool} (hf : fX3_areSoBy h v ar = some r) : kMet l D cI cS (xW cI cS a) (kA a 29) yX3_areSoBy cX3_areSoBy 3 (some .boolean) 2 49 [.ref (a 7), .ref (a (2+h))] v ar (some (.int (bI r))) v ar := by
  refine kstart (by decide) (Nat.le_of_ble_eq_true rfl) ?_
  intro p e s m args below meth c ls C0 hr hlk hl hP hS
  have C0 : kC p s m c args cX3_areSoBy 3 RX3 D cI cS := C0
  have hx := C0.1.1
  have hb := C0.1.2.1
  have hl : lv_has ls 3 [(0, .ref (a 7)), (1, .ref (a (2+h)))] := hl
  have hB2 : ∀ (n : Nat), ∀ (x2 : Int32) (H : Heap) (locs : List Loc) (ls : Array Slot), fX3_areSoBy_2 h v ar n x2 = some r → va_P D vwCl (xW cI cS a v ar) H → va_S (kA a 29) s.heap H locs → lv_has ls 3 [(0, .ref (a 7)), (1, .ref (a (2+h))), (2, .int x2)] → kGo p l e 2 49 s m args below meth c D (xW cI cS a) (kA a 29) (some (.int (bI r))) v ar H locs (F0 m 2 ls []) := by
    intro  n
    induction n with
    | zero =>
      intro x2 H locs ls hf
      have hf : (none : Option Bool) = some r := hf
      cases hf
    | succ n ih =>
      intro x2 H locs ls hf hP hS hl
      have hf : fX3_areSoBy_2b h v ar (fX3_areSoBy_2 h v ar n) x2 = some r := hf
      unfold fX3_areSoBy_2b at hf
      refine lv_iload_n hx hb dX3_areSoBy_2 rfl (lv_at hl 2 rfl) ?_
      refine lv_aload_n hx hb dX3_areSoBy_3 rfl (lv_at hl 0 rfl) ?_
      refine xg_RD_0 C0 hP q_139 dX3_areSoBy_4 ?_
      refine lv_icmp_ge (tgt := 39) hx hb dX3_areSoBy_7 (by decide) (fun c1 => ?_) (fun c1 => ?_)
      · have hf := kif_t c1 hf
        refine lv_iconst (v := (1 : Int32)) hx hb dX3_areSoBy_39 (by decide) ?_
        obtain rfl := Option.some.inj hf
        exact kret_z true rfl C0 hr hlk hP hS dX3_areSoBy_40
      · have hf := kif_f c1 hf
        refine lv_aload_n hx hb dX3_areSoBy_10 rfl (lv_at hl 1 rfl) ?_
        refine lv_iconst (v := (1 : Int32)) hx hb dX3_areSoBy_11 (by decide) ?_
        refine lv_aload_n hx hb dX3_areSoBy_12 rfl (lv_at hl 0 rfl) ?_
        refine xg_RD_1 C0 hP q_141 dX3_areSoBy_13 ?_
        refine lv_iload_n hx hb dX3_areSoBy_16 rfl (lv_at hl 2 rfl) ?_
        obtain ⟨g2, hf⟩ := kgd hf
        refine xl_about C0 hP g2 dX3_areSoBy_17 ?_
        refine lv_ishl hx hb dX3_areSoBy_18 ?_
        obtain ⟨r4, e3, hf⟩ := kb1_s hf
        refine kcallV (As := [.int ((1 : Int32) <<< ((ar (11) x2.toNatClampNeg) &&& 31))]) (rest := []) C0 (cX0_shareOf_c hap hh e3) q_510 kw_X0_shareOf (xv_H hh C0.2 hP) hP hS ⟨Nat.le_of_ble_eq_true rfl, Nat.le_of_ble_eq_true rfl⟩ rfl hl.1 rfl (Nat.le_of_ble_eq_true rfl) dX3_areSoBy_19 (fun H locs hP hS => ?_)
        refine lv_aload_n hx hb dX3_areSoBy_22 rfl (lv_at hl 0 rfl) ?_
        refine xg_RD_2 C0 hP q_142 dX3_areSoBy_23 ?_
        refine lv_iload_n hx hb dX3_areSoBy_26 rfl (lv_at hl 2 rfl) ?_
        obtain ⟨g5, hf⟩ := kgd hf
        refine xl_bits C0 hP g5 dX3_areSoBy_27 ?_
        refine lv_icmp_eq (tgt := 33) hx hb dX3_areSoBy_28 (by decide) (fun c6 => ?_) (fun c6 => ?_)
        · have hf := kif_t c6 hf
          refine lv_iinc (v := (x2 + (1 : Int32))) (lv' := [(2, .int (x2 + (1 : Int32))), (0, .ref (a 7)), (1, .ref (a (2+h)))]) hx hb dX3_areSoBy_33 hl (k := 2) rfl rfl (by decide) rfl (fun ls hl => ?_)
          refine lv_goto (tgt := 2) hx hb dX3_areSoBy_36 (by decide) ?_
          exact ih _ _ _ _ hf hP hS (lv_sub hl [1, 2, 0] rfl)
        · have hf := kif_f c6 hf
          refine lv_iconst (v := (0 : Int32)) hx hb dX3_areSoBy_31 (by decide) ?_
          obtain rfl := Option.some.inj hf
          exact kret_z false rfl C0 hr hlk hP hS dX3_areSoBy_32
  unfold fX3_areSoBy at hf
  refine lv_iconst (v := (0 : Int32)) hx hb dX3_areSoBy_0 (by decide) ?_
  refine lv_istore_n (lv' := [(2, .int (0 : Int32)), (0, .ref (a 7)), (1, .ref (a (2+h)))]) hx hb dX3_areSoBy_1 rfl hl (by decide) rfl (fun ls hl => ?_)
  exact hB2 _ _ _ _ _ hf hP hS (lv_sub hl [1, 2, 0] rfl)
set_option maxHeartbeats 4000000 in
set_option maxRecDepth 100000 in
theorem cX6_kinds_c {l : Launch} {D : va_G} {cI cS : ClassId} {a : Nat → Nat} (hap : kAp a 29) {v : kV} {ar : kR} {p1 : Int32} {r : Int32} {v2 : kV} {ar2 : kR} (hf : fX6_kinds v ar p1 = some (r, v2, ar2)) : kMet l D cI cS (xW cI cS a) (kA a 29) yX6_kinds cX6_kinds 4 (some .int) 3 71 [.ref (a 0), .int p1] v ar (some (.int r)) v2 ar2 := by
  refine kstart (by decide) (Nat.le_of_ble_eq_true rfl) ?_
  intro p e s m args below meth c ls C0 hr hlk hl hP hS
  have C0 : kC p s m c args cX6_kinds 4 RX6 D cI cS := C0
  have hx := C0.1.1
  have hb := C0.1.2.1
  have hl : lv_has ls 4 [(0, .ref (a 0)), (1, .int p1)] := hl
  have hB68 : ∀ (rec25 : Int32 → Int32 → kV → kR → Option (Int32 × kV × kR)) (hrec25 : ∀ (x2 : Int32) (x3 : Int32) (v : kV) (ar : kR) (H : Heap) (locs : List Loc) (ls : Array Slot), rec25 x2 x3 v ar = some (r, v2, ar2) → va_P D vwCl (xW cI cS a v ar) H → va_S (kA a 29) s.heap H locs → lv_has ls 4 [(0, .ref (a 0)), (1, .int p1), (2, .int x2), (3, .int x3)] → kGo p l e 3 71 s m args below meth c D (xW cI cS a) (kA a 29) (some (.int r)) v2 ar2 H locs (F0 m 25 ls [])) , ∀ (x2 : Int32) (x3 : Int32) (v : kV) (ar : kR) (H : Heap) (locs : List Loc) (ls : Array Slot), fX6_kinds_68 p1 rec25 x2 x3 v ar = some (r, v2, ar2) → va_P D vwCl (xW cI cS a v ar) H → va_S (kA a 29) s.heap H locs → lv_has ls 4 [(0, .ref (a 0)), (1, .int p1), (2, .int x2), (3, .int x3)] → kGo p l e 3 71 s m args below meth c D (xW cI cS a) (kA a 29) (some (.int r)) v2 ar2 H locs (F0 m 68 ls []) := by
    intro rec25 hrec25 x2 x3 v ar H locs ls hf hP hS hl
    unfold fX6_kinds_68 at hf
    refine lv_iinc (v := (x3 + (1 : Int32))) (lv' := [(3, .int (x3 + (1 : Int32))), (0, .ref (a 0)), (1, .int p1), (2, .int x2)]) hx hb dX6_kinds_68 hl (k := 3) rfl rfl (by decide) rfl (fun ls hl => ?_)
    refine lv_goto (tgt := 25) hx hb dX6_kinds_71 (by decide) ?_
    exact hrec25 _ _ _ _ _ _ _ hf hP hS (lv_sub hl [1, 2, 3, 0] rfl)
  have hB25 : ∀ (n : Nat), ∀ (x2 : Int32) (x3 : Int32) (v : kV) (ar : kR) (H : Heap) (locs : List Loc) (ls : Array Slot), fX6_kinds_25 p1 n x2 x3 v ar = some (r, v2, ar2) → va_P D vwCl (xW cI cS a v ar) H → va_S (kA a 29) s.heap H locs → lv_has ls 4 [(0, .ref (a 0)), (1, .int p1), (2, .int x2), (3, .int x3)] → kGo p l e 3 71 s m args below meth c D (xW cI cS a) (kA a 29) (some (.int r)) v2 ar2 H locs (F0 m 25 ls []) := by
    intro  n
    induction n with
    | zero =>
      intro x2 x3 v ar H locs ls hf
      have hf : (none : Option (Int32 × kV × kR)) = some (r, v2, ar2) := hf
      cases hf
    | succ n ih =>
      intro x2 x3 v ar H locs ls hf hP hS hl
      have hf : fX6_kinds_25b p1 (fX6_kinds_25 p1 n) x2 x3 v ar = some (r, v2, ar2) := hf
      unfold fX6_kinds_25b at hf
      refine lv_iload_n hx hb dX6_kinds_25 rfl (lv_at hl 3 rfl) ?_
      refine lv_iconst (v := (2 : Int32)) hx hb dX6_kinds_26 (by decide) ?_
      refine lv_icmp_gt (tgt := 74) hx hb dX6_kinds_27 (by decide) (fun c8 => ?_) (fun c8 => ?_)
      · have hf := kif_t c8 hf
        refine lv_iload_n hx hb dX6_kinds_74 rfl (lv_at hl 2 rfl) ?_
        obtain ⟨rfl, rfl, rfl⟩ := kinj3 hf
        exact kret_i C0 hr hlk hP hS dX6_kinds_75
      · have hf := kif_f c8 hf
        refine lv_aload_n hx hb dX6_kinds_30 rfl (lv_at hl 0 rfl) ?_
        refine xg_HC_2 C0 hP q_171 dX6_kinds_31 ?_
        refine lv_iload_n hx hb dX6_kinds_34 rfl (lv_at hl 1 rfl) ?_
        refine lv_iload_n hx hb dX6_kinds_35 rfl (lv_at hl 3 rfl) ?_
        refine lv_aload_n hx hb dX6_kinds_36 rfl (lv_at hl 0 rfl) ?_
        refine xg_HC_1 C0 hP q_170 dX6_kinds_37 ?_
        refine xg_H_6 C0 k0_2 hP q_48 dX6_kinds_40 ?_
        refine lv_iload_n hx hb dX6_kinds_43 rfl (lv_at hl 1 rfl) ?_
        obtain ⟨g9, hf⟩ := kgd hf
        refine xl_bulk C0 k0_2 hP g9 dX6_kinds_44 ?_
        obtain ⟨v12, ar13, e10, hf⟩ := kb2_s hf
        refine kcallV (As := [.int p1, .int x3, .int (ar (4*0+1) p1.toNatClampNeg)]) (rest := []) C0 (cX0_set_c hap k1_2 e10) q_351 kw_X0_set (xv_H k1_2 C0.2 hP) hP hS ⟨Nat.le_of_ble_eq_true rfl, Nat.le_of_ble_eq_true rfl⟩ rfl hl.1 rfl (Nat.le_of_ble_eq_true rfl) dX6_kinds_45 (fun H locs hP hS => ?_)
        refine lv_aload_n hx hb dX6_kinds_48 rfl (lv_at hl 0 rfl) ?_
        refine xg_HC_6 C0 hP q_175 dX6_kinds_49 ?_
        refine lv_aload_n hx hb dX6_kinds_52 rfl (lv_at hl 0 rfl) ?_
        refine xg_HC_2 C0 hP q_171 dX6_kinds_53 ?_
        obtain ⟨r15, e14, hf⟩ := kb1_s hf
        refine kcallV (As := [.ref (a (2+1))]) (rest := []) C0 (cX3_areSoBy_c hap k1_2 e14) q_506 kw_X3_areSoBy (xv_RD C0.2 hP) hP hS ⟨Nat.le_of_ble_eq_true rfl, Nat.le_of_ble_eq_true rfl⟩ rfl hl.1 rfl (Nat.le_of_ble_eq_true rfl) dX6_kinds_56 (fun H locs hP hS => ?_)
        refine lv_if_eq (tgt := 68) hx hb dX6_kinds_59 (by decide) (fun c16 => ?_) (fun c16 => ?_)
        · have hf := kif_t c16 hf
          exact hB68 _ ih _ _ _ _ _ _ _ hf hP hS (lv_sub hl [0, 1, 2, 3] rfl)
        · have hf := kif_f c16 hf
          refine lv_iload_n hx hb dX6_kinds_62 rfl (lv_at hl 2 rfl) ?_
          refine lv_iconst (v := (1 : Int32)) hx hb dX6_kinds_63 (by decide) ?_
          refine lv_iload_n hx hb dX6_kinds_64 rfl (lv_at hl 3 rfl) ?_
          refine lv_ishl hx hb dX6_kinds_65 ?_
          refine lv_ior hx hb dX6_kinds_66 ?_
          refine lv_istore_n (lv' := [(2, .int (x2 ||| ((1 : Int32) <<< (x3 &&& 31)))), (0, .ref (a 0)), (1, .int p1), (3, .int x3)]) hx hb dX6_kinds_67 rfl hl (by decide) rfl (fun ls hl => ?_)
          exact hB68 _ ih _ _ _ _ _ _ _ hf hP hS (lv_sub hl [1, 2, 0, 3] rfl)
  unfold fX6_kinds at hf
  refine lv_aload_n hx hb dX6_kinds_0 rfl (lv_at hl 0 rfl) ?_
  refine lv_iload_n hx hb dX6_kinds_1 rfl (lv_at hl 1 rfl) ?_
  obtain ⟨r2, e1, hf⟩ := kb1_s hf
  refine kcallV (As := [.int p1]) (rest := []) C0 (cX6_isCell_c hap e1) q_278 kw_X6_isCell (xv_HC C0.2 hP) hP hS ⟨Nat.le_of_ble_eq_true rfl, Nat.le_of_ble_eq_true rfl⟩ rfl hl.1 rfl (Nat.le_of_ble_eq_true rfl) dX6_kinds_2 (fun H locs hP hS => ?_)
  refine lv_if_ne (tgt := 10) hx hb dX6_kinds_5 (by decide) (fun c3 => ?_) (fun c3 => ?_)
  · have hf := kif_f c3 hf
    refine lv_aload_n hx hb dX6_kinds_10 rfl (lv_at hl 0 rfl) ?_
    refine xg_HC_2 C0 hP q_171 dX6_kinds_11 ?_
    refine lv_aload_n hx hb dX6_kinds_14 rfl (lv_at hl 0 rfl) ?_
    refine xg_HC_1 C0 hP q_170 dX6_kinds_15 ?_
    obtain ⟨v6, ar7, e4, hf⟩ := kb2_s hf
    refine kcallV (As := [.ref (a (2+0))]) (rest := []) C0 (cX0_become_c hap k1_2 k0_2 e4) q_269 kw_X0_become (xv_H k1_2 C0.2 hP) hP hS ⟨Nat.le_of_ble_eq_true rfl, Nat.le_of_ble_eq_true rfl⟩ rfl hl.1 rfl (Nat.le_of_ble_eq_true rfl) dX6_kinds_18 (fun H locs hP hS => ?_)
    refine lv_iconst (v := (0 : Int32)) hx hb dX6_kinds_21 (by decide) ?_
    refine lv_istore_n (lv' := [(2, .int (0 : Int32)), (0, .ref (a 0)), (1, .int p1)]) hx hb dX6_kinds_22 rfl hl (by decide) rfl (fun ls hl => ?_)
    refine lv_iconst (v := (0 : Int32)) hx hb dX6_kinds_23 (by decide) ?_
    refine lv_istore_n (lv' := [(3, .int (0 : Int32)), (2, .int (0 : Int32)), (0, .ref (a 0)), (1, .int p1)]) hx hb dX6_kinds_24 rfl hl (by decide) rfl (fun ls hl => ?_)
    exact hB25 _ _ _ _ _ _ _ _ hf hP hS (lv_sub hl [2, 3, 1, 0] rfl)
  · have hf := kif_t c3 hf
    refine lv_iconst (v := (-1 : Int32)) hx hb dX6_kinds_8 (by decide) ?_
    obtain ⟨rfl, rfl, rfl⟩ := kinj3 hf
    exact kret_i C0 hr hlk hP hS dX6_kinds_9
set_option maxHeartbeats 4000000 in
set_option maxRecDepth 100000 in
theorem cX6_bulks_c {l : Launch} {D : va_G} {cI cS : ClassId} {a : Nat → Nat} (hap : kAp a 29) {v : kV} {ar : kR} {p1 : Int32} {r : Int32} {v2 : kV} {ar2 : kR} (hf : fX6_bulks v ar p1 = some (r, v2, ar2)) : kMet l D cI cS (xW cI cS a) (kA a 29) yX6_bulks cX6_bulks 4 (some .int) 3 71 [.ref (a 0), .int p1] v ar (some (.int r)) v2 ar2 := by
  refine kstart (by decide) (Nat.le_of_ble_eq_true rfl) ?_
  intro p e s m args below meth c ls C0 hr hlk hl hP hS
  have C0 : kC p s m c args cX6_bulks 4 RX6 D cI cS := C0
  have hx := C0.1.1
  have hb := C0.1.2.1
  have hl : lv_has ls 4 [(0, .ref (a 0)), (1, .int p1)] := hl
  have hB69 : ∀ (rec25 : Int32 → Int32 → kV → kR → Option (Int32 × kV × kR)) (hrec25 : ∀ (x2 : Int32) (x3 : Int32) (v : kV) (ar : kR) (H : Heap) (locs : List Loc) (ls : Array Slot), rec25 x2 x3 v ar = some (r, v2, ar2) → va_P D vwCl (xW cI cS a v ar) H → va_S (kA a 29) s.heap H locs → lv_has ls 4 [(0, .ref (a 0)), (1, .int p1), (2, .int x2), (3, .int x3)] → kGo p l e 3 71 s m args below meth c D (xW cI cS a) (kA a 29) (some (.int r)) v2 ar2 H locs (F0 m 25 ls [])) , ∀ (x2 : Int32) (x3 : Int32) (v : kV) (ar : kR) (H : Heap) (locs : List Loc) (ls : Array Slot), fX6_bulks_69 p1 rec25 x2 x3 v ar = some (r, v2, ar2) → va_P D vwCl (xW cI cS a v ar) H → va_S (kA a 29) s.heap H locs → lv_has ls 4 [(0, .ref (a 0)), (1, .int p1), (2, .int x2), (3, .int x3)] → kGo p l e 3 71 s m args below meth c D (xW cI cS a) (kA a 29) (some (.int r)) v2 ar2 H locs (F0 m 69 ls []) := by
    intro rec25 hrec25 x2 x3 v ar H locs ls hf hP hS hl
    unfold fX6_bulks_69 at hf
    refine lv_iinc (v := (x3 + (1 : Int32))) (lv' := [(3, .int (x3 + (1 : Int32))), (0, .ref (a 0)), (1, .int p1), (2, .int x2)]) hx hb dX6_bulks_69 hl (k := 3) rfl rfl (by decide) rfl (fun ls hl => ?_)
    refine lv_goto (tgt := 25) hx hb dX6_bulks_72 (by decide) ?_
    exact hrec25 _ _ _ _ _ _ _ hf hP hS (lv_sub hl [1, 2, 3, 0] rfl)
  have hB25 : ∀ (n : Nat), ∀ (x2 : Int32) (x3 : Int32) (v : kV) (ar : kR) (H : Heap) (locs : List Loc) (ls : Array Slot), fX6_bulks_25 p1 n x2 x3 v ar = some (r, v2, ar2) → va_P D vwCl (xW cI cS a v ar) H → va_S (kA a 29) s.heap H locs → lv_has ls 4 [(0, .ref (a 0)), (1, .int p1), (2, .int x2), (3, .int x3)] → kGo p l e 3 71 s m args below meth c D (xW cI cS a) (kA a 29) (some (.int r)) v2 ar2 H locs (F0 m 25 ls []) := by
    intro  n
    induction n with
    | zero =>
      intro x2 x3 v ar H locs ls hf
      have hf : (none : Option (Int32 × kV × kR)) = some (r, v2, ar2) := hf
      cases hf
    | succ n ih =>
      intro x2 x3 v ar H locs ls hf hP hS hl
      have hf : fX6_bulks_25b p1 (fX6_bulks_25 p1 n) x2 x3 v ar = some (r, v2, ar2) := hf
      unfold fX6_bulks_25b at hf
      refine lv_iload_n hx hb dX6_bulks_25 rfl (lv_at hl 3 rfl) ?_
      refine lv_bipush (v := (9 : Int32)) hx hb dX6_bulks_26 (by decide) ?_
      refine lv_icmp_gt (tgt := 75) hx hb dX6_bulks_28 (by decide) (fun c8 => ?_) (fun c8 => ?_)
      · have hf := kif_t c8 hf
        refine lv_iload_n hx hb dX6_bulks_75 rfl (lv_at hl 2 rfl) ?_
        obtain ⟨rfl, rfl, rfl⟩ := kinj3 hf
        exact kret_i C0 hr hlk hP hS dX6_bulks_76
      · have hf := kif_f c8 hf
        refine lv_aload_n hx hb dX6_bulks_31 rfl (lv_at hl 0 rfl) ?_
        refine xg_HC_2 C0 hP q_171 dX6_bulks_32 ?_
        refine lv_iload_n hx hb dX6_bulks_35 rfl (lv_at hl 1 rfl) ?_
        refine lv_aload_n hx hb dX6_bulks_36 rfl (lv_at hl 0 rfl) ?_
        refine xg_HC_1 C0 hP q_170 dX6_bulks_37 ?_
        refine xg_H_5 C0 k0_2 hP q_46 dX6_bulks_40 ?_
        refine lv_iload_n hx hb dX6_bulks_43 rfl (lv_at hl 1 rfl) ?_
        obtain ⟨g9, hf⟩ := kgd hf
        refine xl_kind C0 k0_2 hP g9 dX6_bulks_44 ?_
        refine lv_iload_n hx hb dX6_bulks_45 rfl (lv_at hl 3 rfl) ?_
        obtain ⟨v12, ar13, e10, hf⟩ := kb2_s hf
        refine kcallV (As := [.int p1, .int (ar (4*0+0) p1.toNatClampNeg), .int x3]) (rest := []) C0 (cX0_set_c hap k1_2 e10) q_351 kw_X0_set (xv_H k1_2 C0.2 hP) hP hS ⟨Nat.le_of_ble_eq_true rfl, Nat.le_of_ble_eq_true rfl⟩ rfl hl.1 rfl (Nat.le_of_ble_eq_true rfl) dX6_bulks_46 (fun H locs hP hS => ?_)
        refine lv_aload_n hx hb dX6_bulks_49 rfl (lv_at hl 0 rfl) ?_
        refine xg_HC_6 C0 hP q_175 dX6_bulks_50 ?_
        refine lv_aload_n hx hb dX6_bulks_53 rfl (lv_at hl 0 rfl) ?_
        refine xg_HC_2 C0 hP q_171 dX6_bulks_54 ?_
        obtain ⟨r15, e14, hf⟩ := kb1_s hf
        refine kcallV (As := [.ref (a (2+1))]) (rest := []) C0 (cX3_areSoBy_c hap k1_2 e14) q_506 kw_X3_areSoBy (xv_RD C0.2 hP) hP hS ⟨Nat.le_of_ble_eq_true rfl, Nat.le_of_ble_eq_true rfl⟩ rfl hl.1 rfl (Nat.le_of_ble_eq_true rfl) dX6_bulks_57 (fun H locs hP hS => ?_)
        refine lv_if_eq (tgt := 69) hx hb dX6_bulks_60 (by decide) (fun c16 => ?_) (fun c16 => ?_)
        · have hf := kif_t c16 hf
          exact hB69 _ ih _ _ _ _ _ _ _ hf hP hS (lv_sub hl [0, 1, 2, 3] rfl)
        · have hf := kif_f c16 hf
          refine lv_iload_n hx hb dX6_bulks_63 rfl (lv_at hl 2 rfl) ?_
          refine lv_iconst (v := (1 : Int32)) hx hb dX6_bulks_64 (by decide) ?_
          refine lv_iload_n hx hb dX6_bulks_65 rfl (lv_at hl 3 rfl) ?_
          refine lv_ishl hx hb dX6_bulks_66 ?_
          refine lv_ior hx hb dX6_bulks_67 ?_
          refine lv_istore_n (lv' := [(2, .int (x2 ||| ((1 : Int32) <<< (x3 &&& 31)))), (0, .ref (a 0)), (1, .int p1), (3, .int x3)]) hx hb dX6_bulks_68 rfl hl (by decide) rfl (fun ls hl => ?_)
          exact hB69 _ ih _ _ _ _ _ _ _ hf hP hS (lv_sub hl [1, 2, 0, 3] rfl)
  unfold fX6_bulks at hf
  refine lv_aload_n hx hb dX6_bulks_0 rfl (lv_at hl 0 rfl) ?_
  refine lv_iload_n hx hb dX6_bulks_1 rfl (lv_at hl 1 rfl) ?_
  obtain ⟨r2, e1, hf⟩ := kb1_s hf
  refine kcallV (As := [.int p1]) (rest := []) C0 (cX6_isCell_c hap e1) q_278 kw_X6_isCell (xv_HC C0.2 hP) hP hS ⟨Nat.le_of_ble_eq_true rfl, Nat.le_of_ble_eq_true rfl⟩ rfl hl.1 rfl (Nat.le_of_ble_eq_true rfl) dX6_bulks_2 (fun H locs hP hS => ?_)
  refine lv_if_ne (tgt := 10) hx hb dX6_bulks_5 (by decide) (fun c3 => ?_) (fun c3 => ?_)
  · have hf := kif_f c3 hf
    refine lv_aload_n hx hb dX6_bulks_10 rfl (lv_at hl 0 rfl) ?_
    refine xg_HC_2 C0 hP q_171 dX6_bulks_11 ?_
    refine lv_aload_n hx hb dX6_bulks_14 rfl (lv_at hl 0 rfl) ?_
    refine xg_HC_1 C0 hP q_170 dX6_bulks_15 ?_
    obtain ⟨v6, ar7, e4, hf⟩ := kb2_s hf
    refine kcallV (As := [.ref (a (2+0))]) (rest := []) C0 (cX0_become_c hap k1_2 k0_2 e4) q_269 kw_X0_become (xv_H k1_2 C0.2 hP) hP hS ⟨Nat.le_of_ble_eq_true rfl, Nat.le_of_ble_eq_true rfl⟩ rfl hl.1 rfl (Nat.le_of_ble_eq_true rfl) dX6_bulks_18 (fun H locs hP hS => ?_)
    refine lv_iconst (v := (0 : Int32)) hx hb dX6_bulks_21 (by decide) ?_
    refine lv_istore_n (lv' := [(2, .int (0 : Int32)), (0, .ref (a 0)), (1, .int p1)]) hx hb dX6_bulks_22 rfl hl (by decide) rfl (fun ls hl => ?_)
    refine lv_iconst (v := (1 : Int32)) hx hb dX6_bulks_23 (by decide) ?_
    refine lv_istore_n (lv' := [(3, .int (1 : Int32)), (2, .int (0 : Int32)), (0, .ref (a 0)), (1, .int p1)]) hx hb dX6_bulks_24 rfl hl (by decide) rfl (fun ls hl => ?_)
    exact hB25 _ _ _ _ _ _ _ _ hf hP hS (lv_sub hl [2, 3, 1, 0] rfl)
  · have hf := kif_t c3 hf
    refine lv_iconst (v := (-1 : Int32)) hx hb dX6_bulks_8 (by decide) ?_
    obtain ⟨rfl, rfl, rfl⟩ := kinj3 hf
    exact kret_i C0 hr hlk hP hS dX6_bulks_9
set_option maxHeartbeats 4000000 in
set_option maxRecDepth 100000 in
theorem cX6_odds_c {l : Launch} {D : va_G} {cI cS : ClassId} {a : Nat → Nat} (hap : kAp a 29) {v : kV} {ar : kR} {p1 : Int32} {p2 : Int32} {r : Int64} (hf : fX6_odds v ar p1 p2 = some r) : kMet l D cI cS (xW cI cS a) (kA a 29) yX6_odds cX6_odds 6 (some .long) 2 45 [.ref (a 0), .int p1, .int p2] v ar (some (.long r)) v ar := by
  refine kstart (by decide) (Nat.le_of_ble_eq_true rfl) ?_
  intro p e s m args below meth c ls C0 hr hlk hl hP hS
  have C0 : kC p s m c args cX6_odds 6 RX6 D cI cS := C0
  have hx := C0.1.1
  have hb := C0.1.2.1
  have hl : lv_has ls 6 [(0, .ref (a 0)), (1, .int p1), (2, .int p2)] := hl
  have hB26 : ∀ (H : Heap) (locs : List Loc) (ls : Array Slot), fX6_odds_26 v ar p1 p2 = some r → va_P D vwCl (xW cI cS a v ar) H → va_S (kA a 29) s.heap H locs → lv_has ls 6 [] → kGo p l e 2 45 s m args below meth c D (xW cI cS a) (kA a 29) (some (.long r)) v ar H locs (F0 m 26 ls []) := by
    intro   H locs ls hf hP hS hl
    unfold fX6_odds_26 at hf
    refine lv_ldc2 (v := (-9223372036854775808 : Int64)) hx hb C0.1.2.2.2.1 (C0.1.2.2.2.2 _ q_519) dX6_odds_26 ?_
    obtain rfl := Option.some.inj hf
    exact kret_l C0 hr hlk hP hS dX6_odds_29
  have hB125 : ∀ (x3 : Int32) (x4 : Int32) (H : Heap) (locs : List Loc) (ls : Array Slot), fX6_odds_125 v ar p1 p2 x3 x4 = some r → va_P D vwCl (xW cI cS a v ar) H → va_S (kA a 29) s.heap H locs → lv_has ls 6 [(2, .int p2), (3, .int x3), (4, .int x4)] → kGo p l e 2 45 s m args below meth c D (xW cI cS a) (kA a 29) (some (.long r)) v ar H locs (F0 m 125 ls []) := by
    intro  x3 x4 H locs ls hf hP hS hl
    unfold fX6_odds_125 at hf
    refine lv_iload_n hx hb dX6_odds_125 rfl (lv_at hl 0 rfl) ?_
    refine lv_if_ne (tgt := 134) hx hb dX6_odds_126 (by decide) (fun c12 => ?_) (fun c12 => ?_)
    · have hf := kif_f c12 hf
      refine lv_iload hx hb dX6_odds_134 (lv_at hl 2 rfl) ?_
      refine lv_i2l (v := (x4.toInt64)) hx hb dX6_odds_136 rfl ?_
      obtain rfl := Option.some.inj hf
      exact kret_l C0 hr hlk hP hS dX6_odds_137
    · have hf := kif_t c12 hf
      refine lv_iload_n hx hb dX6_odds_129 rfl (lv_at hl 1 rfl) ?_
      refine lv_i2l (v := (x3.toInt64)) hx hb dX6_odds_130 rfl ?_
      refine lv_goto (tgt := 137) hx hb dX6_odds_131 (by decide) ?_
      obtain rfl := Option.some.inj hf
      exact kret_l C0 hr hlk hP hS dX6_odds_137
  have hB90 : ∀ (n : Nat), ∀ (x3 : Int32) (x4 : Int32) (x5 : Int32) (H : Heap) (locs : List Loc) (ls : Array Slot), fX6_odds_90 v ar p1 p2 n x3 x4 x5 = some r → va_P D vwCl (xW cI cS a v ar) H → va_S (kA a 29) s.heap H locs → lv_has ls 6 [(2, .int p2), (3, .int x3), (4, .int x4), (5, .int x5)] → kGo p l e 2 45 s m args below meth c D (xW cI cS a) (kA a 29) (some (.long r)) v ar H locs (F0 m 90 ls []) := by
    intro  n
    induction n with
    | zero =>
      intro x3 x4 x5 H locs ls hf
      have hf : (none : Option Int64) = some r := hf
      cases hf
    | succ n ih =>
      intro x3 x4 x5 H locs ls hf hP hS hl
      have hf : fX6_odds_90b v ar p1 p2 (fX6_odds_90 v ar p1 p2 n) x3 x4 x5 = some r := hf
      unfold fX6_odds_90b at hf
      refine lv_iload hx hb dX6_odds_90 (lv_at hl 3 rfl) ?_
      refine lv_bipush (v := (7 : Int32)) hx hb dX6_odds_92 (by decide) ?_
      refine lv_icmp_ge (tgt := 125) hx hb dX6_odds_94 (by decide) (fun c11 => ?_) (fun c11 => ?_)
      · have hf := kif_t c11 hf
        exact hB125 _ _ _ _ _ hf hP hS (lv_sub hl [0, 1, 2] rfl)
      · have hf := kif_f c11 hf
        refine lv_iload hx hb dX6_odds_97 (lv_at hl 2 rfl) ?_
        refine lv_iconst (v := (1 : Int32)) hx hb dX6_odds_99 (by decide) ?_
        refine lv_icmp_le (tgt := 125) hx hb dX6_odds_100 (by decide) (fun c13 => ?_) (fun c13 => ?_)
        · have hf := kif_t c13 hf
          exact hB125 _ _ _ _ _ hf hP hS (lv_sub hl [0, 1, 2] rfl)
        · have hf := kif_f c13 hf
          refine lv_iload_n hx hb dX6_odds_103 rfl (lv_at hl 1 rfl) ?_
          refine lv_iconst (v := (2 : Int32)) hx hb dX6_odds_104 (by decide) ?_
          obtain ⟨g14, hf⟩ := kgd hf
          refine lv_irem hx hb dX6_odds_105 g14 ?_
          refine lv_if_ne (tgt := 125) hx hb dX6_odds_106 (by decide) (fun c15 => ?_) (fun c15 => ?_)
          · have hf := kif_f c15 hf
            exact hB125 _ _ _ _ _ hf hP hS (lv_sub hl [0, 1, 2] rfl)
          · have hf := kif_t c15 hf
            refine lv_iload_n hx hb dX6_odds_109 rfl (lv_at hl 1 rfl) ?_
            refine lv_iconst (v := (2 : Int32)) hx hb dX6_odds_110 (by decide) ?_
            obtain ⟨g16, hf⟩ := kgd hf
            refine lv_idiv hx hb dX6_odds_111 g16 ?_
            refine lv_istore_n (lv' := [(3, .int (x3 / (2 : Int32))), (2, .int p2), (4, .int x4), (5, .int x5)]) hx hb dX6_odds_112 rfl hl (by decide) rfl (fun ls hl => ?_)
            refine lv_iload hx hb dX6_odds_113 (lv_at hl 2 rfl) ?_
            refine lv_iconst (v := (2 : Int32)) hx hb dX6_odds_115 (by decide) ?_
            obtain ⟨g17, hf⟩ := kgd hf
            refine lv_idiv hx hb dX6_odds_116 g17 ?_
            refine lv_istore (lv' := [(4, .int (x4 / (2 : Int32))), (3, .int (x3 / (2 : Int32))), (2, .int p2), (5, .int x5)]) hx hb dX6_odds_117 hl (by decide) rfl (fun ls hl => ?_)
            refine lv_iinc (v := (x5 + (1 : Int32))) (lv' := [(5, .int (x5 + (1 : Int32))), (4, .int (x4 / (2 : Int32))), (3, .int (x3 / (2 : Int32))), (2, .int p2)]) hx hb dX6_odds_119 hl (k := 3) rfl rfl (by decide) rfl (fun ls hl => ?_)
            refine lv_goto (tgt := 90) hx hb dX6_odds_122 (by decide) ?_
            exact ih _ _ _ _ _ _ hf hP hS (lv_sub hl [3, 2, 1, 0] rfl)
  have hB81 : ∀ (rec38 : Int32 → Int32 → Int32 → Option Int64) (hrec38 : ∀ (x3 : Int32) (x4 : Int32) (x5 : Int32) (H : Heap) (locs : List Loc) (ls : Array Slot), rec38 x3 x4 x5 = some r → va_P D vwCl (xW cI cS a v ar) H → va_S (kA a 29) s.heap H locs → lv_has ls 6 [(0, .ref (a 0)), (1, .int p1), (2, .int p2), (3, .int x3), (4, .int x4), (5, .int x5)] → kGo p l e 2 45 s m args below meth c D (xW cI cS a) (kA a 29) (some (.long r)) v ar H locs (F0 m 38 ls [])) , ∀ (x3 : Int32) (x4 : Int32) (x5 : Int32) (H : Heap) (locs : List Loc) (ls : Array Slot), fX6_odds_81 v ar p1 p2 rec38 x3 x4 x5 = some r → va_P D vwCl (xW cI cS a v ar) H → va_S (kA a 29) s.heap H locs → lv_has ls 6 [(0, .ref (a 0)), (1, .int p1), (2, .int p2), (3, .int x3), (4, .int x4), (5, .int x5)] → kGo p l e 2 45 s m args below meth c D (xW cI cS a) (kA a 29) (some (.long r)) v ar H locs (F0 m 81 ls []) := by
    intro rec38 hrec38 x3 x4 x5 H locs ls hf hP hS hl
    unfold fX6_odds_81 at hf
    refine lv_iinc (v := (x5 + (1 : Int32))) (lv' := [(5, .int (x5 + (1 : Int32))), (0, .ref (a 0)), (1, .int p1), (2, .int p2), (3, .int x3), (4, .int x4)]) hx hb dX6_odds_81 hl (k := 5) rfl rfl (by decide) rfl (fun ls hl => ?_)
    refine lv_goto (tgt := 38) hx hb dX6_odds_84 (by decide) ?_
    exact hrec38 _ _ _ _ _ _ hf hP hS (lv_sub hl [1, 2, 3, 4, 5, 0] rfl)
  have hB38 : ∀ (n : Nat), ∀ (x3 : Int32) (x4 : Int32) (x5 : Int32) (H : Heap) (locs : List Loc) (ls : Array Slot), fX6_odds_38 v ar p1 p2 n x3 x4 x5 = some r → va_P D vwCl (xW cI cS a v ar) H → va_S (kA a 29) s.heap H locs → lv_has ls 6 [(0, .ref (a 0)), (1, .int p1), (2, .int p2), (3, .int x3), (4, .int x4), (5, .int x5)] → kGo p l e 2 45 s m args below meth c D (xW cI cS a) (kA a 29) (some (.long r)) v ar H locs (F0 m 38 ls []) := by
    intro  n
    induction n with
    | zero =>
      intro x3 x4 x5 H locs ls hf
      have hf : (none : Option Int64) = some r := hf
      cases hf
    | succ n ih =>
      intro x3 x4 x5 H locs ls hf hP hS hl
      have hf : fX6_odds_38b v ar p1 p2 (fX6_odds_38 v ar p1 p2 n) x3 x4 x5 = some r := hf
      unfold fX6_odds_38b at hf
      refine lv_iload hx hb dX6_odds_38 (lv_at hl 5 rfl) ?_
      refine lv_aload_n hx hb dX6_odds_40 rfl (lv_at hl 0 rfl) ?_
      refine xg_HC_1 C0 hP q_170 dX6_odds_41 ?_
      obtain ⟨r9, e8, hf⟩ := kb1_s hf
      refine kcallV (As := []) (rest := [.int x5]) C0 (cX0_all_c hap k0_2 e8) q_451 kw_X0_all (xv_H k0_2 C0.2 hP) hP hS ⟨Nat.le_of_ble_eq_true rfl, Nat.le_of_ble_eq_true rfl⟩ rfl hl.1 rfl (Nat.le_of_ble_eq_true rfl) dX6_odds_44 (fun H locs hP hS => ?_)
      refine lv_icmp_gt (tgt := 87) hx hb dX6_odds_47 (by decide) (fun c10 => ?_) (fun c10 => ?_)
      · have hf := kif_t c10 hf
        refine lv_iconst (v := (0 : Int32)) hx hb dX6_odds_87 (by decide) ?_
        refine lv_istore (lv' := [(5, .int (0 : Int32)), (0, .ref (a 0)), (1, .int p1), (2, .int p2), (3, .int x3), (4, .int x4)]) hx hb dX6_odds_88 hl (by decide) rfl (fun ls hl => ?_)
        exact hB90 _ _ _ _ _ _ _ hf hP hS (lv_sub hl [3, 4, 5, 0] rfl)
      · have hf := kif_f c10 hf
        refine lv_aload_n hx hb dX6_odds_50 rfl (lv_at hl 0 rfl) ?_
        refine xg_HC_1 C0 hP q_170 dX6_odds_51 ?_
        refine lv_iload hx hb dX6_odds_54 (lv_at hl 5 rfl) ?_
        obtain ⟨r19, e18, hf⟩ := kb1_s hf
        refine kcallV (As := [.int x5]) (rest := []) C0 (cX0_keepsFixed_c hap k0_2 e18) q_520 kw_X0_keepsFixed (xv_H k0_2 C0.2 hP) hP hS ⟨Nat.le_of_ble_eq_true rfl, Nat.le_of_ble_eq_true rfl⟩ rfl hl.1 rfl (Nat.le_of_ble_eq_true rfl) dX6_odds_56 (fun H locs hP hS => ?_)
        refine lv_if_eq (tgt := 81) hx hb dX6_odds_59 (by decide) (fun c20 => ?_) (fun c20 => ?_)
        · have hf := kif_t c20 hf
          exact hB81 _ ih _ _ _ _ _ _ hf hP hS (lv_sub hl [0, 1, 2, 3, 4, 5] rfl)
        · have hf := kif_f c20 hf
          refine lv_iinc (v := (x4 + (1 : Int32))) (lv' := [(4, .int (x4 + (1 : Int32))), (0, .ref (a 0)), (1, .int p1), (2, .int p2), (3, .int x3), (5, .int x5)]) hx hb dX6_odds_62 hl (k := 4) rfl rfl (by decide) rfl (fun ls hl => ?_)
          refine lv_aload_n hx hb dX6_odds_65 rfl (lv_at hl 1 rfl) ?_
          refine xg_HC_1 C0 hP q_170 dX6_odds_66 ?_
          refine lv_iload hx hb dX6_odds_69 (lv_at hl 5 rfl) ?_
          obtain ⟨r22, e21, hf⟩ := kb1_s hf
          refine kcallV (As := [.int x5]) (rest := []) C0 (cX0_cutsBy_c hap k0_2 e21) q_446 kw_X0_cutsBy (xv_H k0_2 C0.2 hP) hP hS ⟨Nat.le_of_ble_eq_true rfl, Nat.le_of_ble_eq_true rfl⟩ rfl hl.1 rfl (Nat.le_of_ble_eq_true rfl) dX6_odds_71 (fun H locs hP hS => ?_)
          refine lv_iload_n hx hb dX6_odds_74 rfl (lv_at hl 2 rfl) ?_
          refine lv_icmp_gt (tgt := 81) hx hb dX6_odds_75 (by decide) (fun c23 => ?_) (fun c23 => ?_)
          · have hf := kif_t c23 hf
            exact hB81 _ ih _ _ _ _ _ _ hf hP hS (lv_sub hl [1, 2, 3, 4, 0, 5] rfl)
          · have hf := kif_f c23 hf
            refine lv_iinc (v := (x3 + (1 : Int32))) (lv' := [(3, .int (x3 + (1 : Int32))), (4, .int (x4 + (1 : Int32))), (0, .ref (a 0)), (1, .int p1), (2, .int p2), (5, .int x5)]) hx hb dX6_odds_78 hl (k := 4) rfl rfl (by decide) rfl (fun ls hl => ?_)
            exact hB81 _ ih _ _ _ _ _ _ hf hP hS (lv_sub hl [2, 3, 4, 0, 1, 5] rfl)
  unfold fX6_odds at hf
  refine lv_aload_n hx hb dX6_odds_0 rfl (lv_at hl 0 rfl) ?_
  obtain ⟨r2, e1, hf⟩ := kb1_s hf
  refine kcallV (As := []) (rest := []) C0 (cX6_noCircuit_c hap e1) q_330 kw_X6_noCircuit (xv_HC C0.2 hP) hP hS ⟨Nat.le_of_ble_eq_true rfl, Nat.le_of_ble_eq_true rfl⟩ rfl hl.1 rfl (Nat.le_of_ble_eq_true rfl) dX6_odds_1 (fun H locs hP hS => ?_)
  refine lv_if_ne (tgt := 26) hx hb dX6_odds_4 (by decide) (fun c3 => ?_) (fun c3 => ?_)
  · have hf := kif_f c3 hf
    exact hB26 _ _ _ hf hP hS (lv_sub hl [] rfl)
  · have hf := kif_t c3 hf
    refine lv_iload_n hx hb dX6_odds_7 rfl (lv_at hl 1 rfl) ?_
    refine lv_if_lt (tgt := 26) hx hb dX6_odds_8 (by decide) (fun c4 => ?_) (fun c4 => ?_)
    · have hf := kif_t c4 hf
      exact hB26 _ _ _ hf hP hS (lv_sub hl [] rfl)
    · have hf := kif_f c4 hf
      refine lv_iload_n hx hb dX6_odds_11 rfl (lv_at hl 1 rfl) ?_
      refine lv_bipush (v := (6 : Int32)) hx hb dX6_odds_12 (by decide) ?_
      refine lv_icmp_gt (tgt := 26) hx hb dX6_odds_14 (by decide) (fun c5 => ?_) (fun c5 => ?_)
      · have hf := kif_t c5 hf
        exact hB26 _ _ _ hf hP hS (lv_sub hl [] rfl)
      · have hf := kif_f c5 hf
        refine lv_iload_n hx hb dX6_odds_17 rfl (lv_at hl 2 rfl) ?_
        refine lv_if_lt (tgt := 26) hx hb dX6_odds_18 (by decide) (fun c6 => ?_) (fun c6 => ?_)
        · have hf := kif_t c6 hf
          exact hB26 _ _ _ hf hP hS (lv_sub hl [] rfl)
        · have hf := kif_f c6 hf
          refine lv_iload_n hx hb dX6_odds_21 rfl (lv_at hl 2 rfl) ?_
          refine lv_iconst (v := (1 : Int32)) hx hb dX6_odds_22 (by decide) ?_
          refine lv_icmp_le (tgt := 30) hx hb dX6_odds_23 (by decide) (fun c7 => ?_) (fun c7 => ?_)
          · have hf := kif_t c7 hf
            refine lv_iconst (v := (0 : Int32)) hx hb dX6_odds_30 (by decide) ?_
            refine lv_istore_n (lv' := [(3, .int (0 : Int32)), (0, .ref (a 0)), (1, .int p1), (2, .int p2)]) hx hb dX6_odds_31 rfl hl (by decide) rfl (fun ls hl => ?_)
            refine lv_iconst (v := (0 : Int32)) hx hb dX6_odds_32 (by decide) ?_
            refine lv_istore (lv' := [(4, .int (0 : Int32)), (3, .int (0 : Int32)), (0, .ref (a 0)), (1, .int p1), (2, .int p2)]) hx hb dX6_odds_33 hl (by decide) rfl (fun ls hl => ?_)
            refine lv_iconst (v := (0 : Int32)) hx hb dX6_odds_35 (by decide) ?_
            refine lv_istore (lv' := [(5, .int (0 : Int32)), (4, .int (0 : Int32)), (3, .int (0 : Int32)), (0, .ref (a 0)), (1, .int p1), (2, .int p2)]) hx hb dX6_odds_36 hl (by decide) rfl (fun ls hl => ?_)
            exact hB38 _ _ _ _ _ _ _ hf hP hS (lv_sub hl [3, 4, 5, 2, 1, 0] rfl)
          · have hf := kif_f c7 hf
            exact hB26 _ _ _ hf hP hS (lv_sub hl [] rfl)
set_option maxHeartbeats 4000000 in
set_option maxRecDepth 100000 in
theorem cX4_renew_c {l : Launch} {D : va_G} {cI cS : ClassId} {a : Nat → Nat} (hap : kAp a 29) {q : Nat} (hq : q < 4) {v : kV} {ar : kR} {p1 : Int32} {p2 : Int32} {v2 : kV} {ar2 : kR} (hf : fX4_renew q v ar p1 p2 = some (v2, ar2)) : kMet l D cI cS (xW cI cS a) (kA a 29) yX4_renew cX4_renew 3 none 1 23 [.ref (a (8+q)), .int p1, .int p2] v ar none v2 ar2 := by
  refine kstart (by decide) (Nat.le_of_ble_eq_true rfl) ?_
  intro p e s m args below meth c ls C0 hr hlk hl hP hS
  have C0 : kC p s m c args cX4_renew 3 RX4 D cI cS := C0
  have hx := C0.1.1
  have hb := C0.1.2.1
  have hl : lv_has ls 3 [(0, .ref (a (8+q))), (1, .int p1), (2, .int p2)] := hl
  unfold fX4_renew at hf
  refine lv_aload_n hx hb dX4_renew_0 rfl (lv_at hl 0 rfl) ?_
  refine lv_iload_n hx hb dX4_renew_1 rfl (lv_at hl 1 rfl) ?_
  refine xp_S_0 C0 hap hq hP hS q_155 dX4_renew_2 (fun H locs hP hS => ?_)
  refine lv_aload_n hx hb dX4_renew_5 rfl (lv_at hl 0 rfl) ?_
  refine lv_iload_n hx hb dX4_renew_6 rfl (lv_at hl 2 rfl) ?_
  refine xp_S_1 C0 hap hq hP hS q_157 dX4_renew_7 (fun H locs hP hS => ?_)
  refine lv_aload_n hx hb dX4_renew_10 rfl (lv_at hl 0 rfl) ?_
  refine xg_S_2 C0 hq hP q_159 dX4_renew_11 ?_
  refine lv_iconst (v := (0 : Int32)) hx hb dX4_renew_14 (by decide) ?_
  obtain ⟨v3, ar4, e1, hf⟩ := kb2_s hf
  refine kcallT (As := [.ref (a (12+(13+q))), .int (0 : Int32)]) (rest := []) C0 (cJ7_fill_53178_c hap (by omega) e1) q_529 kw_J7_fill_53178 hP hS ⟨Nat.le_of_ble_eq_true rfl, Nat.le_of_ble_eq_true rfl⟩ rfl hl.1 rfl (Nat.le_of_ble_eq_true rfl) dX4_renew_15 (fun H locs hP hS => ?_)
  obtain ⟨rfl, rfl⟩ := kinj2 hf
  exact kret_v C0 hr hlk hP hS dX4_renew_18
set_option maxHeartbeats 4000000 in
set_option maxRecDepth 100000 in
theorem cX6_sheet_c {l : Launch} {D : va_G} {cI cS : ClassId} {a : Nat → Nat} (hap : kAp a 29) {v : kV} {ar : kR} {p1 : Int32} {p2 : Int32} {p3 : Int32} {r : Int32} {v2 : kV} {ar2 : kR} (hf : fX6_sheet v ar p1 p2 p3 = some (r, v2, ar2)) : kMet l D cI cS (xW cI cS a) (kA a 29) yX6_sheet cX6_sheet 4 (some .int) 2 45 [.ref (a 0), .int p1, .int p2, .int p3] v ar (some (.int r)) v2 ar2 := by
  refine kstart (by decide) (Nat.le_of_ble_eq_true rfl) ?_
  intro p e s m args below meth c ls C0 hr hlk hl hP hS
  have C0 : kC p s m c args cX6_sheet 4 RX6 D cI cS := C0
  have hx := C0.1.1
  have hb := C0.1.2.1
  have hl : lv_has ls 4 [(0, .ref (a 0)), (1, .int p1), (2, .int p2), (3, .int p3)] := hl
  have hB26 : ∀ (v : kV) (ar : kR) (H : Heap) (locs : List Loc) (ls : Array Slot), fX6_sheet_26 p1 p2 p3 v ar = some (r, v2, ar2) → va_P D vwCl (xW cI cS a v ar) H → va_S (kA a 29) s.heap H locs → lv_has ls 4 [(0, .ref (a 0))] → kGo p l e 2 45 s m args below meth c D (xW cI cS a) (kA a 29) (some (.int r)) v2 ar2 H locs (F0 m 26 ls []) := by
    intro  v ar H locs ls hf hP hS hl
    unfold fX6_sheet_26 at hf
    refine lv_aload_n hx hb dX6_sheet_26 rfl (lv_at hl 0 rfl) ?_
    refine lv_bipush (v := (-2 : Int32)) hx hb dX6_sheet_27 (by decide) ?_
    obtain ⟨r8, v9, ar10, e7, hf⟩ := kb3_s hf
    refine kcallV (As := [.int (-2 : Int32)]) (rest := []) C0 (cX6_refused_c hap e7) q_204 kw_X6_refused (xv_HC C0.2 hP) hP hS ⟨Nat.le_of_ble_eq_true rfl, Nat.le_of_ble_eq_true rfl⟩ rfl hl.1 rfl (Nat.le_of_ble_eq_true rfl) dX6_sheet_29 (fun H locs hP hS => ?_)
    obtain ⟨rfl, rfl, rfl⟩ := kinj3 hf
    exact kret_i C0 hr hlk hP hS dX6_sheet_32
  unfold fX6_sheet at hf
  refine lv_iload_n hx hb dX6_sheet_0 rfl (lv_at hl 1 rfl) ?_
  obtain ⟨r2, e1, hf⟩ := kb1_s hf
  refine kcallT (As := [.int p1]) (rest := []) C0 (cX6_isSheet_c hap e1) q_201 kw_X6_isSheet hP hS ⟨Nat.le_of_ble_eq_true rfl, Nat.le_of_ble_eq_true rfl⟩ rfl hl.1 rfl (Nat.le_of_ble_eq_true rfl) dX6_sheet_1 (fun H locs hP hS => ?_)
  refine lv_if_ne (tgt := 13) hx hb dX6_sheet_4 (by decide) (fun c3 => ?_) (fun c3 => ?_)
  · have hf := kif_f c3 hf
    refine lv_iload_n hx hb dX6_sheet_13 rfl (lv_at hl 2 rfl) ?_
    obtain ⟨r5, e4, hf⟩ := kb1_s hf
    refine kcallT (As := [.int p2]) (rest := []) C0 (cX6_isLane_c hap e4) q_208 kw_X6_isLane hP hS ⟨Nat.le_of_ble_eq_true rfl, Nat.le_of_ble_eq_true rfl⟩ rfl hl.1 rfl (Nat.le_of_ble_eq_true rfl) dX6_sheet_14 (fun H locs hP hS => ?_)
    refine lv_if_eq (tgt := 26) hx hb dX6_sheet_17 (by decide) (fun c6 => ?_) (fun c6 => ?_)
    · have hf := kif_t c6 hf
      exact hB26 _ _ _ _ _ hf hP hS (lv_sub hl [0] rfl)
    · have hf := kif_f c6 hf
      refine lv_iload_n hx hb dX6_sheet_20 rfl (lv_at hl 3 rfl) ?_
      refine lv_bipush (v := (60 : Int32)) hx hb dX6_sheet_21 (by decide) ?_
      refine lv_icmp_le (tgt := 33) hx hb dX6_sheet_23 (by decide) (fun c11 => ?_) (fun c11 => ?_)
      · have hf := kif_t c11 hf
        refine lv_iload_n hx hb dX6_sheet_33 rfl (lv_at hl 3 rfl) ?_
        refine lv_if_ge (tgt := 43) hx hb dX6_sheet_34 (by decide) (fun c12 => ?_) (fun c12 => ?_)
        · have hf := kif_t c12 hf
          refine lv_aload_n hx hb dX6_sheet_43 rfl (lv_at hl 0 rfl) ?_
          refine lv_iconst (v := (0 : Int32)) hx hb dX6_sheet_44 (by decide) ?_
          refine xp_HC_8 C0 hap hP hS q_177 dX6_sheet_45 (fun H locs hP hS => ?_)
          refine lv_aload_n hx hb dX6_sheet_48 rfl (lv_at hl 0 rfl) ?_
          refine xg_HC_0 C0 hP q_169 dX6_sheet_49 ?_
          refine lv_iload_n hx hb dX6_sheet_52 rfl (lv_at hl 1 rfl) ?_
          obtain ⟨g13, hf⟩ := kgd hf
          have hq14 : p1.toNatClampNeg < 4 := Nat.not_le.mp fun z => g13 (Or.inr z)
          refine xl_SA C0 hP g13 dX6_sheet_53 ?_
          refine lv_iload_n hx hb dX6_sheet_54 rfl (lv_at hl 2 rfl) ?_
          refine lv_iload_n hx hb dX6_sheet_55 rfl (lv_at hl 3 rfl) ?_
          obtain ⟨v17, ar18, e15, hf⟩ := kb2_s hf
          refine kcallV (As := [.int p2, .int p3]) (rest := []) C0 (cX4_renew_c hap hq14 e15) q_525 kw_X4_renew (xv_S hq14 C0.2 hP) hP hS ⟨Nat.le_of_ble_eq_true rfl, Nat.le_of_ble_eq_true rfl⟩ rfl hl.1 rfl (Nat.le_of_ble_eq_true rfl) dX6_sheet_56 (fun H locs hP hS => ?_)
          refine lv_iconst (v := (1 : Int32)) hx hb dX6_sheet_59 (by decide) ?_
          obtain ⟨rfl, rfl, rfl⟩ := kinj3 hf
          exact kret_i C0 hr hlk hP hS dX6_sheet_60
        · have hf := kif_f c12 hf
          refine lv_aload_n hx hb dX6_sheet_37 rfl (lv_at hl 0 rfl) ?_
          refine lv_iconst (v := (4 : Int32)) hx hb dX6_sheet_38 (by decide) ?_
          obtain ⟨r20, v21, ar22, e19, hf⟩ := kb3_s hf
          refine kcallV (As := [.int (4 : Int32)]) (rest := []) C0 (cX6_failed_c hap e19) q_219 kw_X6_failed (xv_HC C0.2 hP) hP hS ⟨Nat.le_of_ble_eq_true rfl, Nat.le_of_ble_eq_true rfl⟩ rfl hl.1 rfl (Nat.le_of_ble_eq_true rfl) dX6_sheet_39 (fun H locs hP hS => ?_)
          obtain ⟨rfl, rfl, rfl⟩ := kinj3 hf
          exact kret_i C0 hr hlk hP hS dX6_sheet_42
      · have hf := kif_f c11 hf
        exact hB26 _ _ _ _ _ hf hP hS (lv_sub hl [0] rfl)
  · have hf := kif_t c3 hf
    refine lv_aload_n hx hb dX6_sheet_7 rfl (lv_at hl 0 rfl) ?_
    refine lv_iconst (v := (-1 : Int32)) hx hb dX6_sheet_8 (by decide) ?_
    obtain ⟨r24, v25, ar26, e23, hf⟩ := kb3_s hf
    refine kcallV (As := [.int (-1 : Int32)]) (rest := []) C0 (cX6_refused_c hap e23) q_204 kw_X6_refused (xv_HC C0.2 hP) hP hS ⟨Nat.le_of_ble_eq_true rfl, Nat.le_of_ble_eq_true rfl⟩ rfl hl.1 rfl (Nat.le_of_ble_eq_true rfl) dX6_sheet_9 (fun H locs hP hS => ?_)
    obtain ⟨rfl, rfl, rfl⟩ := kinj3 hf
    exact kret_i C0 hr hlk hP hS dX6_sheet_12
set_option maxHeartbeats 4000000 in
set_option maxRecDepth 100000 in
theorem cX6_lose_c {l : Launch} {D : va_G} {cI cS : ClassId} {a : Nat → Nat} (hap : kAp a 29) {v : kV} {ar : kR} {p1 : Int32} {r : Int32} {v2 : kV} {ar2 : kR} (hf : fX6_lose v ar p1 = some (r, v2, ar2)) : kMet l D cI cS (xW cI cS a) (kA a 29) yX6_lose cX6_lose 3 (some .int) 1 20 [.ref (a 0), .int p1] v ar (some (.int r)) v2 ar2 := by
  refine kstart (by decide) (Nat.le_of_ble_eq_true rfl) ?_
  intro p e s m args below meth c ls C0 hr hlk hl hP hS
  have C0 : kC p s m c args cX6_lose 3 RX6 D cI cS := C0
  have hx := C0.1.1
  have hb := C0.1.2.1
  have hl : lv_has ls 3 [(0, .ref (a 0)), (1, .int p1)] := hl
  have hB27 : ∀ (s0 : Int32) (v : kV) (ar : kR) (H : Heap) (locs : List Loc) (ls : Array Slot), fX6_lose_27 p1 s0 v ar = some (r, v2, ar2) → va_P D vwCl (xW cI cS a v ar) H → va_S (kA a 29) s.heap H locs → lv_has ls 3 [(0, .ref (a 0)), (1, .int p1)] → kGo p l e 1 20 s m args below meth c D (xW cI cS a) (kA a 29) (some (.int r)) v2 ar2 H locs (F0 m 27 ls [.int s0]) := by
    intro  s0 v ar H locs ls hf hP hS hl
    unfold fX6_lose_27 at hf
    refine lv_istore_n (lv' := [(2, .int s0), (0, .ref (a 0)), (1, .int p1)]) hx hb dX6_lose_27 rfl hl (by decide) rfl (fun ls hl => ?_)
    refine lv_aload_n hx hb dX6_lose_28 rfl (lv_at hl 1 rfl) ?_
    refine xg_HC_0 C0 hP q_169 dX6_lose_29 ?_
    refine lv_iload_n hx hb dX6_lose_32 rfl (lv_at hl 2 rfl) ?_
    obtain ⟨g7, hf⟩ := kgd hf
    have hq8 : p1.toNatClampNeg < 4 := Nat.not_le.mp fun z => g7 (Or.inr z)
    refine xl_SA C0 hP g7 dX6_lose_33 ?_
    refine lv_iconst (v := (-1 : Int32)) hx hb dX6_lose_34 (by decide) ?_
    refine xp_S_0 C0 hap hq8 hP hS q_156 dX6_lose_35 (fun H locs hP hS => ?_)
    refine lv_iload_n hx hb dX6_lose_38 rfl (lv_at hl 0 rfl) ?_
    obtain ⟨rfl, rfl, rfl⟩ := kinj3 hf
    exact kret_i C0 hr hlk hP hS dX6_lose_39
  unfold fX6_lose at hf
  refine lv_iload_n hx hb dX6_lose_0 rfl (lv_at hl 1 rfl) ?_
  obtain ⟨r2, e1, hf⟩ := kb1_s hf
  refine kcallT (As := [.int p1]) (rest := []) C0 (cX6_isSheet_c hap e1) q_201 kw_X6_isSheet hP hS ⟨Nat.le_of_ble_eq_true rfl, Nat.le_of_ble_eq_true rfl⟩ rfl hl.1 rfl (Nat.le_of_ble_eq_true rfl) dX6_lose_1 (fun H locs hP hS => ?_)
  refine lv_if_ne (tgt := 9) hx hb dX6_lose_4 (by decide) (fun c3 => ?_) (fun c3 => ?_)
  · have hf := kif_f c3 hf
    refine lv_aload_n hx hb dX6_lose_9 rfl (lv_at hl 0 rfl) ?_
    refine xg_HC_0 C0 hP q_169 dX6_lose_10 ?_
    refine lv_iload_n hx hb dX6_lose_13 rfl (lv_at hl 1 rfl) ?_
    obtain ⟨g4, hf⟩ := kgd hf
    have hq5 : p1.toNatClampNeg < 4 := Nat.not_le.mp fun z => g4 (Or.inr z)
    refine xl_SA C0 hP g4 dX6_lose_14 ?_
    refine xg_S_0 C0 hq5 hP q_156 dX6_lose_15 ?_
    refine lv_iconst (v := (-1 : Int32)) hx hb dX6_lose_18 (by decide) ?_
    refine lv_icmp_ne (tgt := 26) hx hb dX6_lose_19 (by decide) (fun c6 => ?_) (fun c6 => ?_)
    · have hf := kif_f c6 hf
      refine lv_iconst (v := (1 : Int32)) hx hb dX6_lose_26 (by decide) ?_
      exact hB27 _ _ _ _ _ _ hf hP hS (lv_sub hl [0, 1] rfl)
    · have hf := kif_t c6 hf
      refine lv_iconst (v := (0 : Int32)) hx hb dX6_lose_22 (by decide) ?_
      refine lv_goto (tgt := 27) hx hb dX6_lose_23 (by decide) ?_
      exact hB27 _ _ _ _ _ _ hf hP hS (lv_sub hl [0, 1] rfl)
  · have hf := kif_t c3 hf
    refine lv_iconst (v := (-1 : Int32)) hx hb dX6_lose_7 (by decide) ?_
    obtain ⟨rfl, rfl, rfl⟩ := kinj3 hf
    exact kret_i C0 hr hlk hP hS dX6_lose_8
set_option maxHeartbeats 4000000 in
set_option maxRecDepth 100000 in
theorem cX6_cutToLane_c {l : Launch} {D : va_G} {cI cS : ClassId} {a : Nat → Nat} (hap : kAp a 29) {v : kV} {ar : kR} {p0 : Int32} {p1 : Int32} {r : Int32} (hf : fX6_cutToLane p0 p1 = some r) : kMet l D cI cS (xW cI cS a) (kA a 29) yX6_cutToLane cX6_cutToLane 2 (some .int) 0 0 [.int p0, .int p1] v ar (some (.int r)) v ar := by
  refine kstart (by decide) (Nat.le_of_ble_eq_true rfl) ?_
  intro p e s m args below meth c ls C0 hr hlk hl hP hS
  have C0 : kC p s m c args cX6_cutToLane 2 RX6 D cI cS := C0
  have hx := C0.1.1
  have hb := C0.1.2.1
  have hl : lv_has ls 2 [(0, .int p0), (1, .int p1)] := hl
  unfold fX6_cutToLane at hf
  refine lv_iload_n hx hb dX6_cutToLane_0 rfl (lv_at hl 1 rfl) ?_
  by_cases c1 : p1 = (0 : Int32)
  · have hf := kif_t c1 hf
    refine lv_lookup (tgt := 28) (off := (27 : Int)) hx hb dX6_cutToLane_1 (by decide) (by rw [c1]; decide) (by decide) ?_
    refine lv_iload_n hx hb dX6_cutToLane_28 rfl (lv_at hl 0 rfl) ?_
    refine lv_i2b (v := (p0.toInt8.toInt32)) hx hb dX6_cutToLane_29 rfl ?_
    obtain rfl := Option.some.inj hf
    exact kret_i C0 hr hlk hP hS dX6_cutToLane_30
  · have hf := kif_f c1 hf
    by_cases c2 : p1 = (1 : Int32)
    · have hf := kif_t c2 hf
      refine lv_lookup (tgt := 31) (off := (30 : Int)) hx hb dX6_cutToLane_1 (by decide) (by rw [c2]; decide) (by decide) ?_
      refine lv_iload_n hx hb dX6_cutToLane_31 rfl (lv_at hl 0 rfl) ?_
      refine lv_i2s (v := (p0.toInt16.toInt32)) hx hb dX6_cutToLane_32 rfl ?_
      obtain rfl := Option.some.inj hf
      exact kret_i C0 hr hlk hP hS dX6_cutToLane_33
    · have hf := kif_f c2 hf
      refine lv_lookup (tgt := 34) (off := (33 : Int)) hx hb dX6_cutToLane_1 (by decide) (by show Op.lookupswitch.offset [(0, 27), (1, 30)] (33 : Int) _ = _; rw [lv_osw c1 (by decide), lv_osw c2 (by decide)]; rfl) (by decide) ?_
      refine lv_iload_n hx hb dX6_cutToLane_34 rfl (lv_at hl 0 rfl) ?_
      obtain rfl := Option.some.inj hf
      exact kret_i C0 hr hlk hP hS dX6_cutToLane_35
set_option maxHeartbeats 4000000 in
set_option maxRecDepth 100000 in
theorem cX6_put_c {l : Launch} {D : va_G} {cI cS : ClassId} {a : Nat → Nat} (hap : kAp a 29) {v : kV} {ar : kR} {p1 : Int32} {p2 : Int32} {p3 : Int32} {r : Int32} {v2 : kV} {ar2 : kR} (hf : fX6_put v ar p1 p2 p3 = some (r, v2, ar2)) : kMet l D cI cS (xW cI cS a) (kA a 29) yX6_put cX6_put 5 (some .int) 1 21 [.ref (a 0), .int p1, .int p2, .int p3] v ar (some (.int r)) v2 ar2 := by
  refine kstart (by decide) (Nat.le_of_ble_eq_true rfl) ?_
  intro p e s m args below meth c ls C0 hr hlk hl hP hS
  have C0 : kC p s m c args cX6_put 5 RX6 D cI cS := C0
  have hx := C0.1.1
  have hb := C0.1.2.1
  have hl : lv_has ls 5 [(0, .ref (a 0)), (1, .int p1), (2, .int p2), (3, .int p3)] := hl
  have hB49 : ∀ (v : kV) (ar : kR) (H : Heap) (locs : List Loc) (ls : Array Slot), fX6_put_49 p1 p2 p3 v ar = some (r, v2, ar2) → va_P D vwCl (xW cI cS a v ar) H → va_S (kA a 29) s.heap H locs → lv_has ls 5 [(0, .ref (a 0))] → kGo p l e 1 21 s m args below meth c D (xW cI cS a) (kA a 29) (some (.int r)) v2 ar2 H locs (F0 m 49 ls []) := by
    intro  v ar H locs ls hf hP hS hl
    unfold fX6_put_49 at hf
    refine lv_aload_n hx hb dX6_put_49 rfl (lv_at hl 0 rfl) ?_
    refine lv_iconst (v := (3 : Int32)) hx hb dX6_put_50 (by decide) ?_
    obtain ⟨r9, v10, ar11, e8, hf⟩ := kb3_s hf
    refine kcallV (As := [.int (3 : Int32)]) (rest := []) C0 (cX6_failed_c hap e8) q_219 kw_X6_failed (xv_HC C0.2 hP) hP hS ⟨Nat.le_of_ble_eq_true rfl, Nat.le_of_ble_eq_true rfl⟩ rfl hl.1 rfl (Nat.le_of_ble_eq_true rfl) dX6_put_51 (fun H locs hP hS => ?_)
    obtain ⟨rfl, rfl, rfl⟩ := kinj3 hf
    exact kret_i C0 hr hlk hP hS dX6_put_54
  unfold fX6_put at hf
  refine lv_iload_n hx hb dX6_put_0 rfl (lv_at hl 1 rfl) ?_
  obtain ⟨r2, e1, hf⟩ := kb1_s hf
  refine kcallT (As := [.int p1]) (rest := []) C0 (cX6_isSheet_c hap e1) q_201 kw_X6_isSheet hP hS ⟨Nat.le_of_ble_eq_true rfl, Nat.le_of_ble_eq_true rfl⟩ rfl hl.1 rfl (Nat.le_of_ble_eq_true rfl) dX6_put_1 (fun H locs hP hS => ?_)
  refine lv_if_ne (tgt := 13) hx hb dX6_put_4 (by decide) (fun c3 => ?_) (fun c3 => ?_)
  · have hf := kif_f c3 hf
    refine lv_aload_n hx hb dX6_put_13 rfl (lv_at hl 0 rfl) ?_
    refine xg_HC_0 C0 hP q_169 dX6_put_14 ?_
    refine lv_iload_n hx hb dX6_put_17 rfl (lv_at hl 1 rfl) ?_
    obtain ⟨g4, hf⟩ := kgd hf
    have hq5 : p1.toNatClampNeg < 4 := Nat.not_le.mp fun z => g4 (Or.inr z)
    refine xl_SA C0 hP g4 dX6_put_18 ?_
    refine lv_astore (lv' := [(4, .ref (a (8+p1.toNatClampNeg))), (0, .ref (a 0)), (1, .int p1), (2, .int p2), (3, .int p3)]) hx hb dX6_put_19 hl (by decide) rfl (fun ls hl => ?_)
    refine lv_aload hx hb dX6_put_21 (lv_at hl 0 rfl) ?_
    refine xg_S_0 C0 hq5 hP q_156 dX6_put_23 ?_
    refine lv_iconst (v := (-1 : Int32)) hx hb dX6_put_26 (by decide) ?_
    refine lv_icmp_ne (tgt := 36) hx hb dX6_put_27 (by decide) (fun c6 => ?_) (fun c6 => ?_)
    · have hf := kif_f c6 hf
      refine lv_iload_n hx hb dX6_put_36 rfl (lv_at hl 3 rfl) ?_
      refine lv_if_lt (tgt := 49) hx hb dX6_put_37 (by decide) (fun c7 => ?_) (fun c7 => ?_)
      · have hf := kif_t c7 hf
        exact hB49 _ _ _ _ _ hf hP hS (lv_sub hl [1] rfl)
      · have hf := kif_f c7 hf
        refine lv_iload_n hx hb dX6_put_40 rfl (lv_at hl 3 rfl) ?_
        refine lv_aload hx hb dX6_put_41 (lv_at hl 0 rfl) ?_
        refine xg_S_1 C0 hq5 hP q_158 dX6_put_43 ?_
        refine lv_icmp_lt (tgt := 55) hx hb dX6_put_46 (by decide) (fun c12 => ?_) (fun c12 => ?_)
        · have hf := kif_t c12 hf
          refine lv_aload_n hx hb dX6_put_55 rfl (lv_at hl 1 rfl) ?_
          refine lv_iconst (v := (0 : Int32)) hx hb dX6_put_56 (by decide) ?_
          refine xp_HC_8 C0 hap hP hS q_177 dX6_put_57 (fun H locs hP hS => ?_)
          refine lv_aload hx hb dX6_put_60 (lv_at hl 0 rfl) ?_
          refine xg_S_2 C0 hq5 hP q_161 dX6_put_62 ?_
          refine lv_iload_n hx hb dX6_put_65 rfl (lv_at hl 3 rfl) ?_
          refine lv_iload_n hx hb dX6_put_66 rfl (lv_at hl 4 rfl) ?_
          refine lv_aload hx hb dX6_put_67 (lv_at hl 0 rfl) ?_
          refine xg_S_0 C0 hq5 hP q_156 dX6_put_69 ?_
          obtain ⟨r14, e13, hf⟩ := kb1_s hf
          refine kcallT (As := [.int p3, .int ((upd v (1) (0 : Int32)) (20+2*p1.toNatClampNeg))]) (rest := [.int p2, .ref (a (12+(13+p1.toNatClampNeg)))]) C0 (cX6_cutToLane_c hap e13) q_538 kw_X6_cutToLane hP hS ⟨Nat.le_of_ble_eq_true rfl, Nat.le_of_ble_eq_true rfl⟩ rfl hl.1 rfl (Nat.le_of_ble_eq_true rfl) dX6_put_72 (fun H locs hP hS => ?_)
          obtain ⟨g15, hf⟩ := kgd hf
          refine xt_row C0 hap hq5 hP hS g15 dX6_put_75 (fun H locs hP hS => ?_)
          refine lv_iconst (v := (1 : Int32)) hx hb dX6_put_76 (by decide) ?_
          obtain ⟨rfl, rfl, rfl⟩ := kinj3 hf
          exact kret_i C0 hr hlk hP hS dX6_put_77
        · have hf := kif_f c12 hf
          exact hB49 _ _ _ _ _ hf hP hS (lv_sub hl [1] rfl)
    · have hf := kif_t c6 hf
      refine lv_aload_n hx hb dX6_put_30 rfl (lv_at hl 1 rfl) ?_
      refine lv_iconst (v := (1 : Int32)) hx hb dX6_put_31 (by decide) ?_
      obtain ⟨r17, v18, ar19, e16, hf⟩ := kb3_s hf
      refine kcallV (As := [.int (1 : Int32)]) (rest := []) C0 (cX6_failed_c hap e16) q_219 kw_X6_failed (xv_HC C0.2 hP) hP hS ⟨Nat.le_of_ble_eq_true rfl, Nat.le_of_ble_eq_true rfl⟩ rfl hl.1 rfl (Nat.le_of_ble_eq_true rfl) dX6_put_32 (fun H locs hP hS => ?_)
      obtain ⟨rfl, rfl, rfl⟩ := kinj3 hf
      exact kret_i C0 hr hlk hP hS dX6_put_35
  · have hf := kif_t c3 hf
    refine lv_aload_n hx hb dX6_put_7 rfl (lv_at hl 0 rfl) ?_
    refine lv_iconst (v := (-1 : Int32)) hx hb dX6_put_8 (by decide) ?_
    obtain ⟨r21, v22, ar23, e20, hf⟩ := kb3_s hf
    refine kcallV (As := [.int (-1 : Int32)]) (rest := []) C0 (cX6_refused_c hap e20) q_204 kw_X6_refused (xv_HC C0.2 hP) hP hS ⟨Nat.le_of_ble_eq_true rfl, Nat.le_of_ble_eq_true rfl⟩ rfl hl.1 rfl (Nat.le_of_ble_eq_true rfl) dX6_put_9 (fun H locs hP hS => ?_)
    obtain ⟨rfl, rfl, rfl⟩ := kinj3 hf
    exact kret_i C0 hr hlk hP hS dX6_put_12
set_option maxHeartbeats 4000000 in
set_option maxRecDepth 100000 in
theorem cX6_cell_c {l : Launch} {D : va_G} {cI cS : ClassId} {a : Nat → Nat} (hap : kAp a 29) {v : kV} {ar : kR} {p1 : Int32} {p2 : Int32} {p3 : Int32} {r : Int64} {v2 : kV} {ar2 : kR} (hf : fX6_cell v ar p1 p2 p3 = some (r, v2, ar2)) : kMet l D cI cS (xW cI cS a) (kA a 29) yX6_cell cX6_cell 5 (some .long) 1 21 [.ref (a 0), .int p1, .int p2, .int p3] v ar (some (.long r)) v2 ar2 := by
  refine kstart (by decide) (Nat.le_of_ble_eq_true rfl) ?_
  intro p e s m args below meth c ls C0 hr hlk hl hP hS
  have C0 : kC p s m c args cX6_cell 5 RX6 D cI cS := C0
  have hx := C0.1.1
  have hb := C0.1.2.1
  have hl : lv_has ls 5 [(0, .ref (a 0)), (1, .int p1), (2, .int p2), (3, .int p3)] := hl
  have hB14 : ∀ (v : kV) (ar : kR) (H : Heap) (locs : List Loc) (ls : Array Slot), fX6_cell_14 p1 p2 p3 v ar = some (r, v2, ar2) → va_P D vwCl (xW cI cS a v ar) H → va_S (kA a 29) s.heap H locs → lv_has ls 5 [(0, .ref (a 0))] → kGo p l e 1 21 s m args below meth c D (xW cI cS a) (kA a 29) (some (.long r)) v2 ar2 H locs (F0 m 14 ls []) := by
    intro  v ar H locs ls hf hP hS hl
    unfold fX6_cell_14 at hf
    refine lv_aload_n hx hb dX6_cell_14 rfl (lv_at hl 0 rfl) ?_
    refine lv_iconst (v := (0 : Int32)) hx hb dX6_cell_15 (by decide) ?_
    refine xp_HC_8 C0 hap hP hS q_177 dX6_cell_16 (fun H locs hP hS => ?_)
    refine lv_ldc2 (v := (-9223372036854775808 : Int64)) hx hb C0.1.2.2.2.1 (C0.1.2.2.2.2 _ q_519) dX6_cell_19 ?_
    obtain ⟨rfl, rfl, rfl⟩ := kinj3 hf
    exact kret_l C0 hr hlk hP hS dX6_cell_22
  have hB66 : ∀ (v : kV) (ar : kR) (H : Heap) (locs : List Loc) (ls : Array Slot) (hq8 : p1.toNatClampNeg < 4), fX6_cell_66 p1 p2 p3 v ar = some (r, v2, ar2) → va_P D vwCl (xW cI cS a v ar) H → va_S (kA a 29) s.heap H locs → lv_has ls 5 [(0, .ref (a 0)), (2, .int p2), (4, .ref (a (8+p1.toNatClampNeg)))] → kGo p l e 1 21 s m args below meth c D (xW cI cS a) (kA a 29) (some (.long r)) v2 ar2 H locs (F0 m 66 ls []) := by
    intro  v ar H locs ls hq8 hf hP hS hl
    unfold fX6_cell_66 at hf
    refine lv_aload_n hx hb dX6_cell_66 rfl (lv_at hl 0 rfl) ?_
    refine xg_HC_8 C0 hP q_177 dX6_cell_67 ?_
    refine lv_if_ne (tgt := 84) hx hb dX6_cell_70 (by decide) (fun c12 => ?_) (fun c12 => ?_)
    · have hf := kif_f c12 hf
      refine lv_ldc2 (v := (-9223372036854775808 : Int64)) hx hb C0.1.2.2.2.1 (C0.1.2.2.2.2 _ q_519) dX6_cell_84 ?_
      obtain ⟨rfl, rfl, rfl⟩ := kinj3 hf
      exact kret_l C0 hr hlk hP hS dX6_cell_87
    · have hf := kif_t c12 hf
      refine lv_aload hx hb dX6_cell_73 (lv_at hl 2 rfl) ?_
      refine xg_S_2 C0 hq8 hP q_161 dX6_cell_75 ?_
      refine lv_iload_n hx hb dX6_cell_78 rfl (lv_at hl 1 rfl) ?_
      obtain ⟨g13, hf⟩ := kgd hf
      refine xl_row C0 hq8 hP g13 dX6_cell_79 ?_
      refine lv_i2l (v := ((ar (13+p1.toNatClampNeg) p2.toNatClampNeg).toInt64)) hx hb dX6_cell_80 rfl ?_
      refine lv_goto (tgt := 87) hx hb dX6_cell_81 (by decide) ?_
      obtain ⟨rfl, rfl, rfl⟩ := kinj3 hf
      exact kret_l C0 hr hlk hP hS dX6_cell_87
  have hB61 : ∀ (v : kV) (ar : kR) (H : Heap) (locs : List Loc) (ls : Array Slot) (hq8 : p1.toNatClampNeg < 4), fX6_cell_61 p1 p2 p3 v ar = some (r, v2, ar2) → va_P D vwCl (xW cI cS a v ar) H → va_S (kA a 29) s.heap H locs → lv_has ls 5 [(0, .ref (a 0)), (2, .int p2), (4, .ref (a (8+p1.toNatClampNeg)))] → kGo p l e 1 21 s m args below meth c D (xW cI cS a) (kA a 29) (some (.long r)) v2 ar2 H locs (F0 m 61 ls []) := by
    intro  v ar H locs ls hq8 hf hP hS hl
    unfold fX6_cell_61 at hf
    refine lv_aload_n hx hb dX6_cell_61 rfl (lv_at hl 0 rfl) ?_
    refine lv_iconst (v := (3 : Int32)) hx hb dX6_cell_62 (by decide) ?_
    refine xp_HC_8 C0 hap hP hS q_177 dX6_cell_63 (fun H locs hP hS => ?_)
    exact hB66 _ _ _ _ _ hq8 hf hP hS (lv_sub hl [0, 1, 2] rfl)
  unfold fX6_cell at hf
  refine lv_iload_n hx hb dX6_cell_0 rfl (lv_at hl 1 rfl) ?_
  obtain ⟨r2, e1, hf⟩ := kb1_s hf
  refine kcallT (As := [.int p1]) (rest := []) C0 (cX6_isSheet_c hap e1) q_201 kw_X6_isSheet hP hS ⟨Nat.le_of_ble_eq_true rfl, Nat.le_of_ble_eq_true rfl⟩ rfl hl.1 rfl (Nat.le_of_ble_eq_true rfl) dX6_cell_1 (fun H locs hP hS => ?_)
  refine lv_if_eq (tgt := 14) hx hb dX6_cell_4 (by decide) (fun c3 => ?_) (fun c3 => ?_)
  · have hf := kif_t c3 hf
    exact hB14 _ _ _ _ _ hf hP hS (lv_sub hl [0] rfl)
  · have hf := kif_f c3 hf
    refine lv_iload_n hx hb dX6_cell_7 rfl (lv_at hl 3 rfl) ?_
    obtain ⟨r5, e4, hf⟩ := kb1_s hf
    refine kcallT (As := [.int p3]) (rest := []) C0 (cX6_isLane_c hap e4) q_208 kw_X6_isLane hP hS ⟨Nat.le_of_ble_eq_true rfl, Nat.le_of_ble_eq_true rfl⟩ rfl hl.1 rfl (Nat.le_of_ble_eq_true rfl) dX6_cell_8 (fun H locs hP hS => ?_)
    refine lv_if_ne (tgt := 23) hx hb dX6_cell_11 (by decide) (fun c6 => ?_) (fun c6 => ?_)
    · have hf := kif_f c6 hf
      refine lv_aload_n hx hb dX6_cell_23 rfl (lv_at hl 0 rfl) ?_
      refine xg_HC_0 C0 hP q_169 dX6_cell_24 ?_
      refine lv_iload_n hx hb dX6_cell_27 rfl (lv_at hl 1 rfl) ?_
      obtain ⟨g7, hf⟩ := kgd hf
      have hq8 : p1.toNatClampNeg < 4 := Nat.not_le.mp fun z => g7 (Or.inr z)
      refine xl_SA C0 hP g7 dX6_cell_28 ?_
      refine lv_astore (lv' := [(4, .ref (a (8+p1.toNatClampNeg))), (0, .ref (a 0)), (1, .int p1), (2, .int p2), (3, .int p3)]) hx hb dX6_cell_29 hl (by decide) rfl (fun ls hl => ?_)
      refine lv_aload_n hx hb dX6_cell_31 rfl (lv_at hl 1 rfl) ?_
      refine lv_aload hx hb dX6_cell_32 (lv_at hl 0 rfl) ?_
      refine lv_iload_n hx hb dX6_cell_34 rfl (lv_at hl 4 rfl) ?_
      obtain ⟨r10, e9, hf⟩ := kb1_s hf
      refine kcallV (As := [.int p3]) (rest := [.ref (a 0)]) C0 (cX4_faultAs_c hap hq8 e9) q_211 kw_X4_faultAs (xv_S hq8 C0.2 hP) hP hS ⟨Nat.le_of_ble_eq_true rfl, Nat.le_of_ble_eq_true rfl⟩ rfl hl.1 rfl (Nat.le_of_ble_eq_true rfl) dX6_cell_35 (fun H locs hP hS => ?_)
      refine xp_HC_8 C0 hap hP hS q_177 dX6_cell_38 (fun H locs hP hS => ?_)
      refine lv_aload_n hx hb dX6_cell_41 rfl (lv_at hl 1 rfl) ?_
      refine xg_HC_8 C0 hP q_177 dX6_cell_42 ?_
      refine lv_if_ne (tgt := 66) hx hb dX6_cell_45 (by decide) (fun c11 => ?_) (fun c11 => ?_)
      · have hf := kif_f c11 hf
        exact hB66 _ _ _ _ _ hq8 hf hP hS (lv_sub hl [1, 3, 0] rfl)
      · have hf := kif_t c11 hf
        refine lv_iload_n hx hb dX6_cell_48 rfl (lv_at hl 3 rfl) ?_
        refine lv_if_lt (tgt := 61) hx hb dX6_cell_49 (by decide) (fun c14 => ?_) (fun c14 => ?_)
        · have hf := kif_t c14 hf
          exact hB61 _ _ _ _ _ hq8 hf hP hS (lv_sub hl [1, 3, 0] rfl)
        · have hf := kif_f c14 hf
          refine lv_iload_n hx hb dX6_cell_52 rfl (lv_at hl 3 rfl) ?_
          refine lv_aload hx hb dX6_cell_53 (lv_at hl 0 rfl) ?_
          refine xg_S_1 C0 hq8 hP q_158 dX6_cell_55 ?_
          refine lv_icmp_lt (tgt := 66) hx hb dX6_cell_58 (by decide) (fun c15 => ?_) (fun c15 => ?_)
          · have hf := kif_t c15 hf
            exact hB66 _ _ _ _ _ hq8 hf hP hS (lv_sub hl [1, 3, 0] rfl)
          · have hf := kif_f c15 hf
            exact hB61 _ _ _ _ _ hq8 hf hP hS (lv_sub hl [1, 3, 0] rfl)
    · have hf := kif_t c6 hf
      exact hB14 _ _ _ _ _ hf hP hS (lv_sub hl [0] rfl)
