set_option maxHeartbeats 4000000 in
set_option maxRecDepth 100000 in
theorem cX6_isSheet_c {l : Launch} {D : va_G} {cI cS : ClassId} {a : Nat → Nat} (hap : kAp a 29) {v : kV} {ar : kR} {p0 : Int32} {r : Bool} (hf : fX6_isSheet p0 = some r) : kMet l D cI cS (xW cI cS a) (kA a 29) yX6_isSheet cX6_isSheet 1 (some .boolean) 0 0 [.int p0] v ar (some (.int (bI r))) v ar := by
  refine kstart (by decide) (Nat.le_of_ble_eq_true rfl) ?_
  intro p e s m args below meth c ls C0 hr hlk hl hP hS
  have C0 : kC p s m c args cX6_isSheet 1 RX6 D cI cS := C0
  have hx := C0.1.1
  have hb := C0.1.2.1
  have hl : lv_has ls 1 [(0, .int p0)] := hl
  unfold fX6_isSheet at hf
  refine lv_iload_n hx hb dX6_isSheet_0 rfl (lv_at hl 0 rfl) ?_
  refine lv_if_lt (tgt := 13) hx hb dX6_isSheet_1 (by decide) (fun c1 => ?_) (fun c1 => ?_)
  · have hf := kif_t c1 hf
    refine lv_iconst (v := (0 : Int32)) hx hb dX6_isSheet_13 (by decide) ?_
    obtain rfl := Option.some.inj hf
    exact kret_z false rfl C0 hr hlk hP hS dX6_isSheet_14
  · have hf := kif_f c1 hf
    refine lv_iload_n hx hb dX6_isSheet_4 rfl (lv_at hl 0 rfl) ?_
    refine lv_iconst (v := (4 : Int32)) hx hb dX6_isSheet_5 (by decide) ?_
    refine lv_icmp_ge (tgt := 13) hx hb dX6_isSheet_6 (by decide) (fun c2 => ?_) (fun c2 => ?_)
    · have hf := kif_t c2 hf
      refine lv_iconst (v := (0 : Int32)) hx hb dX6_isSheet_13 (by decide) ?_
      obtain rfl := Option.some.inj hf
      exact kret_z false rfl C0 hr hlk hP hS dX6_isSheet_14
    · have hf := kif_f c2 hf
      refine lv_iconst (v := (1 : Int32)) hx hb dX6_isSheet_9 (by decide) ?_
      refine lv_goto (tgt := 14) hx hb dX6_isSheet_10 (by decide) ?_
      obtain rfl := Option.some.inj hf
      exact kret_z true rfl C0 hr hlk hP hS dX6_isSheet_14
set_option maxHeartbeats 4000000 in
set_option maxRecDepth 100000 in
theorem cX6_refused_c {l : Launch} {D : va_G} {cI cS : ClassId} {a : Nat → Nat} (hap : kAp a 29) {v : kV} {ar : kR} {p1 : Int32} {r : Int32} {v2 : kV} {ar2 : kR} (hf : fX6_refused v ar p1 = some (r, v2, ar2)) : kMet l D cI cS (xW cI cS a) (kA a 29) yX6_refused cX6_refused 2 (some .int) 0 0 [.ref (a 0), .int p1] v ar (some (.int r)) v2 ar2 := by
  refine kstart (by decide) (Nat.le_of_ble_eq_true rfl) ?_
  intro p e s m args below meth c ls C0 hr hlk hl hP hS
  have C0 : kC p s m c args cX6_refused 2 RX6 D cI cS := C0
  have hx := C0.1.1
  have hb := C0.1.2.1
  have hl : lv_has ls 2 [(0, .ref (a 0)), (1, .int p1)] := hl
  unfold fX6_refused at hf
  refine lv_aload_n hx hb dX6_refused_0 rfl (lv_at hl 0 rfl) ?_
  refine lv_iconst (v := (0 : Int32)) hx hb dX6_refused_1 (by decide) ?_
  refine xp_HC_8 C0 hap hP hS q_177 dX6_refused_2 (fun H locs hP hS => ?_)
  refine lv_iload_n hx hb dX6_refused_5 rfl (lv_at hl 1 rfl) ?_
  obtain ⟨rfl, rfl, rfl⟩ := kinj3 hf
  exact kret_i C0 hr hlk hP hS dX6_refused_6
set_option maxHeartbeats 4000000 in
set_option maxRecDepth 100000 in
theorem cX6_isLane_c {l : Launch} {D : va_G} {cI cS : ClassId} {a : Nat → Nat} (hap : kAp a 29) {v : kV} {ar : kR} {p0 : Int32} {r : Bool} (hf : fX6_isLane p0 = some r) : kMet l D cI cS (xW cI cS a) (kA a 29) yX6_isLane cX6_isLane 1 (some .boolean) 0 0 [.int p0] v ar (some (.int (bI r))) v ar := by
  refine kstart (by decide) (Nat.le_of_ble_eq_true rfl) ?_
  intro p e s m args below meth c ls C0 hr hlk hl hP hS
  have C0 : kC p s m c args cX6_isLane 1 RX6 D cI cS := C0
  have hx := C0.1.1
  have hb := C0.1.2.1
  have hl : lv_has ls 1 [(0, .int p0)] := hl
  unfold fX6_isLane at hf
  refine lv_iload_n hx hb dX6_isLane_0 rfl (lv_at hl 0 rfl) ?_
  refine lv_if_lt (tgt := 13) hx hb dX6_isLane_1 (by decide) (fun c1 => ?_) (fun c1 => ?_)
  · have hf := kif_t c1 hf
    refine lv_iconst (v := (0 : Int32)) hx hb dX6_isLane_13 (by decide) ?_
    obtain rfl := Option.some.inj hf
    exact kret_z false rfl C0 hr hlk hP hS dX6_isLane_14
  · have hf := kif_f c1 hf
    refine lv_iload_n hx hb dX6_isLane_4 rfl (lv_at hl 0 rfl) ?_
    refine lv_iconst (v := (2 : Int32)) hx hb dX6_isLane_5 (by decide) ?_
    refine lv_icmp_gt (tgt := 13) hx hb dX6_isLane_6 (by decide) (fun c2 => ?_) (fun c2 => ?_)
    · have hf := kif_t c2 hf
      refine lv_iconst (v := (0 : Int32)) hx hb dX6_isLane_13 (by decide) ?_
      obtain rfl := Option.some.inj hf
      exact kret_z false rfl C0 hr hlk hP hS dX6_isLane_14
    · have hf := kif_f c2 hf
      refine lv_iconst (v := (1 : Int32)) hx hb dX6_isLane_9 (by decide) ?_
      refine lv_goto (tgt := 14) hx hb dX6_isLane_10 (by decide) ?_
      obtain rfl := Option.some.inj hf
      exact kret_z true rfl C0 hr hlk hP hS dX6_isLane_14
set_option maxHeartbeats 4000000 in
set_option maxRecDepth 100000 in
theorem cX4_faultAs_c {l : Launch} {D : va_G} {cI cS : ClassId} {a : Nat → Nat} (hap : kAp a 29) {q : Nat} (hq : q < 4) {v : kV} {ar : kR} {p1 : Int32} {r : Int32} (hf : fX4_faultAs q v ar p1 = some r) : kMet l D cI cS (xW cI cS a) (kA a 29) yX4_faultAs cX4_faultAs 2 (some .int) 0 0 [.ref (a (8+q)), .int p1] v ar (some (.int r)) v ar := by
  refine kstart (by decide) (Nat.le_of_ble_eq_true rfl) ?_
  intro p e s m args below meth c ls C0 hr hlk hl hP hS
  have C0 : kC p s m c args cX4_faultAs 2 RX4 D cI cS := C0
  have hx := C0.1.1
  have hb := C0.1.2.1
  have hl : lv_has ls 2 [(0, .ref (a (8+q))), (1, .int p1)] := hl
  unfold fX4_faultAs at hf
  refine lv_aload_n hx hb dX4_faultAs_0 rfl (lv_at hl 0 rfl) ?_
  refine xg_S_0 C0 hq hP q_155 dX4_faultAs_1 ?_
  refine lv_iconst (v := (-1 : Int32)) hx hb dX4_faultAs_4 (by decide) ?_
  refine lv_icmp_ne (tgt := 10) hx hb dX4_faultAs_5 (by decide) (fun c1 => ?_) (fun c1 => ?_)
  · have hf := kif_f c1 hf
    refine lv_aload_n hx hb dX4_faultAs_10 rfl (lv_at hl 0 rfl) ?_
    refine xg_S_0 C0 hq hP q_155 dX4_faultAs_11 ?_
    refine lv_iload_n hx hb dX4_faultAs_14 rfl (lv_at hl 1 rfl) ?_
    refine lv_icmp_ne (tgt := 22) hx hb dX4_faultAs_15 (by decide) (fun c2 => ?_) (fun c2 => ?_)
    · have hf := kif_f c2 hf
      refine lv_iconst (v := (2 : Int32)) hx hb dX4_faultAs_22 (by decide) ?_
      obtain rfl := Option.some.inj hf
      exact kret_i C0 hr hlk hP hS dX4_faultAs_23
    · have hf := kif_t c2 hf
      refine lv_iconst (v := (0 : Int32)) hx hb dX4_faultAs_18 (by decide) ?_
      refine lv_goto (tgt := 23) hx hb dX4_faultAs_19 (by decide) ?_
      obtain rfl := Option.some.inj hf
      exact kret_i C0 hr hlk hP hS dX4_faultAs_23
  · have hf := kif_t c1 hf
    refine lv_iconst (v := (1 : Int32)) hx hb dX4_faultAs_8 (by decide) ?_
    obtain rfl := Option.some.inj hf
    exact kret_i C0 hr hlk hP hS dX4_faultAs_9
set_option maxHeartbeats 4000000 in
set_option maxRecDepth 100000 in
theorem cX4_has_c {l : Launch} {D : va_G} {cI cS : ClassId} {a : Nat → Nat} (hap : kAp a 29) {q : Nat} (hq : q < 4) {v : kV} {ar : kR} {p1 : Int32} {p2 : Int32} {r : Bool} (hf : fX4_has q v ar p1 p2 = some r) : kMet l D cI cS (xW cI cS a) (kA a 29) yX4_has cX4_has 3 (some .boolean) 0 0 [.ref (a (8+q)), .int p1, .int p2] v ar (some (.int (bI r))) v ar := by
  refine kstart (by decide) (Nat.le_of_ble_eq_true rfl) ?_
  intro p e s m args below meth c ls C0 hr hlk hl hP hS
  have C0 : kC p s m c args cX4_has 3 RX4 D cI cS := C0
  have hx := C0.1.1
  have hb := C0.1.2.1
  have hl : lv_has ls 3 [(0, .ref (a (8+q))), (1, .int p1), (2, .int p2)] := hl
  unfold fX4_has at hf
  refine lv_iload_n hx hb dX4_has_0 rfl (lv_at hl 1 rfl) ?_
  refine lv_if_lt (tgt := 30) hx hb dX4_has_1 (by decide) (fun c1 => ?_) (fun c1 => ?_)
  · have hf := kif_t c1 hf
    refine lv_iconst (v := (0 : Int32)) hx hb dX4_has_30 (by decide) ?_
    obtain rfl := Option.some.inj hf
    exact kret_z false rfl C0 hr hlk hP hS dX4_has_31
  · have hf := kif_f c1 hf
    refine lv_iload_n hx hb dX4_has_4 rfl (lv_at hl 1 rfl) ?_
    refine lv_aload_n hx hb dX4_has_5 rfl (lv_at hl 0 rfl) ?_
    refine xg_S_1 C0 hq hP q_157 dX4_has_6 ?_
    refine lv_icmp_gt (tgt := 30) hx hb dX4_has_9 (by decide) (fun c2 => ?_) (fun c2 => ?_)
    · have hf := kif_t c2 hf
      refine lv_iconst (v := (0 : Int32)) hx hb dX4_has_30 (by decide) ?_
      obtain rfl := Option.some.inj hf
      exact kret_z false rfl C0 hr hlk hP hS dX4_has_31
    · have hf := kif_f c2 hf
      refine lv_iload_n hx hb dX4_has_12 rfl (lv_at hl 2 rfl) ?_
      refine lv_if_lt (tgt := 30) hx hb dX4_has_13 (by decide) (fun c3 => ?_) (fun c3 => ?_)
      · have hf := kif_t c3 hf
        refine lv_iconst (v := (0 : Int32)) hx hb dX4_has_30 (by decide) ?_
        obtain rfl := Option.some.inj hf
        exact kret_z false rfl C0 hr hlk hP hS dX4_has_31
      · have hf := kif_f c3 hf
        refine lv_iload_n hx hb dX4_has_16 rfl (lv_at hl 2 rfl) ?_
        refine lv_aload_n hx hb dX4_has_17 rfl (lv_at hl 0 rfl) ?_
        refine xg_S_1 C0 hq hP q_157 dX4_has_18 ?_
        refine lv_iload_n hx hb dX4_has_21 rfl (lv_at hl 1 rfl) ?_
        refine lv_isub hx hb dX4_has_22 ?_
        refine lv_icmp_gt (tgt := 30) hx hb dX4_has_23 (by decide) (fun c4 => ?_) (fun c4 => ?_)
        · have hf := kif_t c4 hf
          refine lv_iconst (v := (0 : Int32)) hx hb dX4_has_30 (by decide) ?_
          obtain rfl := Option.some.inj hf
          exact kret_z false rfl C0 hr hlk hP hS dX4_has_31
        · have hf := kif_f c4 hf
          refine lv_iconst (v := (1 : Int32)) hx hb dX4_has_26 (by decide) ?_
          refine lv_goto (tgt := 31) hx hb dX4_has_27 (by decide) ?_
          obtain rfl := Option.some.inj hf
          exact kret_z true rfl C0 hr hlk hP hS dX4_has_31
set_option maxHeartbeats 4000000 in
set_option maxRecDepth 100000 in
theorem cX6_failed_c {l : Launch} {D : va_G} {cI cS : ClassId} {a : Nat → Nat} (hap : kAp a 29) {v : kV} {ar : kR} {p1 : Int32} {r : Int32} {v2 : kV} {ar2 : kR} (hf : fX6_failed v ar p1 = some (r, v2, ar2)) : kMet l D cI cS (xW cI cS a) (kA a 29) yX6_failed cX6_failed 2 (some .int) 0 0 [.ref (a 0), .int p1] v ar (some (.int r)) v2 ar2 := by
  refine kstart (by decide) (Nat.le_of_ble_eq_true rfl) ?_
  intro p e s m args below meth c ls C0 hr hlk hl hP hS
  have C0 : kC p s m c args cX6_failed 2 RX6 D cI cS := C0
  have hx := C0.1.1
  have hb := C0.1.2.1
  have hl : lv_has ls 2 [(0, .ref (a 0)), (1, .int p1)] := hl
  unfold fX6_failed at hf
  refine lv_aload_n hx hb dX6_failed_0 rfl (lv_at hl 0 rfl) ?_
  refine lv_iload_n hx hb dX6_failed_1 rfl (lv_at hl 1 rfl) ?_
  refine xp_HC_8 C0 hap hP hS q_177 dX6_failed_2 (fun H locs hP hS => ?_)
  refine lv_bipush (v := (-10 : Int32)) hx hb dX6_failed_5 (by decide) ?_
  refine lv_iload_n hx hb dX6_failed_7 rfl (lv_at hl 1 rfl) ?_
  refine lv_isub hx hb dX6_failed_8 ?_
  obtain ⟨rfl, rfl, rfl⟩ := kinj3 hf
  exact kret_i C0 hr hlk hP hS dX6_failed_9
set_option maxHeartbeats 4000000 in
set_option maxRecDepth 100000 in
theorem cX0_clear_c {l : Launch} {D : va_G} {cI cS : ClassId} {a : Nat → Nat} (hap : kAp a 29) {h : Nat} (hh : h < 2) {v : kV} {ar : kR} {v2 : kV} {ar2 : kR} (hf : fX0_clear h v ar = some (v2, ar2)) : kMet l D cI cS (xW cI cS a) (kA a 29) yX0_clear cX0_clear 1 none 0 0 [.ref (a (2+h))] v ar none v2 ar2 := by
  refine kstart (by decide) (Nat.le_of_ble_eq_true rfl) ?_
  intro p e s m args below meth c ls C0 hr hlk hl hP hS
  have C0 : kC p s m c args cX0_clear 1 RX0 D cI cS := C0
  have hx := C0.1.1
  have hb := C0.1.2.1
  have hl : lv_has ls 1 [(0, .ref (a (2+h)))] := hl
  unfold fX0_clear at hf
  refine lv_aload_n hx hb dX0_clear_0 rfl (lv_at hl 0 rfl) ?_
  refine lv_iconst (v := (0 : Int32)) hx hb dX0_clear_1 (by decide) ?_
  refine xp_H_0 C0 hap hh hP hS q_29 dX0_clear_2 (fun H locs hP hS => ?_)
  refine lv_aload_n hx hb dX0_clear_5 rfl (lv_at hl 0 rfl) ?_
  refine lv_iconst (v := (0 : Int32)) hx hb dX0_clear_6 (by decide) ?_
  refine xp_H_1 C0 hap hh hP hS q_33 dX0_clear_7 (fun H locs hP hS => ?_)
  refine lv_aload_n hx hb dX0_clear_10 rfl (lv_at hl 0 rfl) ?_
  refine lv_iconst (v := (0 : Int32)) hx hb dX0_clear_11 (by decide) ?_
  refine xp_H_2 C0 hap hh hP hS q_36 dX0_clear_12 (fun H locs hP hS => ?_)
  refine lv_aload_n hx hb dX0_clear_15 rfl (lv_at hl 0 rfl) ?_
  refine lv_iconst (v := (0 : Int32)) hx hb dX0_clear_16 (by decide) ?_
  refine xp_H_3 C0 hap hh hP hS q_41 dX0_clear_17 (fun H locs hP hS => ?_)
  refine lv_aload_n hx hb dX0_clear_20 rfl (lv_at hl 0 rfl) ?_
  refine lv_ldc (v := (1065353216 : Int32)) hx hb C0.1.2.2.2.1 (C0.1.2.2.2.2 _ q_234) dX0_clear_21 ?_
  refine xp_H_4 C0 hap hh hP hS q_43 dX0_clear_23 (fun H locs hP hS => ?_)
  obtain ⟨rfl, rfl⟩ := kinj2 hf
  exact kret_v C0 hr hlk hP hS dX0_clear_26
set_option maxHeartbeats 4000000 in
set_option maxRecDepth 100000 in
theorem cX5_isNext_c {l : Launch} {D : va_G} {cI cS : ClassId} {a : Nat → Nat} (hap : kAp a 29) {v : kV} {ar : kR} {p1 : Int32} {r : Bool} (hf : fX5_isNext v ar p1 = some r) : kMet l D cI cS (xW cI cS a) (kA a 29) yX5_isNext cX5_isNext 2 (some .boolean) 0 0 [.ref (a 4), .int p1] v ar (some (.int (bI r))) v ar := by
  refine kstart (by decide) (Nat.le_of_ble_eq_true rfl) ?_
  intro p e s m args below meth c ls C0 hr hlk hl hP hS
  have C0 : kC p s m c args cX5_isNext 2 RX5 D cI cS := C0
  have hx := C0.1.1
  have hb := C0.1.2.1
  have hl : lv_has ls 2 [(0, .ref (a 4)), (1, .int p1)] := hl
  unfold fX5_isNext at hf
  refine lv_aload_n hx hb dX5_isNext_0 rfl (lv_at hl 0 rfl) ?_
  refine xg_T_2 C0 hP q_83 dX5_isNext_1 ?_
  refine lv_aload_n hx hb dX5_isNext_4 rfl (lv_at hl 0 rfl) ?_
  refine xg_T_1 C0 hP q_82 dX5_isNext_5 ?_
  refine lv_icmp_ge (tgt := 28) hx hb dX5_isNext_8 (by decide) (fun c1 => ?_) (fun c1 => ?_)
  · have hf := kif_t c1 hf
    refine lv_iconst (v := (0 : Int32)) hx hb dX5_isNext_28 (by decide) ?_
    obtain rfl := Option.some.inj hf
    exact kret_z false rfl C0 hr hlk hP hS dX5_isNext_29
  · have hf := kif_f c1 hf
    refine lv_aload_n hx hb dX5_isNext_11 rfl (lv_at hl 0 rfl) ?_
    refine xg_T_0 C0 hP q_81 dX5_isNext_12 ?_
    refine lv_aload_n hx hb dX5_isNext_15 rfl (lv_at hl 0 rfl) ?_
    refine xg_T_2 C0 hP q_83 dX5_isNext_16 ?_
    obtain ⟨g2, hf⟩ := kgd hf
    refine xl_codes C0 hP g2 dX5_isNext_19 ?_
    refine lv_iload_n hx hb dX5_isNext_20 rfl (lv_at hl 1 rfl) ?_
    refine lv_icmp_ne (tgt := 28) hx hb dX5_isNext_21 (by decide) (fun c3 => ?_) (fun c3 => ?_)
    · have hf := kif_f c3 hf
      refine lv_iconst (v := (0 : Int32)) hx hb dX5_isNext_28 (by decide) ?_
      obtain rfl := Option.some.inj hf
      exact kret_z false rfl C0 hr hlk hP hS dX5_isNext_29
    · have hf := kif_t c3 hf
      refine lv_iconst (v := (1 : Int32)) hx hb dX5_isNext_24 (by decide) ?_
      refine lv_goto (tgt := 29) hx hb dX5_isNext_25 (by decide) ?_
      obtain rfl := Option.some.inj hf
      exact kret_z true rfl C0 hr hlk hP hS dX5_isNext_29
set_option maxHeartbeats 4000000 in
set_option maxRecDepth 100000 in
theorem cX5_takes_c {l : Launch} {D : va_G} {cI cS : ClassId} {a : Nat → Nat} (hap : kAp a 29) {v : kV} {ar : kR} {p1 : Int32} {r : Bool} {v2 : kV} {ar2 : kR} (hf : fX5_takes v ar p1 = some (r, v2, ar2)) : kMet l D cI cS (xW cI cS a) (kA a 29) yX5_takes cX5_takes 2 (some .boolean) 1 21 [.ref (a 4), .int p1] v ar (some (.int (bI r))) v2 ar2 := by
  refine kstart (by decide) (Nat.le_of_ble_eq_true rfl) ?_
  intro p e s m args below meth c ls C0 hr hlk hl hP hS
  have C0 : kC p s m c args cX5_takes 2 RX5 D cI cS := C0
  have hx := C0.1.1
  have hb := C0.1.2.1
  have hl : lv_has ls 2 [(0, .ref (a 4)), (1, .int p1)] := hl
  unfold fX5_takes at hf
  refine lv_aload_n hx hb dX5_takes_0 rfl (lv_at hl 0 rfl) ?_
  refine lv_iload_n hx hb dX5_takes_1 rfl (lv_at hl 1 rfl) ?_
  obtain ⟨r2, e1, hf⟩ := kb1_s hf
  refine kcallV (As := [.int p1]) (rest := []) C0 (cX5_isNext_c hap e1) q_239 kw_X5_isNext (xv_T C0.2 hP) hP hS ⟨Nat.le_of_ble_eq_true rfl, Nat.le_of_ble_eq_true rfl⟩ rfl hl.1 rfl (Nat.le_of_ble_eq_true rfl) dX5_takes_2 (fun H locs hP hS => ?_)
  refine lv_if_ne (tgt := 10) hx hb dX5_takes_5 (by decide) (fun c3 => ?_) (fun c3 => ?_)
  · have hf := kif_f c3 hf
    refine lv_aload_n hx hb dX5_takes_10 rfl (lv_at hl 0 rfl) ?_
    refine lv_dup hx hb dX5_takes_11 rfl ?_
    refine xg_T_2 C0 hP q_83 dX5_takes_12 ?_
    refine lv_iconst (v := (1 : Int32)) hx hb dX5_takes_15 (by decide) ?_
    refine lv_iadd hx hb dX5_takes_16 ?_
    refine xp_T_2 C0 hap hP hS q_83 dX5_takes_17 (fun H locs hP hS => ?_)
    refine lv_iconst (v := (1 : Int32)) hx hb dX5_takes_20 (by decide) ?_
    obtain ⟨rfl, rfl, rfl⟩ := kinj3 hf
    exact kret_z true rfl C0 hr hlk hP hS dX5_takes_21
  · have hf := kif_t c3 hf
    refine lv_iconst (v := (0 : Int32)) hx hb dX5_takes_8 (by decide) ?_
    obtain ⟨rfl, rfl, rfl⟩ := kinj3 hf
    exact kret_z false rfl C0 hr hlk hP hS dX5_takes_9
set_option maxHeartbeats 4000000 in
set_option maxRecDepth 100000 in
theorem cX5_digit_c {l : Launch} {D : va_G} {cI cS : ClassId} {a : Nat → Nat} (hap : kAp a 29) {v : kV} {ar : kR} {p1 : Int32} {p2 : Int32} {r : Int32} {v2 : kV} {ar2 : kR} (hf : fX5_digit v ar p1 p2 = some (r, v2, ar2)) : kMet l D cI cS (xW cI cS a) (kA a 29) yX5_digit cX5_digit 4 (some .int) 0 0 [.ref (a 4), .int p1, .int p2] v ar (some (.int r)) v2 ar2 := by
  refine kstart (by decide) (Nat.le_of_ble_eq_true rfl) ?_
  intro p e s m args below meth c ls C0 hr hlk hl hP hS
  have C0 : kC p s m c args cX5_digit 4 RX5 D cI cS := C0
  have hx := C0.1.1
  have hb := C0.1.2.1
  have hl : lv_has ls 4 [(0, .ref (a 4)), (1, .int p1), (2, .int p2)] := hl
  unfold fX5_digit at hf
  refine lv_aload_n hx hb dX5_digit_0 rfl (lv_at hl 0 rfl) ?_
  refine xg_T_2 C0 hP q_83 dX5_digit_1 ?_
  refine lv_aload_n hx hb dX5_digit_4 rfl (lv_at hl 0 rfl) ?_
  refine xg_T_1 C0 hP q_82 dX5_digit_5 ?_
  refine lv_icmp_lt (tgt := 14) hx hb dX5_digit_8 (by decide) (fun c1 => ?_) (fun c1 => ?_)
  · have hf := kif_t c1 hf
    refine lv_aload_n hx hb dX5_digit_14 rfl (lv_at hl 0 rfl) ?_
    refine xg_T_0 C0 hP q_81 dX5_digit_15 ?_
    refine lv_aload_n hx hb dX5_digit_18 rfl (lv_at hl 0 rfl) ?_
    refine xg_T_2 C0 hP q_83 dX5_digit_19 ?_
    obtain ⟨g2, hf⟩ := kgd hf
    refine xl_codes C0 hP g2 dX5_digit_22 ?_
    refine lv_istore_n (lv' := [(3, .int (ar (8) (v (13)).toNatClampNeg)), (0, .ref (a 4)), (1, .int p1), (2, .int p2)]) hx hb dX5_digit_23 rfl hl (by decide) rfl (fun ls hl => ?_)
    refine lv_iload_n hx hb dX5_digit_24 rfl (lv_at hl 0 rfl) ?_
    refine lv_bipush (v := (48 : Int32)) hx hb dX5_digit_25 (by decide) ?_
    refine lv_iload_n hx hb dX5_digit_27 rfl (lv_at hl 2 rfl) ?_
    refine lv_iadd hx hb dX5_digit_28 ?_
    refine lv_icmp_lt (tgt := 40) hx hb dX5_digit_29 (by decide) (fun c3 => ?_) (fun c3 => ?_)
    · have hf := kif_t c3 hf
      refine lv_bipush (v := (-9 : Int32)) hx hb dX5_digit_40 (by decide) ?_
      obtain ⟨rfl, rfl, rfl⟩ := kinj3 hf
      exact kret_i C0 hr hlk hP hS dX5_digit_42
    · have hf := kif_f c3 hf
      refine lv_iload_n hx hb dX5_digit_32 rfl (lv_at hl 0 rfl) ?_
      refine lv_bipush (v := (48 : Int32)) hx hb dX5_digit_33 (by decide) ?_
      refine lv_iload_n hx hb dX5_digit_35 rfl (lv_at hl 3 rfl) ?_
      refine lv_iadd hx hb dX5_digit_36 ?_
      refine lv_icmp_le (tgt := 43) hx hb dX5_digit_37 (by decide) (fun c4 => ?_) (fun c4 => ?_)
      · have hf := kif_t c4 hf
        refine lv_aload_n hx hb dX5_digit_43 rfl (lv_at hl 1 rfl) ?_
        refine lv_dup hx hb dX5_digit_44 rfl ?_
        refine xg_T_2 C0 hP q_83 dX5_digit_45 ?_
        refine lv_iconst (v := (1 : Int32)) hx hb dX5_digit_48 (by decide) ?_
        refine lv_iadd hx hb dX5_digit_49 ?_
        refine xp_T_2 C0 hap hP hS q_83 dX5_digit_50 (fun H locs hP hS => ?_)
        refine lv_iload_n hx hb dX5_digit_53 rfl (lv_at hl 0 rfl) ?_
        refine lv_bipush (v := (48 : Int32)) hx hb dX5_digit_54 (by decide) ?_
        refine lv_isub hx hb dX5_digit_56 ?_
        obtain ⟨rfl, rfl, rfl⟩ := kinj3 hf
        exact kret_i C0 hr hlk hP hS dX5_digit_57
      · have hf := kif_f c4 hf
        refine lv_bipush (v := (-9 : Int32)) hx hb dX5_digit_40 (by decide) ?_
        obtain ⟨rfl, rfl, rfl⟩ := kinj3 hf
        exact kret_i C0 hr hlk hP hS dX5_digit_42
  · have hf := kif_f c1 hf
    refine lv_bipush (v := (-9 : Int32)) hx hb dX5_digit_11 (by decide) ?_
    obtain ⟨rfl, rfl, rfl⟩ := kinj3 hf
    exact kret_i C0 hr hlk hP hS dX5_digit_13
set_option maxHeartbeats 4000000 in
set_option maxRecDepth 100000 in
theorem cX5_readsSide_c {l : Launch} {D : va_G} {cI cS : ClassId} {a : Nat → Nat} (hap : kAp a 29) {h : Nat} (hh : h < 2) {v : kV} {ar : kR} {p2 : Int32} {r : Bool} {v2 : kV} {ar2 : kR} (hf : fX5_readsSide h v ar p2 = some (r, v2, ar2)) : kMet l D cI cS (xW cI cS a) (kA a 29) yX5_readsSide cX5_readsSide 5 (some .boolean) 1 21 [.ref (a 4), .ref (a (2+h)), .int p2] v ar (some (.int (bI r))) v2 ar2 := by
  refine kstart (by decide) (Nat.le_of_ble_eq_true rfl) ?_
  intro p e s m args below meth c ls C0 hr hlk hl hP hS
  have C0 : kC p s m c args cX5_readsSide 5 RX5 D cI cS := C0
  have hx := C0.1.1
  have hb := C0.1.2.1
  have hl : lv_has ls 5 [(0, .ref (a 4)), (1, .ref (a (2+h))), (2, .int p2)] := hl
  have hB116 : ∀ (s0 : Int32) (s1 : Int32) (v : kV) (ar : kR) (H : Heap) (locs : List Loc) (ls : Array Slot), fX5_readsSide_116 h p2 s0 s1 v ar = some (r, v2, ar2) → va_P D vwCl (xW cI cS a v ar) H → va_S (kA a 29) s.heap H locs → lv_has ls 5 [] → kGo p l e 1 21 s m args below meth c D (xW cI cS a) (kA a 29) (some (.int (bI r))) v2 ar2 H locs (F0 m 116 ls [.int s0, .int s1, .ref (a (2+h))]) := by
    intro  s0 s1 v ar H locs ls hf hP hS hl
    unfold fX5_readsSide_116 at hf
    refine lv_ior hx hb dX5_readsSide_116 ?_
    refine xp_H_3 C0 hap hh hP hS q_42 dX5_readsSide_117 (fun H locs hP hS => ?_)
    refine lv_iconst (v := (1 : Int32)) hx hb dX5_readsSide_120 (by decide) ?_
    obtain ⟨rfl, rfl, rfl⟩ := kinj3 hf
    exact kret_z true rfl C0 hr hlk hP hS dX5_readsSide_121
  have hB95 : ∀ (x4 : Int32) (s0 : Int32) (s1 : Int32) (v : kV) (ar : kR) (H : Heap) (locs : List Loc) (ls : Array Slot), fX5_readsSide_95 h p2 x4 s0 s1 v ar = some (r, v2, ar2) → va_P D vwCl (xW cI cS a v ar) H → va_S (kA a 29) s.heap H locs → lv_has ls 5 [(1, .ref (a (2+h))), (2, .int p2), (4, .int x4)] → kGo p l e 1 21 s m args below meth c D (xW cI cS a) (kA a 29) (some (.int (bI r))) v2 ar2 H locs (F0 m 95 ls [.int s0, .int s1, .ref (a (2+h))]) := by
    intro  x4 s0 s1 v ar H locs ls hf hP hS hl
    unfold fX5_readsSide_95 at hf
    refine lv_ior hx hb dX5_readsSide_95 ?_
    refine xp_H_2 C0 hap hh hP hS q_39 dX5_readsSide_96 (fun H locs hP hS => ?_)
    refine lv_aload_n hx hb dX5_readsSide_99 rfl (lv_at hl 0 rfl) ?_
    refine lv_dup hx hb dX5_readsSide_100 rfl ?_
    refine xg_H_3 C0 hh hP q_42 dX5_readsSide_101 ?_
    refine lv_iload hx hb dX5_readsSide_104 (lv_at hl 2 rfl) ?_
    refine lv_if_eq (tgt := 115) hx hb dX5_readsSide_106 (by decide) (fun c9 => ?_) (fun c9 => ?_)
    · have hf := kif_t c9 hf
      refine lv_iconst (v := (0 : Int32)) hx hb dX5_readsSide_115 (by decide) ?_
      exact hB116 _ _ _ _ _ _ _ hf hP hS (lv_sub hl [] rfl)
    · have hf := kif_f c9 hf
      refine lv_iconst (v := (1 : Int32)) hx hb dX5_readsSide_109 (by decide) ?_
      refine lv_iload_n hx hb dX5_readsSide_110 rfl (lv_at hl 1 rfl) ?_
      refine lv_ishl hx hb dX5_readsSide_111 ?_
      refine lv_goto (tgt := 116) hx hb dX5_readsSide_112 (by decide) ?_
      exact hB116 _ _ _ _ _ _ _ hf hP hS (lv_sub hl [] rfl)
  have hB69 : ∀ (x3 : Int32) (x4 : Int32) (v : kV) (ar : kR) (H : Heap) (locs : List Loc) (ls : Array Slot), fX5_readsSide_69 h p2 x3 x4 v ar = some (r, v2, ar2) → va_P D vwCl (xW cI cS a v ar) H → va_S (kA a 29) s.heap H locs → lv_has ls 5 [(0, .ref (a 4)), (1, .ref (a (2+h))), (2, .int p2), (3, .int x3), (4, .int x4)] → kGo p l e 1 21 s m args below meth c D (xW cI cS a) (kA a 29) (some (.int (bI r))) v2 ar2 H locs (F0 m 69 ls []) := by
    intro  x3 x4 v ar H locs ls hf hP hS hl
    unfold fX5_readsSide_69 at hf
    refine lv_aload_n hx hb dX5_readsSide_69 rfl (lv_at hl 0 rfl) ?_
    refine lv_dup hx hb dX5_readsSide_70 rfl ?_
    refine xg_T_2 C0 hP q_83 dX5_readsSide_71 ?_
    refine lv_iconst (v := (1 : Int32)) hx hb dX5_readsSide_74 (by decide) ?_
    refine lv_iadd hx hb dX5_readsSide_75 ?_
    refine xp_T_2 C0 hap hP hS q_83 dX5_readsSide_76 (fun H locs hP hS => ?_)
    refine lv_aload_n hx hb dX5_readsSide_79 rfl (lv_at hl 1 rfl) ?_
    refine lv_dup hx hb dX5_readsSide_80 rfl ?_
    refine xg_H_2 C0 hh hP q_39 dX5_readsSide_81 ?_
    refine lv_iload_n hx hb dX5_readsSide_84 rfl (lv_at hl 3 rfl) ?_
    refine lv_if_eq (tgt := 94) hx hb dX5_readsSide_85 (by decide) (fun c8 => ?_) (fun c8 => ?_)
    · have hf := kif_t c8 hf
      refine lv_iconst (v := (0 : Int32)) hx hb dX5_readsSide_94 (by decide) ?_
      exact hB95 _ _ _ _ _ _ _ _ hf hP hS (lv_sub hl [1, 2, 4] rfl)
    · have hf := kif_f c8 hf
      refine lv_iconst (v := (1 : Int32)) hx hb dX5_readsSide_88 (by decide) ?_
      refine lv_iload_n hx hb dX5_readsSide_89 rfl (lv_at hl 2 rfl) ?_
      refine lv_ishl hx hb dX5_readsSide_90 ?_
      refine lv_goto (tgt := 95) hx hb dX5_readsSide_91 (by decide) ?_
      exact hB95 _ _ _ _ _ _ _ _ hf hP hS (lv_sub hl [1, 2, 4] rfl)
  have hB47 : ∀ (x3 : Int32) (s0 : Int32) (v : kV) (ar : kR) (H : Heap) (locs : List Loc) (ls : Array Slot), fX5_readsSide_47 h p2 x3 s0 v ar = some (r, v2, ar2) → va_P D vwCl (xW cI cS a v ar) H → va_S (kA a 29) s.heap H locs → lv_has ls 5 [(0, .ref (a 4)), (1, .ref (a (2+h))), (2, .int p2), (3, .int x3)] → kGo p l e 1 21 s m args below meth c D (xW cI cS a) (kA a 29) (some (.int (bI r))) v2 ar2 H locs (F0 m 47 ls [.int s0]) := by
    intro  x3 s0 v ar H locs ls hf hP hS hl
    unfold fX5_readsSide_47 at hf
    refine lv_istore (lv' := [(4, .int s0), (0, .ref (a 4)), (1, .ref (a (2+h))), (2, .int p2), (3, .int x3)]) hx hb dX5_readsSide_47 hl (by decide) rfl (fun ls hl => ?_)
    refine lv_iload_n hx hb dX5_readsSide_49 rfl (lv_at hl 4 rfl) ?_
    refine lv_if_ne (tgt := 69) hx hb dX5_readsSide_50 (by decide) (fun c7 => ?_) (fun c7 => ?_)
    · have hf := kif_f c7 hf
      exact hB69 _ _ _ _ _ _ _ hf hP hS (lv_sub hl [1, 2, 3, 4, 0] rfl)
    · have hf := kif_t c7 hf
      refine lv_iload hx hb dX5_readsSide_53 (lv_at hl 0 rfl) ?_
      refine lv_if_ne (tgt := 69) hx hb dX5_readsSide_55 (by decide) (fun c10 => ?_) (fun c10 => ?_)
      · have hf := kif_f c10 hf
        exact hB69 _ _ _ _ _ _ _ hf hP hS (lv_sub hl [1, 2, 3, 4, 0] rfl)
      · have hf := kif_t c10 hf
        refine lv_aload_n hx hb dX5_readsSide_58 rfl (lv_at hl 1 rfl) ?_
        refine lv_bipush (v := (108 : Int32)) hx hb dX5_readsSide_59 (by decide) ?_
        obtain ⟨r12, e11, hf⟩ := kb1_s hf
        refine kcallV (As := [.int (108 : Int32)]) (rest := []) C0 (cX5_isNext_c hap e11) q_239 kw_X5_isNext (xv_T C0.2 hP) hP hS ⟨Nat.le_of_ble_eq_true rfl, Nat.le_of_ble_eq_true rfl⟩ rfl hl.1 rfl (Nat.le_of_ble_eq_true rfl) dX5_readsSide_61 (fun H locs hP hS => ?_)
        refine lv_if_ne (tgt := 69) hx hb dX5_readsSide_64 (by decide) (fun c13 => ?_) (fun c13 => ?_)
        · have hf := kif_f c13 hf
          exact hB69 _ _ _ _ _ _ _ hf hP hS (lv_sub hl [1, 2, 3, 4, 0] rfl)
        · have hf := kif_t c13 hf
          refine lv_iconst (v := (0 : Int32)) hx hb dX5_readsSide_67 (by decide) ?_
          obtain ⟨rfl, rfl, rfl⟩ := kinj3 hf
          exact kret_z false rfl C0 hr hlk hP hS dX5_readsSide_68
  have hB42 : ∀ (x3 : Int32) (v : kV) (ar : kR) (H : Heap) (locs : List Loc) (ls : Array Slot), fX5_readsSide_42 h p2 x3 v ar = some (r, v2, ar2) → va_P D vwCl (xW cI cS a v ar) H → va_S (kA a 29) s.heap H locs → lv_has ls 5 [(0, .ref (a 4)), (1, .ref (a (2+h))), (2, .int p2), (3, .int x3)] → kGo p l e 1 21 s m args below meth c D (xW cI cS a) (kA a 29) (some (.int (bI r))) v2 ar2 H locs (F0 m 42 ls []) := by
    intro  x3 v ar H locs ls hf hP hS hl
    unfold fX5_readsSide_42 at hf
    refine lv_iconst (v := (1 : Int32)) hx hb dX5_readsSide_42 (by decide) ?_
    refine lv_goto (tgt := 47) hx hb dX5_readsSide_43 (by decide) ?_
    exact hB47 _ _ _ _ _ _ _ hf hP hS (lv_sub hl [0, 1, 2, 3] rfl)
  have hB23 : ∀ (s0 : Int32) (v : kV) (ar : kR) (H : Heap) (locs : List Loc) (ls : Array Slot), fX5_readsSide_23 h p2 s0 v ar = some (r, v2, ar2) → va_P D vwCl (xW cI cS a v ar) H → va_S (kA a 29) s.heap H locs → lv_has ls 5 [(0, .ref (a 4)), (1, .ref (a (2+h))), (2, .int p2)] → kGo p l e 1 21 s m args below meth c D (xW cI cS a) (kA a 29) (some (.int (bI r))) v2 ar2 H locs (F0 m 23 ls [.int s0]) := by
    intro  s0 v ar H locs ls hf hP hS hl
    unfold fX5_readsSide_23 at hf
    refine lv_istore_n (lv' := [(3, .int s0), (0, .ref (a 4)), (1, .ref (a (2+h))), (2, .int p2)]) hx hb dX5_readsSide_23 rfl hl (by decide) rfl (fun ls hl => ?_)
    refine lv_aload_n hx hb dX5_readsSide_24 rfl (lv_at hl 1 rfl) ?_
    refine lv_bipush (v := (76 : Int32)) hx hb dX5_readsSide_25 (by decide) ?_
    obtain ⟨r5, e4, hf⟩ := kb1_s hf
    refine kcallV (As := [.int (76 : Int32)]) (rest := []) C0 (cX5_isNext_c hap e4) q_239 kw_X5_isNext (xv_T C0.2 hP) hP hS ⟨Nat.le_of_ble_eq_true rfl, Nat.le_of_ble_eq_true rfl⟩ rfl hl.1 rfl (Nat.le_of_ble_eq_true rfl) dX5_readsSide_27 (fun H locs hP hS => ?_)
    refine lv_if_ne (tgt := 42) hx hb dX5_readsSide_30 (by decide) (fun c6 => ?_) (fun c6 => ?_)
    · have hf := kif_f c6 hf
      exact hB42 _ _ _ _ _ _ hf hP hS (lv_sub hl [1, 2, 3, 0] rfl)
    · have hf := kif_t c6 hf
      refine lv_aload_n hx hb dX5_readsSide_33 rfl (lv_at hl 1 rfl) ?_
      refine lv_bipush (v := (82 : Int32)) hx hb dX5_readsSide_34 (by decide) ?_
      obtain ⟨r15, e14, hf⟩ := kb1_s hf
      refine kcallV (As := [.int (82 : Int32)]) (rest := []) C0 (cX5_isNext_c hap e14) q_239 kw_X5_isNext (xv_T C0.2 hP) hP hS ⟨Nat.le_of_ble_eq_true rfl, Nat.le_of_ble_eq_true rfl⟩ rfl hl.1 rfl (Nat.le_of_ble_eq_true rfl) dX5_readsSide_36 (fun H locs hP hS => ?_)
      refine lv_if_eq (tgt := 46) hx hb dX5_readsSide_39 (by decide) (fun c16 => ?_) (fun c16 => ?_)
      · have hf := kif_t c16 hf
        refine lv_iconst (v := (0 : Int32)) hx hb dX5_readsSide_46 (by decide) ?_
        exact hB47 _ _ _ _ _ _ _ hf hP hS (lv_sub hl [1, 2, 3, 0] rfl)
      · have hf := kif_f c16 hf
        exact hB42 _ _ _ _ _ _ hf hP hS (lv_sub hl [1, 2, 3, 0] rfl)
  have hB18 : ∀ (v : kV) (ar : kR) (H : Heap) (locs : List Loc) (ls : Array Slot), fX5_readsSide_18 h p2 v ar = some (r, v2, ar2) → va_P D vwCl (xW cI cS a v ar) H → va_S (kA a 29) s.heap H locs → lv_has ls 5 [(0, .ref (a 4)), (1, .ref (a (2+h))), (2, .int p2)] → kGo p l e 1 21 s m args below meth c D (xW cI cS a) (kA a 29) (some (.int (bI r))) v2 ar2 H locs (F0 m 18 ls []) := by
    intro  v ar H locs ls hf hP hS hl
    unfold fX5_readsSide_18 at hf
    refine lv_iconst (v := (1 : Int32)) hx hb dX5_readsSide_18 (by decide) ?_
    refine lv_goto (tgt := 23) hx hb dX5_readsSide_19 (by decide) ?_
    exact hB23 _ _ _ _ _ _ hf hP hS (lv_sub hl [0, 1, 2] rfl)
  unfold fX5_readsSide at hf
  refine lv_aload_n hx hb dX5_readsSide_0 rfl (lv_at hl 0 rfl) ?_
  refine lv_bipush (v := (114 : Int32)) hx hb dX5_readsSide_1 (by decide) ?_
  obtain ⟨r2, e1, hf⟩ := kb1_s hf
  refine kcallV (As := [.int (114 : Int32)]) (rest := []) C0 (cX5_isNext_c hap e1) q_239 kw_X5_isNext (xv_T C0.2 hP) hP hS ⟨Nat.le_of_ble_eq_true rfl, Nat.le_of_ble_eq_true rfl⟩ rfl hl.1 rfl (Nat.le_of_ble_eq_true rfl) dX5_readsSide_3 (fun H locs hP hS => ?_)
  refine lv_if_ne (tgt := 18) hx hb dX5_readsSide_6 (by decide) (fun c3 => ?_) (fun c3 => ?_)
  · have hf := kif_f c3 hf
    exact hB18 _ _ _ _ _ hf hP hS (lv_sub hl [0, 1, 2] rfl)
  · have hf := kif_t c3 hf
    refine lv_aload_n hx hb dX5_readsSide_9 rfl (lv_at hl 0 rfl) ?_
    refine lv_bipush (v := (82 : Int32)) hx hb dX5_readsSide_10 (by decide) ?_
    obtain ⟨r18, e17, hf⟩ := kb1_s hf
    refine kcallV (As := [.int (82 : Int32)]) (rest := []) C0 (cX5_isNext_c hap e17) q_239 kw_X5_isNext (xv_T C0.2 hP) hP hS ⟨Nat.le_of_ble_eq_true rfl, Nat.le_of_ble_eq_true rfl⟩ rfl hl.1 rfl (Nat.le_of_ble_eq_true rfl) dX5_readsSide_12 (fun H locs hP hS => ?_)
    refine lv_if_eq (tgt := 22) hx hb dX5_readsSide_15 (by decide) (fun c19 => ?_) (fun c19 => ?_)
    · have hf := kif_t c19 hf
      refine lv_iconst (v := (0 : Int32)) hx hb dX5_readsSide_22 (by decide) ?_
      exact hB23 _ _ _ _ _ _ hf hP hS (lv_sub hl [0, 1, 2] rfl)
    · have hf := kif_f c19 hf
      exact hB18 _ _ _ _ _ hf hP hS (lv_sub hl [0, 1, 2] rfl)
set_option maxHeartbeats 4000000 in
set_option maxRecDepth 100000 in
theorem cX0_set_c {l : Launch} {D : va_G} {cI cS : ClassId} {a : Nat → Nat} (hap : kAp a 29) {h : Nat} (hh : h < 2) {v : kV} {ar : kR} {p1 : Int32} {p2 : Int32} {p3 : Int32} {v2 : kV} {ar2 : kR} (hf : fX0_set h v ar p1 p2 p3 = some (v2, ar2)) : kMet l D cI cS (xW cI cS a) (kA a 29) yX0_set cX0_set 4 none 0 0 [.ref (a (2+h)), .int p1, .int p2, .int p3] v ar none v2 ar2 := by
  refine kstart (by decide) (Nat.le_of_ble_eq_true rfl) ?_
  intro p e s m args below meth c ls C0 hr hlk hl hP hS
  have C0 : kC p s m c args cX0_set 4 RX0 D cI cS := C0
  have hx := C0.1.1
  have hb := C0.1.2.1
  have hl : lv_has ls 4 [(0, .ref (a (2+h))), (1, .int p1), (2, .int p2), (3, .int p3)] := hl
  unfold fX0_set at hf
  refine lv_aload_n hx hb dX0_set_0 rfl (lv_at hl 0 rfl) ?_
  refine xg_H_5 C0 hh hP q_45 dX0_set_1 ?_
  refine lv_iload_n hx hb dX0_set_4 rfl (lv_at hl 1 rfl) ?_
  refine lv_iload_n hx hb dX0_set_5 rfl (lv_at hl 2 rfl) ?_
  obtain ⟨g1, hf⟩ := kgd hf
  refine xt_kind C0 hap hh hP hS g1 dX0_set_6 (fun H locs hP hS => ?_)
  refine lv_aload_n hx hb dX0_set_7 rfl (lv_at hl 0 rfl) ?_
  refine xg_H_6 C0 hh hP q_47 dX0_set_8 ?_
  refine lv_iload_n hx hb dX0_set_11 rfl (lv_at hl 1 rfl) ?_
  refine lv_iload_n hx hb dX0_set_12 rfl (lv_at hl 3 rfl) ?_
  obtain ⟨g2, hf⟩ := kgd hf
  refine xt_bulk C0 hap hh hP hS g2 dX0_set_13 (fun H locs hP hS => ?_)
  refine lv_iload_n hx hb dX0_set_14 rfl (lv_at hl 2 rfl) ?_
  by_cases c3 : p2 = (1 : Int32)
  · have hf := kif_t c3 hf
    refine lv_lookup (tgt := 40) (off := (25 : Int)) hx hb dX0_set_15 (by decide) (by rw [c3]; decide) (by decide) ?_
    refine lv_aload_n hx hb dX0_set_40 rfl (lv_at hl 0 rfl) ?_
    refine xg_H_7 C0 hh hP q_49 dX0_set_41 ?_
    refine lv_iload_n hx hb dX0_set_44 rfl (lv_at hl 1 rfl) ?_
    refine lv_iload_n hx hb dX0_set_45 rfl (lv_at hl 3 rfl) ?_
    refine lv_iconst (v := (1 : Int32)) hx hb dX0_set_46 (by decide) ?_
    refine lv_iadd hx hb dX0_set_47 ?_
    obtain ⟨g4, hf⟩ := kgd hf
    refine xt_weight C0 hap hh hP hS g4 dX0_set_48 (fun H locs hP hS => ?_)
    refine lv_goto (tgt := 71) hx hb dX0_set_49 (by decide) ?_
    obtain ⟨rfl, rfl⟩ := kinj2 hf
    exact kret_v C0 hr hlk hP hS dX0_set_71
  · have hf := kif_f c3 hf
    by_cases c5 : p2 = (2 : Int32)
    · have hf := kif_t c5 hf
      refine lv_lookup (tgt := 52) (off := (37 : Int)) hx hb dX0_set_15 (by decide) (by rw [c5]; decide) (by decide) ?_
      refine lv_aload_n hx hb dX0_set_52 rfl (lv_at hl 0 rfl) ?_
      refine xg_H_7 C0 hh hP q_49 dX0_set_53 ?_
      refine lv_iload_n hx hb dX0_set_56 rfl (lv_at hl 1 rfl) ?_
      refine lv_iconst (v := (2 : Int32)) hx hb dX0_set_57 (by decide) ?_
      refine lv_iload_n hx hb dX0_set_58 rfl (lv_at hl 3 rfl) ?_
      refine lv_imul hx hb dX0_set_59 ?_
      obtain ⟨g6, hf⟩ := kgd hf
      refine xt_weight C0 hap hh hP hS g6 dX0_set_60 (fun H locs hP hS => ?_)
      refine lv_goto (tgt := 71) hx hb dX0_set_61 (by decide) ?_
      obtain ⟨rfl, rfl⟩ := kinj2 hf
      exact kret_v C0 hr hlk hP hS dX0_set_71
    · have hf := kif_f c5 hf
      refine lv_lookup (tgt := 64) (off := (49 : Int)) hx hb dX0_set_15 (by decide) (by show Op.lookupswitch.offset [(1, 25), (2, 37)] (49 : Int) _ = _; rw [lv_osw c3 (by decide), lv_osw c5 (by decide)]; rfl) (by decide) ?_
      refine lv_aload_n hx hb dX0_set_64 rfl (lv_at hl 0 rfl) ?_
      refine xg_H_7 C0 hh hP q_49 dX0_set_65 ?_
      refine lv_iload_n hx hb dX0_set_68 rfl (lv_at hl 1 rfl) ?_
      refine lv_iload_n hx hb dX0_set_69 rfl (lv_at hl 3 rfl) ?_
      obtain ⟨g7, hf⟩ := kgd hf
      refine xt_weight C0 hap hh hP hS g7 dX0_set_70 (fun H locs hP hS => ?_)
      obtain ⟨rfl, rfl⟩ := kinj2 hf
      exact kret_v C0 hr hlk hP hS dX0_set_71
set_option maxHeartbeats 4000000 in
set_option maxRecDepth 100000 in
theorem cX5_readsCell_c {l : Launch} {D : va_G} {cI cS : ClassId} {a : Nat → Nat} (hap : kAp a 29) {h : Nat} (hh : h < 2) {v : kV} {ar : kR} {r : Bool} {v2 : kV} {ar2 : kR} (hf : fX5_readsCell h v ar = some (r, v2, ar2)) : kMet l D cI cS (xW cI cS a) (kA a 29) yX5_readsCell cX5_readsCell 5 (some .boolean) 2 45 [.ref (a 4), .ref (a (2+h))] v ar (some (.int (bI r))) v2 ar2 := by
  refine kstart (by decide) (Nat.le_of_ble_eq_true rfl) ?_
  intro p e s m args below meth c ls C0 hr hlk hl hP hS
  have C0 : kC p s m c args cX5_readsCell 5 RX5 D cI cS := C0
  have hx := C0.1.1
  have hb := C0.1.2.1
  have hl : lv_has ls 5 [(0, .ref (a 4)), (1, .ref (a (2+h)))] := hl
  have hB46 : ∀ (x2 : Int32) (s0 : Int32) (v : kV) (ar : kR) (H : Heap) (locs : List Loc) (ls : Array Slot), fX5_readsCell_46 h x2 s0 v ar = some (r, v2, ar2) → va_P D vwCl (xW cI cS a v ar) H → va_S (kA a 29) s.heap H locs → lv_has ls 5 [(0, .ref (a 4)), (1, .ref (a (2+h))), (2, .int x2)] → kGo p l e 2 45 s m args below meth c D (xW cI cS a) (kA a 29) (some (.int (bI r))) v2 ar2 H locs (F0 m 46 ls [.int s0]) := by
    intro  x2 s0 v ar H locs ls hf hP hS hl
    unfold fX5_readsCell_46 at hf
    refine lv_istore_n (lv' := [(3, .int s0), (0, .ref (a 4)), (1, .ref (a (2+h))), (2, .int x2)]) hx hb dX5_readsCell_46 rfl hl (by decide) rfl (fun ls hl => ?_)
    refine lv_iload_n hx hb dX5_readsCell_47 rfl (lv_at hl 0 rfl) ?_
    refine lv_bipush (v := (-9 : Int32)) hx hb dX5_readsCell_48 (by decide) ?_
    refine lv_icmp_ne (tgt := 55) hx hb dX5_readsCell_50 (by decide) (fun c16 => ?_) (fun c16 => ?_)
    · have hf := kif_f c16 hf
      refine lv_aload_n hx hb dX5_readsCell_55 rfl (lv_at hl 1 rfl) ?_
      refine lv_iconst (v := (1 : Int32)) hx hb dX5_readsCell_56 (by decide) ?_
      refine lv_bipush (v := (9 : Int32)) hx hb dX5_readsCell_57 (by decide) ?_
      obtain ⟨r18, v19, ar20, e17, hf⟩ := kb3_s hf
      refine kcallV (As := [.int (1 : Int32), .int (9 : Int32)]) (rest := []) C0 (cX5_digit_c hap e17) q_247 kw_X5_digit (xv_T C0.2 hP) hP hS ⟨Nat.le_of_ble_eq_true rfl, Nat.le_of_ble_eq_true rfl⟩ rfl hl.1 rfl (Nat.le_of_ble_eq_true rfl) dX5_readsCell_59 (fun H locs hP hS => ?_)
      refine lv_istore (lv' := [(4, .int r18), (3, .int s0), (0, .ref (a 4)), (1, .ref (a (2+h))), (2, .int x2)]) hx hb dX5_readsCell_62 hl (by decide) rfl (fun ls hl => ?_)
      refine lv_iload hx hb dX5_readsCell_64 (lv_at hl 0 rfl) ?_
      refine lv_bipush (v := (-9 : Int32)) hx hb dX5_readsCell_66 (by decide) ?_
      refine lv_icmp_eq (tgt := 80) hx hb dX5_readsCell_68 (by decide) (fun c21 => ?_) (fun c21 => ?_)
      · have hf := kif_t c21 hf
        refine lv_iconst (v := (0 : Int32)) hx hb dX5_readsCell_80 (by decide) ?_
        obtain ⟨rfl, rfl, rfl⟩ := kinj3 hf
        exact kret_z false rfl C0 hr hlk hP hS dX5_readsCell_81
      · have hf := kif_f c21 hf
        refine lv_aload_n hx hb dX5_readsCell_71 rfl (lv_at hl 2 rfl) ?_
        refine lv_aload_n hx hb dX5_readsCell_72 rfl (lv_at hl 3 rfl) ?_
        refine lv_iload_n hx hb dX5_readsCell_73 rfl (lv_at hl 4 rfl) ?_
        obtain ⟨r23, v24, ar25, e22, hf⟩ := kb3_s hf
        refine kcallV (As := [.ref (a (2+h)), .int x2]) (rest := []) C0 (cX5_readsSide_c hap hh e22) q_251 kw_X5_readsSide (xv_T C0.2 hP) hP hS ⟨Nat.le_of_ble_eq_true rfl, Nat.le_of_ble_eq_true rfl⟩ rfl hl.1 rfl (Nat.le_of_ble_eq_true rfl) dX5_readsCell_74 (fun H locs hP hS => ?_)
        refine lv_if_ne (tgt := 82) hx hb dX5_readsCell_77 (by decide) (fun c26 => ?_) (fun c26 => ?_)
        · have hf := kif_f c26 hf
          refine lv_aload_n hx hb dX5_readsCell_82 rfl (lv_at hl 3 rfl) ?_
          refine lv_iload_n hx hb dX5_readsCell_83 rfl (lv_at hl 4 rfl) ?_
          refine lv_iload_n hx hb dX5_readsCell_84 rfl (lv_at hl 1 rfl) ?_
          refine lv_iload hx hb dX5_readsCell_85 (lv_at hl 0 rfl) ?_
          obtain ⟨v29, ar30, e27, hf⟩ := kb2_s hf
          refine kcallV (As := [.int x2, .int s0, .int r18]) (rest := []) C0 (cX0_set_c hap hh e27) q_255 kw_X0_set (xv_H hh C0.2 hP) hP hS ⟨Nat.le_of_ble_eq_true rfl, Nat.le_of_ble_eq_true rfl⟩ rfl hl.1 rfl (Nat.le_of_ble_eq_true rfl) dX5_readsCell_87 (fun H locs hP hS => ?_)
          refine lv_aload_n hx hb dX5_readsCell_90 rfl (lv_at hl 3 rfl) ?_
          refine lv_iload_n hx hb dX5_readsCell_91 rfl (lv_at hl 4 rfl) ?_
          refine lv_iconst (v := (1 : Int32)) hx hb dX5_readsCell_92 (by decide) ?_
          refine lv_iadd hx hb dX5_readsCell_93 ?_
          refine xp_H_0 C0 hap hh hP hS q_32 dX5_readsCell_94 (fun H locs hP hS => ?_)
          refine lv_iconst (v := (1 : Int32)) hx hb dX5_readsCell_97 (by decide) ?_
          obtain ⟨rfl, rfl, rfl⟩ := kinj3 hf
          exact kret_z true rfl C0 hr hlk hP hS dX5_readsCell_98
        · have hf := kif_t c26 hf
          refine lv_iconst (v := (0 : Int32)) hx hb dX5_readsCell_80 (by decide) ?_
          obtain ⟨rfl, rfl, rfl⟩ := kinj3 hf
          exact kret_z false rfl C0 hr hlk hP hS dX5_readsCell_81
    · have hf := kif_t c16 hf
      refine lv_iconst (v := (0 : Int32)) hx hb dX5_readsCell_53 (by decide) ?_
      obtain ⟨rfl, rfl, rfl⟩ := kinj3 hf
      exact kret_z false rfl C0 hr hlk hP hS dX5_readsCell_54
  unfold fX5_readsCell at hf
  refine lv_aload_n hx hb dX5_readsCell_0 rfl (lv_at hl 1 rfl) ?_
  refine xg_H_0 C0 hh hP q_32 dX5_readsCell_1 ?_
  refine lv_istore_n (lv' := [(2, .int (v (2+5*h+0))), (0, .ref (a 4)), (1, .ref (a (2+h)))]) hx hb dX5_readsCell_4 rfl hl (by decide) rfl (fun ls hl => ?_)
  refine lv_aload_n hx hb dX5_readsCell_5 rfl (lv_at hl 1 rfl) ?_
  refine lv_bipush (v := (112 : Int32)) hx hb dX5_readsCell_6 (by decide) ?_
  obtain ⟨r2, v3, ar4, e1, hf⟩ := kb3_s hf
  refine kcallV (As := [.int (112 : Int32)]) (rest := []) C0 (cX5_takes_c hap e1) q_235 kw_X5_takes (xv_T C0.2 hP) hP hS ⟨Nat.le_of_ble_eq_true rfl, Nat.le_of_ble_eq_true rfl⟩ rfl hl.1 rfl (Nat.le_of_ble_eq_true rfl) dX5_readsCell_8 (fun H locs hP hS => ?_)
  refine lv_if_eq (tgt := 18) hx hb dX5_readsCell_11 (by decide) (fun c5 => ?_) (fun c5 => ?_)
  · have hf := kif_t c5 hf
    refine lv_aload_n hx hb dX5_readsCell_18 rfl (lv_at hl 1 rfl) ?_
    refine lv_bipush (v := (98 : Int32)) hx hb dX5_readsCell_19 (by decide) ?_
    obtain ⟨r7, v8, ar9, e6, hf⟩ := kb3_s hf
    refine kcallV (As := [.int (98 : Int32)]) (rest := []) C0 (cX5_takes_c hap e6) q_235 kw_X5_takes (xv_T C0.2 hP) hP hS ⟨Nat.le_of_ble_eq_true rfl, Nat.le_of_ble_eq_true rfl⟩ rfl hl.1 rfl (Nat.le_of_ble_eq_true rfl) dX5_readsCell_21 (fun H locs hP hS => ?_)
    refine lv_if_eq (tgt := 31) hx hb dX5_readsCell_24 (by decide) (fun c10 => ?_) (fun c10 => ?_)
    · have hf := kif_t c10 hf
      refine lv_aload_n hx hb dX5_readsCell_31 rfl (lv_at hl 1 rfl) ?_
      refine lv_bipush (v := (100 : Int32)) hx hb dX5_readsCell_32 (by decide) ?_
      obtain ⟨r12, v13, ar14, e11, hf⟩ := kb3_s hf
      refine kcallV (As := [.int (100 : Int32)]) (rest := []) C0 (cX5_takes_c hap e11) q_235 kw_X5_takes (xv_T C0.2 hP) hP hS ⟨Nat.le_of_ble_eq_true rfl, Nat.le_of_ble_eq_true rfl⟩ rfl hl.1 rfl (Nat.le_of_ble_eq_true rfl) dX5_readsCell_34 (fun H locs hP hS => ?_)
      refine lv_if_eq (tgt := 44) hx hb dX5_readsCell_37 (by decide) (fun c15 => ?_) (fun c15 => ?_)
      · have hf := kif_t c15 hf
        refine lv_bipush (v := (-9 : Int32)) hx hb dX5_readsCell_44 (by decide) ?_
        exact hB46 _ _ _ _ _ _ _ hf hP hS (lv_sub hl [1, 2, 0] rfl)
      · have hf := kif_f c15 hf
        refine lv_iconst (v := (2 : Int32)) hx hb dX5_readsCell_40 (by decide) ?_
        refine lv_goto (tgt := 46) hx hb dX5_readsCell_41 (by decide) ?_
        exact hB46 _ _ _ _ _ _ _ hf hP hS (lv_sub hl [1, 2, 0] rfl)
    · have hf := kif_f c10 hf
      refine lv_iconst (v := (1 : Int32)) hx hb dX5_readsCell_27 (by decide) ?_
      refine lv_goto (tgt := 46) hx hb dX5_readsCell_28 (by decide) ?_
      exact hB46 _ _ _ _ _ _ _ hf hP hS (lv_sub hl [1, 2, 0] rfl)
  · have hf := kif_f c5 hf
    refine lv_iconst (v := (0 : Int32)) hx hb dX5_readsCell_14 (by decide) ?_
    refine lv_goto (tgt := 46) hx hb dX5_readsCell_15 (by decide) ?_
    exact hB46 _ _ _ _ _ _ _ hf hP hS (lv_sub hl [1, 2, 0] rfl)
set_option maxHeartbeats 4000000 in
set_option maxRecDepth 100000 in
theorem cJ6_bitCount_0f7a4_c {l : Launch} {D : va_G} {cI cS : ClassId} {a : Nat → Nat} (hap : kAp a 29) {v : kV} {ar : kR} {p0 : Int32} {r : Int32} (hf : fJ6_bitCount_0f7a4 p0 = some r) : kMet l D cI cS (xW cI cS a) (kA a 29) yJ6_bitCount_0f7a4 cJ6_bitCount_0f7a4 1 (some .int) 0 0 [.int p0] v ar (some (.int r)) v ar := by
  refine kstart (by decide) (Nat.le_of_ble_eq_true rfl) ?_
  intro p e s m args below meth c ls C0 hr hlk hl hP hS
  have C0 : kC p s m c args cJ6_bitCount_0f7a4 1 RJ6 D cI cS := C0
  have hx := C0.1.1
  have hb := C0.1.2.1
  have hl : lv_has ls 1 [(0, .int p0)] := hl
  unfold fJ6_bitCount_0f7a4 at hf
  refine lv_iload_n hx hb dJ6_bitCount_0f7a4_0 rfl (lv_at hl 0 rfl) ?_
  refine lv_iload_n hx hb dJ6_bitCount_0f7a4_1 rfl (lv_at hl 0 rfl) ?_
  refine lv_iconst (v := (1 : Int32)) hx hb dJ6_bitCount_0f7a4_2 (by decide) ?_
  refine lv_iushr (v := ((p0.toUInt32 >>> ((1 : Int32).toUInt32 &&& Int32.toUInt32 31)).toInt32)) hx hb dJ6_bitCount_0f7a4_3 rfl ?_
  refine lv_ldcw (v := (1431655765 : Int32)) hx hb C0.1.2.2.2.1 (C0.1.2.2.2.2 _ q_266) dJ6_bitCount_0f7a4_4 ?_
  refine lv_iand hx hb dJ6_bitCount_0f7a4_7 ?_
  refine lv_isub hx hb dJ6_bitCount_0f7a4_8 ?_
  refine lv_istore_n (lv' := [(0, .int (p0 - (((p0.toUInt32 >>> ((1 : Int32).toUInt32 &&& Int32.toUInt32 31)).toInt32) &&& (1431655765 : Int32))))]) hx hb dJ6_bitCount_0f7a4_9 rfl hl (by decide) rfl (fun ls hl => ?_)
  refine lv_iload_n hx hb dJ6_bitCount_0f7a4_10 rfl (lv_at hl 0 rfl) ?_
  refine lv_ldcw (v := (858993459 : Int32)) hx hb C0.1.2.2.2.1 (C0.1.2.2.2.2 _ q_267) dJ6_bitCount_0f7a4_11 ?_
  refine lv_iand hx hb dJ6_bitCount_0f7a4_14 ?_
  refine lv_iload_n hx hb dJ6_bitCount_0f7a4_15 rfl (lv_at hl 0 rfl) ?_
  refine lv_iconst (v := (2 : Int32)) hx hb dJ6_bitCount_0f7a4_16 (by decide) ?_
  refine lv_iushr (v := (((p0 - (((p0.toUInt32 >>> ((1 : Int32).toUInt32 &&& Int32.toUInt32 31)).toInt32) &&& (1431655765 : Int32))).toUInt32 >>> ((2 : Int32).toUInt32 &&& Int32.toUInt32 31)).toInt32)) hx hb dJ6_bitCount_0f7a4_17 rfl ?_
  refine lv_ldcw (v := (858993459 : Int32)) hx hb C0.1.2.2.2.1 (C0.1.2.2.2.2 _ q_267) dJ6_bitCount_0f7a4_18 ?_
  refine lv_iand hx hb dJ6_bitCount_0f7a4_21 ?_
  refine lv_iadd hx hb dJ6_bitCount_0f7a4_22 ?_
  refine lv_istore_n (lv' := [(0, .int (((p0 - (((p0.toUInt32 >>> ((1 : Int32).toUInt32 &&& Int32.toUInt32 31)).toInt32) &&& (1431655765 : Int32))) &&& (858993459 : Int32)) + ((((p0 - (((p0.toUInt32 >>> ((1 : Int32).toUInt32 &&& Int32.toUInt32 31)).toInt32) &&& (1431655765 : Int32))).toUInt32 >>> ((2 : Int32).toUInt32 &&& Int32.toUInt32 31)).toInt32) &&& (858993459 : Int32))))]) hx hb dJ6_bitCount_0f7a4_23 rfl hl (by decide) rfl (fun ls hl => ?_)
  refine lv_iload_n hx hb dJ6_bitCount_0f7a4_24 rfl (lv_at hl 0 rfl) ?_
  refine lv_iload_n hx hb dJ6_bitCount_0f7a4_25 rfl (lv_at hl 0 rfl) ?_
  refine lv_iconst (v := (4 : Int32)) hx hb dJ6_bitCount_0f7a4_26 (by decide) ?_
  refine lv_iushr (v := (((((p0 - (((p0.toUInt32 >>> ((1 : Int32).toUInt32 &&& Int32.toUInt32 31)).toInt32) &&& (1431655765 : Int32))) &&& (858993459 : Int32)) + ((((p0 - (((p0.toUInt32 >>> ((1 : Int32).toUInt32 &&& Int32.toUInt32 31)).toInt32) &&& (1431655765 : Int32))).toUInt32 >>> ((2 : Int32).toUInt32 &&& Int32.toUInt32 31)).toInt32) &&& (858993459 : Int32))).toUInt32 >>> ((4 : Int32).toUInt32 &&& Int32.toUInt32 31)).toInt32)) hx hb dJ6_bitCount_0f7a4_27 rfl ?_
  refine lv_iadd hx hb dJ6_bitCount_0f7a4_28 ?_
  refine lv_ldcw (v := (252645135 : Int32)) hx hb C0.1.2.2.2.1 (C0.1.2.2.2.2 _ q_268) dJ6_bitCount_0f7a4_29 ?_
  refine lv_iand hx hb dJ6_bitCount_0f7a4_32 ?_
  refine lv_istore_n (lv' := [(0, .int (((((p0 - (((p0.toUInt32 >>> ((1 : Int32).toUInt32 &&& Int32.toUInt32 31)).toInt32) &&& (1431655765 : Int32))) &&& (858993459 : Int32)) + ((((p0 - (((p0.toUInt32 >>> ((1 : Int32).toUInt32 &&& Int32.toUInt32 31)).toInt32) &&& (1431655765 : Int32))).toUInt32 >>> ((2 : Int32).toUInt32 &&& Int32.toUInt32 31)).toInt32) &&& (858993459 : Int32))) + (((((p0 - (((p0.toUInt32 >>> ((1 : Int32).toUInt32 &&& Int32.toUInt32 31)).toInt32) &&& (1431655765 : Int32))) &&& (858993459 : Int32)) + ((((p0 - (((p0.toUInt32 >>> ((1 : Int32).toUInt32 &&& Int32.toUInt32 31)).toInt32) &&& (1431655765 : Int32))).toUInt32 >>> ((2 : Int32).toUInt32 &&& Int32.toUInt32 31)).toInt32) &&& (858993459 : Int32))).toUInt32 >>> ((4 : Int32).toUInt32 &&& Int32.toUInt32 31)).toInt32)) &&& (252645135 : Int32)))]) hx hb dJ6_bitCount_0f7a4_33 rfl hl (by decide) rfl (fun ls hl => ?_)
  refine lv_iload_n hx hb dJ6_bitCount_0f7a4_34 rfl (lv_at hl 0 rfl) ?_
  refine lv_iload_n hx hb dJ6_bitCount_0f7a4_35 rfl (lv_at hl 0 rfl) ?_
  refine lv_bipush (v := (8 : Int32)) hx hb dJ6_bitCount_0f7a4_36 (by decide) ?_
  refine lv_iushr (v := (((((((p0 - (((p0.toUInt32 >>> ((1 : Int32).toUInt32 &&& Int32.toUInt32 31)).toInt32) &&& (1431655765 : Int32))) &&& (858993459 : Int32)) + ((((p0 - (((p0.toUInt32 >>> ((1 : Int32).toUInt32 &&& Int32.toUInt32 31)).toInt32) &&& (1431655765 : Int32))).toUInt32 >>> ((2 : Int32).toUInt32 &&& Int32.toUInt32 31)).toInt32) &&& (858993459 : Int32))) + (((((p0 - (((p0.toUInt32 >>> ((1 : Int32).toUInt32 &&& Int32.toUInt32 31)).toInt32) &&& (1431655765 : Int32))) &&& (858993459 : Int32)) + ((((p0 - (((p0.toUInt32 >>> ((1 : Int32).toUInt32 &&& Int32.toUInt32 31)).toInt32) &&& (1431655765 : Int32))).toUInt32 >>> ((2 : Int32).toUInt32 &&& Int32.toUInt32 31)).toInt32) &&& (858993459 : Int32))).toUInt32 >>> ((4 : Int32).toUInt32 &&& Int32.toUInt32 31)).toInt32)) &&& (252645135 : Int32)).toUInt32 >>> ((8 : Int32).toUInt32 &&& Int32.toUInt32 31)).toInt32)) hx hb dJ6_bitCount_0f7a4_38 rfl ?_
  refine lv_iadd hx hb dJ6_bitCount_0f7a4_39 ?_
  refine lv_istore_n (lv' := [(0, .int ((((((p0 - (((p0.toUInt32 >>> ((1 : Int32).toUInt32 &&& Int32.toUInt32 31)).toInt32) &&& (1431655765 : Int32))) &&& (858993459 : Int32)) + ((((p0 - (((p0.toUInt32 >>> ((1 : Int32).toUInt32 &&& Int32.toUInt32 31)).toInt32) &&& (1431655765 : Int32))).toUInt32 >>> ((2 : Int32).toUInt32 &&& Int32.toUInt32 31)).toInt32) &&& (858993459 : Int32))) + (((((p0 - (((p0.toUInt32 >>> ((1 : Int32).toUInt32 &&& Int32.toUInt32 31)).toInt32) &&& (1431655765 : Int32))) &&& (858993459 : Int32)) + ((((p0 - (((p0.toUInt32 >>> ((1 : Int32).toUInt32 &&& Int32.toUInt32 31)).toInt32) &&& (1431655765 : Int32))).toUInt32 >>> ((2 : Int32).toUInt32 &&& Int32.toUInt32 31)).toInt32) &&& (858993459 : Int32))).toUInt32 >>> ((4 : Int32).toUInt32 &&& Int32.toUInt32 31)).toInt32)) &&& (252645135 : Int32)) + (((((((p0 - (((p0.toUInt32 >>> ((1 : Int32).toUInt32 &&& Int32.toUInt32 31)).toInt32) &&& (1431655765 : Int32))) &&& (858993459 : Int32)) + ((((p0 - (((p0.toUInt32 >>> ((1 : Int32).toUInt32 &&& Int32.toUInt32 31)).toInt32) &&& (1431655765 : Int32))).toUInt32 >>> ((2 : Int32).toUInt32 &&& Int32.toUInt32 31)).toInt32) &&& (858993459 : Int32))) + (((((p0 - (((p0.toUInt32 >>> ((1 : Int32).toUInt32 &&& Int32.toUInt32 31)).toInt32) &&& (1431655765 : Int32))) &&& (858993459 : Int32)) + ((((p0 - (((p0.toUInt32 >>> ((1 : Int32).toUInt32 &&& Int32.toUInt32 31)).toInt32) &&& (1431655765 : Int32))).toUInt32 >>> ((2 : Int32).toUInt32 &&& Int32.toUInt32 31)).toInt32) &&& (858993459 : Int32))).toUInt32 >>> ((4 : Int32).toUInt32 &&& Int32.toUInt32 31)).toInt32)) &&& (252645135 : Int32)).toUInt32 >>> ((8 : Int32).toUInt32 &&& Int32.toUInt32 31)).toInt32)))]) hx hb dJ6_bitCount_0f7a4_40 rfl hl (by decide) rfl (fun ls hl => ?_)
  refine lv_iload_n hx hb dJ6_bitCount_0f7a4_41 rfl (lv_at hl 0 rfl) ?_
  refine lv_iload_n hx hb dJ6_bitCount_0f7a4_42 rfl (lv_at hl 0 rfl) ?_
  refine lv_bipush (v := (16 : Int32)) hx hb dJ6_bitCount_0f7a4_43 (by decide) ?_
  refine lv_iushr (v := ((((((((p0 - (((p0.toUInt32 >>> ((1 : Int32).toUInt32 &&& Int32.toUInt32 31)).toInt32) &&& (1431655765 : Int32))) &&& (858993459 : Int32)) + ((((p0 - (((p0.toUInt32 >>> ((1 : Int32).toUInt32 &&& Int32.toUInt32 31)).toInt32) &&& (1431655765 : Int32))).toUInt32 >>> ((2 : Int32).toUInt32 &&& Int32.toUInt32 31)).toInt32) &&& (858993459 : Int32))) + (((((p0 - (((p0.toUInt32 >>> ((1 : Int32).toUInt32 &&& Int32.toUInt32 31)).toInt32) &&& (1431655765 : Int32))) &&& (858993459 : Int32)) + ((((p0 - (((p0.toUInt32 >>> ((1 : Int32).toUInt32 &&& Int32.toUInt32 31)).toInt32) &&& (1431655765 : Int32))).toUInt32 >>> ((2 : Int32).toUInt32 &&& Int32.toUInt32 31)).toInt32) &&& (858993459 : Int32))).toUInt32 >>> ((4 : Int32).toUInt32 &&& Int32.toUInt32 31)).toInt32)) &&& (252645135 : Int32)) + (((((((p0 - (((p0.toUInt32 >>> ((1 : Int32).toUInt32 &&& Int32.toUInt32 31)).toInt32) &&& (1431655765 : Int32))) &&& (858993459 : Int32)) + ((((p0 - (((p0.toUInt32 >>> ((1 : Int32).toUInt32 &&& Int32.toUInt32 31)).toInt32) &&& (1431655765 : Int32))).toUInt32 >>> ((2 : Int32).toUInt32 &&& Int32.toUInt32 31)).toInt32) &&& (858993459 : Int32))) + (((((p0 - (((p0.toUInt32 >>> ((1 : Int32).toUInt32 &&& Int32.toUInt32 31)).toInt32) &&& (1431655765 : Int32))) &&& (858993459 : Int32)) + ((((p0 - (((p0.toUInt32 >>> ((1 : Int32).toUInt32 &&& Int32.toUInt32 31)).toInt32) &&& (1431655765 : Int32))).toUInt32 >>> ((2 : Int32).toUInt32 &&& Int32.toUInt32 31)).toInt32) &&& (858993459 : Int32))).toUInt32 >>> ((4 : Int32).toUInt32 &&& Int32.toUInt32 31)).toInt32)) &&& (252645135 : Int32)).toUInt32 >>> ((8 : Int32).toUInt32 &&& Int32.toUInt32 31)).toInt32)).toUInt32 >>> ((16 : Int32).toUInt32 &&& Int32.toUInt32 31)).toInt32)) hx hb dJ6_bitCount_0f7a4_45 rfl ?_
  refine lv_iadd hx hb dJ6_bitCount_0f7a4_46 ?_
  refine lv_istore_n (lv' := [(0, .int (((((((p0 - (((p0.toUInt32 >>> ((1 : Int32).toUInt32 &&& Int32.toUInt32 31)).toInt32) &&& (1431655765 : Int32))) &&& (858993459 : Int32)) + ((((p0 - (((p0.toUInt32 >>> ((1 : Int32).toUInt32 &&& Int32.toUInt32 31)).toInt32) &&& (1431655765 : Int32))).toUInt32 >>> ((2 : Int32).toUInt32 &&& Int32.toUInt32 31)).toInt32) &&& (858993459 : Int32))) + (((((p0 - (((p0.toUInt32 >>> ((1 : Int32).toUInt32 &&& Int32.toUInt32 31)).toInt32) &&& (1431655765 : Int32))) &&& (858993459 : Int32)) + ((((p0 - (((p0.toUInt32 >>> ((1 : Int32).toUInt32 &&& Int32.toUInt32 31)).toInt32) &&& (1431655765 : Int32))).toUInt32 >>> ((2 : Int32).toUInt32 &&& Int32.toUInt32 31)).toInt32) &&& (858993459 : Int32))).toUInt32 >>> ((4 : Int32).toUInt32 &&& Int32.toUInt32 31)).toInt32)) &&& (252645135 : Int32)) + (((((((p0 - (((p0.toUInt32 >>> ((1 : Int32).toUInt32 &&& Int32.toUInt32 31)).toInt32) &&& (1431655765 : Int32))) &&& (858993459 : Int32)) + ((((p0 - (((p0.toUInt32 >>> ((1 : Int32).toUInt32 &&& Int32.toUInt32 31)).toInt32) &&& (1431655765 : Int32))).toUInt32 >>> ((2 : Int32).toUInt32 &&& Int32.toUInt32 31)).toInt32) &&& (858993459 : Int32))) + (((((p0 - (((p0.toUInt32 >>> ((1 : Int32).toUInt32 &&& Int32.toUInt32 31)).toInt32) &&& (1431655765 : Int32))) &&& (858993459 : Int32)) + ((((p0 - (((p0.toUInt32 >>> ((1 : Int32).toUInt32 &&& Int32.toUInt32 31)).toInt32) &&& (1431655765 : Int32))).toUInt32 >>> ((2 : Int32).toUInt32 &&& Int32.toUInt32 31)).toInt32) &&& (858993459 : Int32))).toUInt32 >>> ((4 : Int32).toUInt32 &&& Int32.toUInt32 31)).toInt32)) &&& (252645135 : Int32)).toUInt32 >>> ((8 : Int32).toUInt32 &&& Int32.toUInt32 31)).toInt32)) + ((((((((p0 - (((p0.toUInt32 >>> ((1 : Int32).toUInt32 &&& Int32.toUInt32 31)).toInt32) &&& (1431655765 : Int32))) &&& (858993459 : Int32)) + ((((p0 - (((p0.toUInt32 >>> ((1 : Int32).toUInt32 &&& Int32.toUInt32 31)).toInt32) &&& (1431655765 : Int32))).toUInt32 >>> ((2 : Int32).toUInt32 &&& Int32.toUInt32 31)).toInt32) &&& (858993459 : Int32))) + (((((p0 - (((p0.toUInt32 >>> ((1 : Int32).toUInt32 &&& Int32.toUInt32 31)).toInt32) &&& (1431655765 : Int32))) &&& (858993459 : Int32)) + ((((p0 - (((p0.toUInt32 >>> ((1 : Int32).toUInt32 &&& Int32.toUInt32 31)).toInt32) &&& (1431655765 : Int32))).toUInt32 >>> ((2 : Int32).toUInt32 &&& Int32.toUInt32 31)).toInt32) &&& (858993459 : Int32))).toUInt32 >>> ((4 : Int32).toUInt32 &&& Int32.toUInt32 31)).toInt32)) &&& (252645135 : Int32)) + (((((((p0 - (((p0.toUInt32 >>> ((1 : Int32).toUInt32 &&& Int32.toUInt32 31)).toInt32) &&& (1431655765 : Int32))) &&& (858993459 : Int32)) + ((((p0 - (((p0.toUInt32 >>> ((1 : Int32).toUInt32 &&& Int32.toUInt32 31)).toInt32) &&& (1431655765 : Int32))).toUInt32 >>> ((2 : Int32).toUInt32 &&& Int32.toUInt32 31)).toInt32) &&& (858993459 : Int32))) + (((((p0 - (((p0.toUInt32 >>> ((1 : Int32).toUInt32 &&& Int32.toUInt32 31)).toInt32) &&& (1431655765 : Int32))) &&& (858993459 : Int32)) + ((((p0 - (((p0.toUInt32 >>> ((1 : Int32).toUInt32 &&& Int32.toUInt32 31)).toInt32) &&& (1431655765 : Int32))).toUInt32 >>> ((2 : Int32).toUInt32 &&& Int32.toUInt32 31)).toInt32) &&& (858993459 : Int32))).toUInt32 >>> ((4 : Int32).toUInt32 &&& Int32.toUInt32 31)).toInt32)) &&& (252645135 : Int32)).toUInt32 >>> ((8 : Int32).toUInt32 &&& Int32.toUInt32 31)).toInt32)).toUInt32 >>> ((16 : Int32).toUInt32 &&& Int32.toUInt32 31)).toInt32)))]) hx hb dJ6_bitCount_0f7a4_47 rfl hl (by decide) rfl (fun ls hl => ?_)
  refine lv_iload_n hx hb dJ6_bitCount_0f7a4_48 rfl (lv_at hl 0 rfl) ?_
  refine lv_bipush (v := (63 : Int32)) hx hb dJ6_bitCount_0f7a4_49 (by decide) ?_
  refine lv_iand hx hb dJ6_bitCount_0f7a4_51 ?_
  obtain rfl := Option.some.inj hf
  exact kret_i C0 hr hlk hP hS dJ6_bitCount_0f7a4_52
set_option maxHeartbeats 4000000 in
set_option maxRecDepth 100000 in
theorem cX5_readsNet_c {l : Launch} {D : va_G} {cI cS : ClassId} {a : Nat → Nat} (hap : kAp a 29) {h : Nat} (hh : h < 2) {v : kV} {ar : kR} {r : Bool} {v2 : kV} {ar2 : kR} (hf : fX5_readsNet h v ar = some (r, v2, ar2)) : kMet l D cI cS (xW cI cS a) (kA a 29) yX5_readsNet cX5_readsNet 5 (some .boolean) 1 23 [.ref (a 4), .ref (a (2+h))] v ar (some (.int (bI r))) v2 ar2 := by
  refine kstart (by decide) (Nat.le_of_ble_eq_true rfl) ?_
  intro p e s m args below meth c ls C0 hr hlk hl hP hS
  have C0 : kC p s m c args cX5_readsNet 5 RX5 D cI cS := C0
  have hx := C0.1.1
  have hb := C0.1.2.1
  have hl : lv_has ls 5 [(0, .ref (a 4)), (1, .ref (a (2+h)))] := hl
  have hB68 : ∀ (x2 : Int32) (v : kV) (ar : kR) (H : Heap) (locs : List Loc) (ls : Array Slot), fX5_readsNet_68 h x2 v ar = some (r, v2, ar2) → va_P D vwCl (xW cI cS a v ar) H → va_S (kA a 29) s.heap H locs → lv_has ls 5 [(1, .ref (a (2+h))), (2, .int x2)] → kGo p l e 1 23 s m args below meth c D (xW cI cS a) (kA a 29) (some (.int (bI r))) v2 ar2 H locs (F0 m 68 ls []) := by
    intro  x2 v ar H locs ls hf hP hS hl
    unfold fX5_readsNet_68 at hf
    refine lv_iload_n hx hb dX5_readsNet_68 rfl (lv_at hl 1 rfl) ?_
    obtain ⟨r3, e2, hf⟩ := kb1_s hf
    refine kcallT (As := [.int x2]) (rest := []) C0 (cJ6_bitCount_0f7a4_c hap e2) q_263 kw_J6_bitCount_0f7a4 hP hS ⟨Nat.le_of_ble_eq_true rfl, Nat.le_of_ble_eq_true rfl⟩ rfl hl.1 rfl (Nat.le_of_ble_eq_true rfl) dX5_readsNet_69 (fun H locs hP hS => ?_)
    refine lv_iconst (v := (2 : Int32)) hx hb dX5_readsNet_72 (by decide) ?_
    refine lv_icmp_ge (tgt := 78) hx hb dX5_readsNet_73 (by decide) (fun c4 => ?_) (fun c4 => ?_)
    · have hf := kif_t c4 hf
      refine lv_aload_n hx hb dX5_readsNet_78 rfl (lv_at hl 0 rfl) ?_
      refine xg_H_8 C0 hh hP q_54 dX5_readsNet_79 ?_
      refine lv_aload_n hx hb dX5_readsNet_82 rfl (lv_at hl 0 rfl) ?_
      refine xg_H_1 C0 hh hP q_35 dX5_readsNet_83 ?_
      refine lv_iload_n hx hb dX5_readsNet_86 rfl (lv_at hl 1 rfl) ?_
      obtain ⟨g5, hf⟩ := kgd hf
      refine xt_net C0 hap hh hP hS g5 dX5_readsNet_87 (fun H locs hP hS => ?_)
      refine lv_aload_n hx hb dX5_readsNet_88 rfl (lv_at hl 0 rfl) ?_
      refine lv_dup hx hb dX5_readsNet_89 rfl ?_
      refine xg_H_1 C0 hh hP q_35 dX5_readsNet_90 ?_
      refine lv_iconst (v := (1 : Int32)) hx hb dX5_readsNet_93 (by decide) ?_
      refine lv_iadd hx hb dX5_readsNet_94 ?_
      refine xp_H_1 C0 hap hh hP hS q_35 dX5_readsNet_95 (fun H locs hP hS => ?_)
      refine lv_iconst (v := (1 : Int32)) hx hb dX5_readsNet_98 (by decide) ?_
      obtain ⟨rfl, rfl, rfl⟩ := kinj3 hf
      exact kret_z true rfl C0 hr hlk hP hS dX5_readsNet_99
    · have hf := kif_f c4 hf
      refine lv_iconst (v := (0 : Int32)) hx hb dX5_readsNet_76 (by decide) ?_
      obtain ⟨rfl, rfl, rfl⟩ := kinj3 hf
      exact kret_z false rfl C0 hr hlk hP hS dX5_readsNet_77
  have hB4 : ∀ (n : Nat), ∀ (x2 : Int32) (x3 : Int32) (v : kV) (ar : kR) (H : Heap) (locs : List Loc) (ls : Array Slot), fX5_readsNet_4 h n x2 x3 v ar = some (r, v2, ar2) → va_P D vwCl (xW cI cS a v ar) H → va_S (kA a 29) s.heap H locs → lv_has ls 5 [(0, .ref (a 4)), (1, .ref (a (2+h))), (2, .int x2), (3, .int x3)] → kGo p l e 1 23 s m args below meth c D (xW cI cS a) (kA a 29) (some (.int (bI r))) v2 ar2 H locs (F0 m 4 ls []) := by
    intro  n
    induction n with
    | zero =>
      intro x2 x3 v ar H locs ls hf
      have hf : (none : Option (Bool × kV × kR)) = some (r, v2, ar2) := hf
      cases hf
    | succ n ih =>
      intro x2 x3 v ar H locs ls hf hP hS hl
      have hf : fX5_readsNet_4b h (fX5_readsNet_4 h n) x2 x3 v ar = some (r, v2, ar2) := hf
      unfold fX5_readsNet_4b at hf
      refine lv_iload_n hx hb dX5_readsNet_4 rfl (lv_at hl 3 rfl) ?_
      refine lv_iconst (v := (4 : Int32)) hx hb dX5_readsNet_5 (by decide) ?_
      refine lv_icmp_ge (tgt := 68) hx hb dX5_readsNet_6 (by decide) (fun c1 => ?_) (fun c1 => ?_)
      · have hf := kif_t c1 hf
        exact hB68 _ _ _ _ _ _ hf hP hS (lv_sub hl [1, 2] rfl)
      · have hf := kif_f c1 hf
        refine lv_aload_n hx hb dX5_readsNet_9 rfl (lv_at hl 0 rfl) ?_
        refine lv_iconst (v := (0 : Int32)) hx hb dX5_readsNet_10 (by decide) ?_
        refine lv_aload_n hx hb dX5_readsNet_11 rfl (lv_at hl 1 rfl) ?_
        refine xg_H_0 C0 hh hP q_32 dX5_readsNet_12 ?_
        refine lv_iconst (v := (1 : Int32)) hx hb dX5_readsNet_15 (by decide) ?_
        refine lv_isub hx hb dX5_readsNet_16 ?_
        obtain ⟨r7, v8, ar9, e6, hf⟩ := kb3_s hf
        refine kcallV (As := [.int (0 : Int32), .int ((v (2+5*h+0)) - (1 : Int32))]) (rest := []) C0 (cX5_digit_c hap e6) q_247 kw_X5_digit (xv_T C0.2 hP) hP hS ⟨Nat.le_of_ble_eq_true rfl, Nat.le_of_ble_eq_true rfl⟩ rfl hl.1 rfl (Nat.le_of_ble_eq_true rfl) dX5_readsNet_17 (fun H locs hP hS => ?_)
        refine lv_istore (lv' := [(4, .int r7), (0, .ref (a 4)), (1, .ref (a (2+h))), (2, .int x2), (3, .int x3)]) hx hb dX5_readsNet_20 hl (by decide) rfl (fun ls hl => ?_)
        refine lv_iload hx hb dX5_readsNet_22 (lv_at hl 0 rfl) ?_
        refine lv_bipush (v := (-9 : Int32)) hx hb dX5_readsNet_24 (by decide) ?_
        refine lv_icmp_ne (tgt := 32) hx hb dX5_readsNet_26 (by decide) (fun c10 => ?_) (fun c10 => ?_)
        · have hf := kif_f c10 hf
          refine lv_iload_n hx hb dX5_readsNet_32 rfl (lv_at hl 3 rfl) ?_
          refine lv_iload hx hb dX5_readsNet_33 (lv_at hl 0 rfl) ?_
          refine lv_ishr hx hb dX5_readsNet_35 ?_
          refine lv_iconst (v := (1 : Int32)) hx hb dX5_readsNet_36 (by decide) ?_
          refine lv_iand hx hb dX5_readsNet_37 ?_
          refine lv_iconst (v := (1 : Int32)) hx hb dX5_readsNet_38 (by decide) ?_
          refine lv_icmp_ne (tgt := 55) hx hb dX5_readsNet_39 (by decide) (fun c11 => ?_) (fun c11 => ?_)
          · have hf := kif_f c11 hf
            refine lv_iload_n hx hb dX5_readsNet_55 rfl (lv_at hl 3 rfl) ?_
            refine lv_iconst (v := (1 : Int32)) hx hb dX5_readsNet_56 (by decide) ?_
            refine lv_iload hx hb dX5_readsNet_57 (lv_at hl 0 rfl) ?_
            refine lv_ishl hx hb dX5_readsNet_59 ?_
            refine lv_ior hx hb dX5_readsNet_60 ?_
            refine lv_istore_n (lv' := [(2, .int (x2 ||| ((1 : Int32) <<< (r7 &&& 31)))), (4, .int r7), (0, .ref (a 4)), (1, .ref (a (2+h))), (3, .int x3)]) hx hb dX5_readsNet_61 rfl hl (by decide) rfl (fun ls hl => ?_)
            refine lv_iinc (v := (x3 + (1 : Int32))) (lv' := [(3, .int (x3 + (1 : Int32))), (2, .int (x2 ||| ((1 : Int32) <<< (r7 &&& 31)))), (4, .int r7), (0, .ref (a 4)), (1, .ref (a (2+h)))]) hx hb dX5_readsNet_62 hl (k := 4) rfl rfl (by decide) rfl (fun ls hl => ?_)
            refine lv_goto (tgt := 4) hx hb dX5_readsNet_65 (by decide) ?_
            exact ih _ _ _ _ _ _ _ hf hP hS (lv_sub hl [3, 4, 1, 0] rfl)
          · have hf := kif_t c11 hf
            refine lv_aload_n hx hb dX5_readsNet_42 rfl (lv_at hl 1 rfl) ?_
            refine lv_dup hx hb dX5_readsNet_43 rfl ?_
            refine xg_T_2 C0 hP q_83 dX5_readsNet_44 ?_
            refine lv_iconst (v := (1 : Int32)) hx hb dX5_readsNet_47 (by decide) ?_
            refine lv_isub hx hb dX5_readsNet_48 ?_
            refine xp_T_2 C0 hap hP hS q_83 dX5_readsNet_49 (fun H locs hP hS => ?_)
            refine lv_goto (tgt := 68) hx hb dX5_readsNet_52 (by decide) ?_
            exact hB68 _ _ _ _ _ _ hf hP hS (lv_sub hl [2, 3] rfl)
        · have hf := kif_t c10 hf
          refine lv_goto (tgt := 68) hx hb dX5_readsNet_29 (by decide) ?_
          exact hB68 _ _ _ _ _ _ hf hP hS (lv_sub hl [2, 3] rfl)
  unfold fX5_readsNet at hf
  refine lv_iconst (v := (0 : Int32)) hx hb dX5_readsNet_0 (by decide) ?_
  refine lv_istore_n (lv' := [(2, .int (0 : Int32)), (0, .ref (a 4)), (1, .ref (a (2+h)))]) hx hb dX5_readsNet_1 rfl hl (by decide) rfl (fun ls hl => ?_)
  refine lv_iconst (v := (0 : Int32)) hx hb dX5_readsNet_2 (by decide) ?_
  refine lv_istore_n (lv' := [(3, .int (0 : Int32)), (2, .int (0 : Int32)), (0, .ref (a 4)), (1, .ref (a (2+h)))]) hx hb dX5_readsNet_3 rfl hl (by decide) rfl (fun ls hl => ?_)
  exact hB4 _ _ _ _ _ _ _ _ hf hP hS (lv_sub hl [2, 3, 1, 0] rfl)
