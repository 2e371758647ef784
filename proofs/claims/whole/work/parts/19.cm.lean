set_option maxHeartbeats 4000000 in
set_option maxRecDepth 100000 in
theorem cX7_within_c {l : Launch} {D : va_G} {cI cS : ClassId} {a : Nat → Nat} (hap : kAp a 15) {v : kV} {ar : kR} {p0 : Int32} {p1 : Int32} {p2 : Int32} {r : Bool} (hf : fX7_within p0 p1 p2 = some r) : kMet l D cI cS (mW cI a) (kA a 15) yX7_within cX7_within 3 (some .boolean) 0 0 [.int p0, .int p1, .int p2] v ar (some (.int (bI r))) v ar := by
  refine kstart (by decide) (Nat.le_of_ble_eq_true rfl) ?_
  intro p e s m args below meth c ls C0 hr hlk hl hP hS
  have C0 : kC p s m c args cX7_within 3 RX7 D cI cS := C0
  have hx := C0.1.1
  have hb := C0.1.2.1
  have hl : lv_has ls 3 [(0, .int p0), (1, .int p1), (2, .int p2)] := hl
  unfold fX7_within at hf
  refine lv_iload_n hx hb dX7_within_0 rfl (lv_at hl 0 rfl) ?_
  refine lv_iload_n hx hb dX7_within_1 rfl (lv_at hl 1 rfl) ?_
  refine lv_icmp_lt (tgt := 14) hx hb dX7_within_2 (by decide) (fun c1 => ?_) (fun c1 => ?_)
  · have hf := kif_t c1 hf
    refine lv_iconst (v := (0 : Int32)) hx hb dX7_within_14 (by decide) ?_
    obtain rfl := Option.some.inj hf
    exact kret_z false rfl C0 hr hlk hP hS dX7_within_15
  · have hf := kif_f c1 hf
    refine lv_iload_n hx hb dX7_within_5 rfl (lv_at hl 0 rfl) ?_
    refine lv_iload_n hx hb dX7_within_6 rfl (lv_at hl 2 rfl) ?_
    refine lv_icmp_gt (tgt := 14) hx hb dX7_within_7 (by decide) (fun c2 => ?_) (fun c2 => ?_)
    · have hf := kif_t c2 hf
      refine lv_iconst (v := (0 : Int32)) hx hb dX7_within_14 (by decide) ?_
      obtain rfl := Option.some.inj hf
      exact kret_z false rfl C0 hr hlk hP hS dX7_within_15
    · have hf := kif_f c2 hf
      refine lv_iconst (v := (1 : Int32)) hx hb dX7_within_10 (by decide) ?_
      refine lv_goto (tgt := 15) hx hb dX7_within_11 (by decide) ?_
      obtain rfl := Option.some.inj hf
      exact kret_z true rfl C0 hr hlk hP hS dX7_within_15
set_option maxHeartbeats 4000000 in
set_option maxRecDepth 100000 in
theorem cX7_isSheet_c {l : Launch} {D : va_G} {cI cS : ClassId} {a : Nat → Nat} (hap : kAp a 15) {v : kV} {ar : kR} {p0 : Int32} {r : Bool} (hf : fX7_isSheet p0 = some r) : kMet l D cI cS (mW cI a) (kA a 15) yX7_isSheet cX7_isSheet 1 (some .boolean) 1 22 [.int p0] v ar (some (.int (bI r))) v ar := by
  refine kstart (by decide) (Nat.le_of_ble_eq_true rfl) ?_
  intro p e s m args below meth c ls C0 hr hlk hl hP hS
  have C0 : kC p s m c args cX7_isSheet 1 RX7 D cI cS := C0
  have hx := C0.1.1
  have hb := C0.1.2.1
  have hl : lv_has ls 1 [(0, .int p0)] := hl
  unfold fX7_isSheet at hf
  refine lv_iload_n hx hb dX7_isSheet_0 rfl (lv_at hl 0 rfl) ?_
  refine lv_iconst (v := (0 : Int32)) hx hb dX7_isSheet_1 (by decide) ?_
  refine lv_iconst (v := (3 : Int32)) hx hb dX7_isSheet_2 (by decide) ?_
  obtain ⟨r2, e1, hf⟩ := kb1_s hf
  refine kcallT (As := [.int p0, .int (0 : Int32), .int (3 : Int32)]) (rest := []) C0 (cX7_within_c hap e1) q_701 kw_X7_within hP hS ⟨Nat.le_of_ble_eq_true rfl, Nat.le_of_ble_eq_true rfl⟩ rfl hl.1 rfl (Nat.le_of_ble_eq_true rfl) dX7_isSheet_3 (fun H locs hP hS => ?_)
  obtain rfl := Option.some.inj hf
  exact kret_z r2 rfl C0 hr hlk hP hS dX7_isSheet_6
set_option maxHeartbeats 4000000 in
set_option maxRecDepth 100000 in
theorem cX7_isSort_c {l : Launch} {D : va_G} {cI cS : ClassId} {a : Nat → Nat} (hap : kAp a 15) {v : kV} {ar : kR} {p0 : Int32} {r : Bool} (hf : fX7_isSort p0 = some r) : kMet l D cI cS (mW cI a) (kA a 15) yX7_isSort cX7_isSort 1 (some .boolean) 1 22 [.int p0] v ar (some (.int (bI r))) v ar := by
  refine kstart (by decide) (Nat.le_of_ble_eq_true rfl) ?_
  intro p e s m args below meth c ls C0 hr hlk hl hP hS
  have C0 : kC p s m c args cX7_isSort 1 RX7 D cI cS := C0
  have hx := C0.1.1
  have hb := C0.1.2.1
  have hl : lv_has ls 1 [(0, .int p0)] := hl
  unfold fX7_isSort at hf
  refine lv_iload_n hx hb dX7_isSort_0 rfl (lv_at hl 0 rfl) ?_
  refine lv_iconst (v := (0 : Int32)) hx hb dX7_isSort_1 (by decide) ?_
  refine lv_iconst (v := (2 : Int32)) hx hb dX7_isSort_2 (by decide) ?_
  obtain ⟨r2, e1, hf⟩ := kb1_s hf
  refine kcallT (As := [.int p0, .int (0 : Int32), .int (2 : Int32)]) (rest := []) C0 (cX7_within_c hap e1) q_701 kw_X7_within hP hS ⟨Nat.le_of_ble_eq_true rfl, Nat.le_of_ble_eq_true rfl⟩ rfl hl.1 rfl (Nat.le_of_ble_eq_true rfl) dX7_isSort_3 (fun H locs hP hS => ?_)
  obtain rfl := Option.some.inj hf
  exact kret_z r2 rfl C0 hr hlk hP hS dX7_isSort_6
set_option maxHeartbeats 4000000 in
set_option maxRecDepth 100000 in
theorem cX7_against_c {l : Launch} {D : va_G} {cI cS : ClassId} {a : Nat → Nat} (hap : kAp a 15) {v : kV} {ar : kR} {p1 : Int32} {p2 : Int32} {p3 : Int32} {p4 : Int32} {r : Int32} (hf : fX7_against v ar p1 p2 p3 p4 = some r) : kMet l D cI cS (mW cI a) (kA a 15) yX7_against cX7_against 5 (some .int) 0 0 [.ref (a 0), .int p1, .int p2, .int p3, .int p4] v ar (some (.int r)) v ar := by
  refine kstart (by decide) (Nat.le_of_ble_eq_true rfl) ?_
  intro p e s m args below meth c ls C0 hr hlk hl hP hS
  have C0 : kC p s m c args cX7_against 5 RX7 D cI cS := C0
  have hx := C0.1.1
  have hb := C0.1.2.1
  have hl : lv_has ls 5 [(0, .ref (a 0)), (1, .int p1), (2, .int p2), (3, .int p3), (4, .int p4)] := hl
  have hB70 : ∀ (H : Heap) (locs : List Loc) (ls : Array Slot), fX7_against_70 v ar p1 p2 p3 p4 = some r → va_P D vwCl (mW cI a v ar) H → va_S (kA a 15) s.heap H locs → lv_has ls 5 [] → kGo p l e 0 0 s m args below meth c D (mW cI a) (kA a 15) (some (.int r)) v ar H locs (F0 m 70 ls []) := by
    intro   H locs ls hf hP hS hl
    unfold fX7_against_70 at hf
    refine lv_iconst (v := (3 : Int32)) hx hb dX7_against_70 (by decide) ?_
    refine lv_goto (tgt := 75) hx hb dX7_against_71 (by decide) ?_
    obtain rfl := Option.some.inj hf
    exact kret_i C0 hr hlk hP hS dX7_against_75
  have hB23 : ∀ (H : Heap) (locs : List Loc) (ls : Array Slot), fX7_against_23 v ar p1 p2 p3 p4 = some r → va_P D vwCl (mW cI a v ar) H → va_S (kA a 15) s.heap H locs → lv_has ls 5 [(0, .ref (a 0)), (1, .int p1), (3, .int p3), (4, .int p4)] → kGo p l e 0 0 s m args below meth c D (mW cI a) (kA a 15) (some (.int r)) v ar H locs (F0 m 23 ls []) := by
    intro   H locs ls hf hP hS hl
    unfold fX7_against_23 at hf
    refine lv_aload_n hx hb dX7_against_23 rfl (lv_at hl 0 rfl) ?_
    refine xg_M_2 C0 hP q_599 dX7_against_24 ?_
    refine lv_iload_n hx hb dX7_against_27 rfl (lv_at hl 1 rfl) ?_
    obtain ⟨g3, hf⟩ := kgd hf
    refine ml_sorts C0 hP g3 dX7_against_28 ?_
    refine lv_bipush (v := (-9 : Int32)) hx hb dX7_against_29 (by decide) ?_
    refine lv_icmp_ne (tgt := 36) hx hb dX7_against_31 (by decide) (fun c4 => ?_) (fun c4 => ?_)
    · have hf := kif_f c4 hf
      refine lv_iload hx hb dX7_against_36 (lv_at hl 3 rfl) ?_
      refine lv_if_ge (tgt := 43) hx hb dX7_against_38 (by decide) (fun c5 => ?_) (fun c5 => ?_)
      · have hf := kif_t c5 hf
        refine lv_iload_n hx hb dX7_against_43 rfl (lv_at hl 2 rfl) ?_
        refine lv_if_lt (tgt := 70) hx hb dX7_against_44 (by decide) (fun c6 => ?_) (fun c6 => ?_)
        · have hf := kif_t c6 hf
          exact hB70 _ _ _ hf hP hS (lv_sub hl [] rfl)
        · have hf := kif_f c6 hf
          refine lv_iload_n hx hb dX7_against_47 rfl (lv_at hl 2 rfl) ?_
          refine lv_aload_n hx hb dX7_against_48 rfl (lv_at hl 0 rfl) ?_
          refine xg_M_3 C0 hP q_600 dX7_against_49 ?_
          refine lv_iload_n hx hb dX7_against_52 rfl (lv_at hl 1 rfl) ?_
          obtain ⟨g7, hf⟩ := kgd hf
          refine ml_sheetLong C0 hP g7 dX7_against_53 ?_
          refine lv_icmp_gt (tgt := 70) hx hb dX7_against_54 (by decide) (fun c8 => ?_) (fun c8 => ?_)
          · have hf := kif_t c8 hf
            exact hB70 _ _ _ hf hP hS (lv_sub hl [] rfl)
          · have hf := kif_f c8 hf
            refine lv_iload hx hb dX7_against_57 (lv_at hl 3 rfl) ?_
            refine lv_aload_n hx hb dX7_against_59 rfl (lv_at hl 0 rfl) ?_
            refine xg_M_3 C0 hP q_600 dX7_against_60 ?_
            refine lv_iload_n hx hb dX7_against_63 rfl (lv_at hl 1 rfl) ?_
            obtain ⟨g9, hf⟩ := kgd hf
            refine ml_sheetLong C0 hP g9 dX7_against_64 ?_
            refine lv_iload_n hx hb dX7_against_65 rfl (lv_at hl 2 rfl) ?_
            refine lv_isub hx hb dX7_against_66 ?_
            refine lv_icmp_le (tgt := 74) hx hb dX7_against_67 (by decide) (fun c10 => ?_) (fun c10 => ?_)
            · have hf := kif_t c10 hf
              refine lv_iconst (v := (0 : Int32)) hx hb dX7_against_74 (by decide) ?_
              obtain rfl := Option.some.inj hf
              exact kret_i C0 hr hlk hP hS dX7_against_75
            · have hf := kif_f c10 hf
              exact hB70 _ _ _ hf hP hS (lv_sub hl [] rfl)
      · have hf := kif_f c5 hf
        refine lv_iconst (v := (4 : Int32)) hx hb dX7_against_41 (by decide) ?_
        obtain rfl := Option.some.inj hf
        exact kret_i C0 hr hlk hP hS dX7_against_42
    · have hf := kif_t c4 hf
      refine lv_iconst (v := (1 : Int32)) hx hb dX7_against_34 (by decide) ?_
      obtain rfl := Option.some.inj hf
      exact kret_i C0 hr hlk hP hS dX7_against_35
  unfold fX7_against at hf
  refine lv_aload_n hx hb dX7_against_0 rfl (lv_at hl 0 rfl) ?_
  refine xg_M_2 C0 hP q_599 dX7_against_1 ?_
  refine lv_iload_n hx hb dX7_against_4 rfl (lv_at hl 1 rfl) ?_
  obtain ⟨g1, hf⟩ := kgd hf
  refine ml_sorts C0 hP g1 dX7_against_5 ?_
  refine lv_bipush (v := (-9 : Int32)) hx hb dX7_against_6 (by decide) ?_
  refine lv_icmp_eq (tgt := 23) hx hb dX7_against_8 (by decide) (fun c2 => ?_) (fun c2 => ?_)
  · have hf := kif_t c2 hf
    exact hB23 _ _ _ hf hP hS (lv_sub hl [0, 1, 3, 4] rfl)
  · have hf := kif_f c2 hf
    refine lv_aload_n hx hb dX7_against_11 rfl (lv_at hl 0 rfl) ?_
    refine xg_M_2 C0 hP q_599 dX7_against_12 ?_
    refine lv_iload_n hx hb dX7_against_15 rfl (lv_at hl 1 rfl) ?_
    obtain ⟨g11, hf⟩ := kgd hf
    refine ml_sorts C0 hP g11 dX7_against_16 ?_
    refine lv_iload_n hx hb dX7_against_17 rfl (lv_at hl 2 rfl) ?_
    refine lv_icmp_eq (tgt := 23) hx hb dX7_against_18 (by decide) (fun c12 => ?_) (fun c12 => ?_)
    · have hf := kif_t c12 hf
      exact hB23 _ _ _ hf hP hS (lv_sub hl [0, 1, 3, 4] rfl)
    · have hf := kif_f c12 hf
      refine lv_iconst (v := (2 : Int32)) hx hb dX7_against_21 (by decide) ?_
      obtain rfl := Option.some.inj hf
      exact kret_i C0 hr hlk hP hS dX7_against_22
set_option maxHeartbeats 4000000 in
set_option maxRecDepth 100000 in
theorem cX7_fails_c {l : Launch} {D : va_G} {cI cS : ClassId} {a : Nat → Nat} (hap : kAp a 15) {v : kV} {ar : kR} {p1 : Int32} {r : Int32} {v2 : kV} {ar2 : kR} (hf : fX7_fails v ar p1 = some (r, v2, ar2)) : kMet l D cI cS (mW cI a) (kA a 15) yX7_fails cX7_fails 2 (some .int) 0 0 [.ref (a 0), .int p1] v ar (some (.int r)) v2 ar2 := by
  refine kstart (by decide) (Nat.le_of_ble_eq_true rfl) ?_
  intro p e s m args below meth c ls C0 hr hlk hl hP hS
  have C0 : kC p s m c args cX7_fails 2 RX7 D cI cS := C0
  have hx := C0.1.1
  have hb := C0.1.2.1
  have hl : lv_has ls 2 [(0, .ref (a 0)), (1, .int p1)] := hl
  unfold fX7_fails at hf
  refine lv_aload_n hx hb dX7_fails_0 rfl (lv_at hl 0 rfl) ?_
  refine lv_iload_n hx hb dX7_fails_1 rfl (lv_at hl 1 rfl) ?_
  refine xp_M_0 C0 hap hP hS q_597 dX7_fails_2 (fun H locs hP hS => ?_)
  refine lv_bipush (v := (-10 : Int32)) hx hb dX7_fails_5 (by decide) ?_
  refine lv_iload_n hx hb dX7_fails_7 rfl (lv_at hl 1 rfl) ?_
  refine lv_isub hx hb dX7_fails_8 ?_
  obtain ⟨rfl, rfl, rfl⟩ := kinj3 hf
  exact kret_i C0 hr hlk hP hS dX7_fails_9
set_option maxHeartbeats 4000000 in
set_option maxRecDepth 100000 in
theorem cX7_isSign_c {l : Launch} {D : va_G} {cI cS : ClassId} {a : Nat → Nat} (hap : kAp a 15) {v : kV} {ar : kR} {p1 : Int32} {p2 : Int32} {r : Bool} {v2 : kV} {ar2 : kR} (hf : fX7_isSign v ar p1 p2 = some (r, v2, ar2)) : kMet l D cI cS (mW cI a) (kA a 15) yX7_isSign cX7_isSign 3 (some .boolean) 0 0 [.ref (a 0), .int p1, .int p2] v ar (some (.int (bI r))) v2 ar2 := by
  refine kstart (by decide) (Nat.le_of_ble_eq_true rfl) ?_
  intro p e s m args below meth c ls C0 hr hlk hl hP hS
  have C0 : kC p s m c args cX7_isSign 3 RX7 D cI cS := C0
  have hx := C0.1.1
  have hb := C0.1.2.1
  have hl : lv_has ls 3 [(0, .ref (a 0)), (1, .int p1), (2, .int p2)] := hl
  unfold fX7_isSign at hf
  refine lv_aload_n hx hb dX7_isSign_0 rfl (lv_at hl 0 rfl) ?_
  refine xg_M_16 C0 hP q_613 dX7_isSign_1 ?_
  refine lv_iload_n hx hb dX7_isSign_4 rfl (lv_at hl 1 rfl) ?_
  refine lv_icmp_ge (tgt := 21) hx hb dX7_isSign_5 (by decide) (fun c1 => ?_) (fun c1 => ?_)
  · have hf := kif_t c1 hf
    refine lv_iconst (v := (0 : Int32)) hx hb dX7_isSign_21 (by decide) ?_
    obtain ⟨rfl, rfl, rfl⟩ := kinj3 hf
    exact kret_z false rfl C0 hr hlk hP hS dX7_isSign_22
  · have hf := kif_f c1 hf
    refine lv_aload_n hx hb dX7_isSign_8 rfl (lv_at hl 0 rfl) ?_
    refine xg_M_4 C0 hP q_601 dX7_isSign_9 ?_
    refine lv_aload_n hx hb dX7_isSign_12 rfl (lv_at hl 0 rfl) ?_
    refine xg_M_16 C0 hP q_613 dX7_isSign_13 ?_
    obtain ⟨g2, hf⟩ := kgd hf
    refine ml_cells C0 hP g2 dX7_isSign_16 ?_
    refine lv_iload_n hx hb dX7_isSign_17 rfl (lv_at hl 2 rfl) ?_
    refine lv_icmp_eq (tgt := 23) hx hb dX7_isSign_18 (by decide) (fun c3 => ?_) (fun c3 => ?_)
    · have hf := kif_t c3 hf
      refine lv_aload_n hx hb dX7_isSign_23 rfl (lv_at hl 0 rfl) ?_
      refine lv_dup hx hb dX7_isSign_24 rfl ?_
      refine xg_M_16 C0 hP q_613 dX7_isSign_25 ?_
      refine lv_iconst (v := (1 : Int32)) hx hb dX7_isSign_28 (by decide) ?_
      refine lv_iadd hx hb dX7_isSign_29 ?_
      refine xp_M_16 C0 hap hP hS q_613 dX7_isSign_30 (fun H locs hP hS => ?_)
      refine lv_iconst (v := (1 : Int32)) hx hb dX7_isSign_33 (by decide) ?_
      obtain ⟨rfl, rfl, rfl⟩ := kinj3 hf
      exact kret_z true rfl C0 hr hlk hP hS dX7_isSign_34
    · have hf := kif_f c3 hf
      refine lv_iconst (v := (0 : Int32)) hx hb dX7_isSign_21 (by decide) ?_
      obtain ⟨rfl, rfl, rfl⟩ := kinj3 hf
      exact kret_z false rfl C0 hr hlk hP hS dX7_isSign_22
set_option maxHeartbeats 4000000 in
set_option maxRecDepth 100000 in
theorem cX7_readCell_c {l : Launch} {D : va_G} {cI cS : ClassId} {a : Nat → Nat} (hap : kAp a 15) {v : kV} {ar : kR} {p1 : Int32} {r : Bool} {v2 : kV} {ar2 : kR} (hf : fX7_readCell v ar p1 = some (r, v2, ar2)) : kMet l D cI cS (mW cI a) (kA a 15) yX7_readCell cX7_readCell 3 (some .boolean) 1 22 [.ref (a 0), .int p1] v ar (some (.int (bI r))) v2 ar2 := by
  refine kstart (by decide) (Nat.le_of_ble_eq_true rfl) ?_
  intro p e s m args below meth c ls C0 hr hlk hl hP hS
  have C0 : kC p s m c args cX7_readCell 3 RX7 D cI cS := C0
  have hx := C0.1.1
  have hb := C0.1.2.1
  have hl : lv_has ls 3 [(0, .ref (a 0)), (1, .int p1)] := hl
  have hB265 : ∀ (s0 : Int32) (s1 : Int32) (v : kV) (ar : kR) (H : Heap) (locs : List Loc) (ls : Array Slot), fX7_readCell_265 p1 s0 s1 v ar = some (r, v2, ar2) → va_P D vwCl (mW cI a v ar) H → va_S (kA a 15) s.heap H locs → lv_has ls 3 [(0, .ref (a 0))] → kGo p l e 1 22 s m args below meth c D (mW cI a) (kA a 15) (some (.int (bI r))) v2 ar2 H locs (F0 m 265 ls [.int s0, .int s1, .ref (a 0)]) := by
    intro  s0 s1 v ar H locs ls hf hP hS hl
    unfold fX7_readCell_265 at hf
    refine lv_ior hx hb dX7_readCell_265 ?_
    refine xp_M_20 C0 hap hP hS q_617 dX7_readCell_266 (fun H locs hP hS => ?_)
    refine lv_aload_n hx hb dX7_readCell_269 rfl (lv_at hl 0 rfl) ?_
    refine lv_dup hx hb dX7_readCell_270 rfl ?_
    refine xg_M_17 C0 hP q_614 dX7_readCell_271 ?_
    refine lv_iconst (v := (1 : Int32)) hx hb dX7_readCell_274 (by decide) ?_
    refine lv_iadd hx hb dX7_readCell_275 ?_
    refine xp_M_17 C0 hap hP hS q_614 dX7_readCell_276 (fun H locs hP hS => ?_)
    refine lv_iconst (v := (1 : Int32)) hx hb dX7_readCell_279 (by decide) ?_
    obtain ⟨rfl, rfl, rfl⟩ := kinj3 hf
    exact kret_z true rfl C0 hr hlk hP hS dX7_readCell_280
  have hB255 : ∀ (s0 : Int32) (v : kV) (ar : kR) (H : Heap) (locs : List Loc) (ls : Array Slot), fX7_readCell_255 p1 s0 v ar = some (r, v2, ar2) → va_P D vwCl (mW cI a v ar) H → va_S (kA a 15) s.heap H locs → lv_has ls 3 [(0, .ref (a 0))] → kGo p l e 1 22 s m args below meth c D (mW cI a) (kA a 15) (some (.int (bI r))) v2 ar2 H locs (F0 m 255 ls [.int s0, .ref (a 0)]) := by
    intro  s0 v ar H locs ls hf hP hS hl
    unfold fX7_readCell_255 at hf
    refine lv_iconst (v := (1 : Int32)) hx hb dX7_readCell_255 (by decide) ?_
    refine lv_aload_n hx hb dX7_readCell_256 rfl (lv_at hl 0 rfl) ?_
    refine xg_M_17 C0 hP q_614 dX7_readCell_257 ?_
    refine lv_ishl hx hb dX7_readCell_260 ?_
    refine lv_goto (tgt := 265) hx hb dX7_readCell_261 (by decide) ?_
    exact hB265 _ _ _ _ _ _ _ hf hP hS (lv_sub hl [0] rfl)
  have hB234 : ∀ (x2 : Int32) (s0 : Int32) (s1 : Int32) (v : kV) (ar : kR) (H : Heap) (locs : List Loc) (ls : Array Slot), fX7_readCell_234 p1 x2 s0 s1 v ar = some (r, v2, ar2) → va_P D vwCl (mW cI a v ar) H → va_S (kA a 15) s.heap H locs → lv_has ls 3 [(0, .ref (a 0)), (2, .int x2)] → kGo p l e 1 22 s m args below meth c D (mW cI a) (kA a 15) (some (.int (bI r))) v2 ar2 H locs (F0 m 234 ls [.int s0, .int s1, .ref (a 0)]) := by
    intro  x2 s0 s1 v ar H locs ls hf hP hS hl
    unfold fX7_readCell_234 at hf
    refine lv_ior hx hb dX7_readCell_234 ?_
    refine xp_M_19 C0 hap hP hS q_616 dX7_readCell_235 (fun H locs hP hS => ?_)
    refine lv_aload_n hx hb dX7_readCell_238 rfl (lv_at hl 0 rfl) ?_
    refine lv_dup hx hb dX7_readCell_239 rfl ?_
    refine xg_M_20 C0 hP q_617 dX7_readCell_240 ?_
    refine lv_iload_n hx hb dX7_readCell_243 rfl (lv_at hl 1 rfl) ?_
    refine lv_bipush (v := (76 : Int32)) hx hb dX7_readCell_244 (by decide) ?_
    refine lv_icmp_eq (tgt := 255) hx hb dX7_readCell_246 (by decide) (fun c18 => ?_) (fun c18 => ?_)
    · have hf := kif_t c18 hf
      exact hB255 _ _ _ _ _ _ hf hP hS (lv_sub hl [0] rfl)
    · have hf := kif_f c18 hf
      refine lv_iload_n hx hb dX7_readCell_249 rfl (lv_at hl 1 rfl) ?_
      refine lv_bipush (v := (82 : Int32)) hx hb dX7_readCell_250 (by decide) ?_
      refine lv_icmp_ne (tgt := 264) hx hb dX7_readCell_252 (by decide) (fun c19 => ?_) (fun c19 => ?_)
      · have hf := kif_f c19 hf
        refine lv_iconst (v := (0 : Int32)) hx hb dX7_readCell_264 (by decide) ?_
        exact hB265 _ _ _ _ _ _ _ hf hP hS (lv_sub hl [0] rfl)
      · have hf := kif_t c19 hf
        exact hB255 _ _ _ _ _ _ hf hP hS (lv_sub hl [0] rfl)
  have hB224 : ∀ (x2 : Int32) (s0 : Int32) (v : kV) (ar : kR) (H : Heap) (locs : List Loc) (ls : Array Slot), fX7_readCell_224 p1 x2 s0 v ar = some (r, v2, ar2) → va_P D vwCl (mW cI a v ar) H → va_S (kA a 15) s.heap H locs → lv_has ls 3 [(0, .ref (a 0)), (2, .int x2)] → kGo p l e 1 22 s m args below meth c D (mW cI a) (kA a 15) (some (.int (bI r))) v2 ar2 H locs (F0 m 224 ls [.int s0, .ref (a 0)]) := by
    intro  x2 s0 v ar H locs ls hf hP hS hl
    unfold fX7_readCell_224 at hf
    refine lv_iconst (v := (1 : Int32)) hx hb dX7_readCell_224 (by decide) ?_
    refine lv_aload_n hx hb dX7_readCell_225 rfl (lv_at hl 0 rfl) ?_
    refine xg_M_17 C0 hP q_614 dX7_readCell_226 ?_
    refine lv_ishl hx hb dX7_readCell_229 ?_
    refine lv_goto (tgt := 234) hx hb dX7_readCell_230 (by decide) ?_
    exact hB234 _ _ _ _ _ _ _ _ hf hP hS (lv_sub hl [0, 1] rfl)
  have hB197 : ∀ (x2 : Int32) (v : kV) (ar : kR) (H : Heap) (locs : List Loc) (ls : Array Slot), fX7_readCell_197 p1 x2 v ar = some (r, v2, ar2) → va_P D vwCl (mW cI a v ar) H → va_S (kA a 15) s.heap H locs → lv_has ls 3 [(0, .ref (a 0)), (2, .int x2)] → kGo p l e 1 22 s m args below meth c D (mW cI a) (kA a 15) (some (.int (bI r))) v2 ar2 H locs (F0 m 197 ls []) := by
    intro  x2 v ar H locs ls hf hP hS hl
    unfold fX7_readCell_197 at hf
    refine lv_aload_n hx hb dX7_readCell_197 rfl (lv_at hl 0 rfl) ?_
    refine lv_dup hx hb dX7_readCell_198 rfl ?_
    refine xg_M_16 C0 hP q_613 dX7_readCell_199 ?_
    refine lv_iconst (v := (1 : Int32)) hx hb dX7_readCell_202 (by decide) ?_
    refine lv_iadd hx hb dX7_readCell_203 ?_
    refine xp_M_16 C0 hap hP hS q_613 dX7_readCell_204 (fun H locs hP hS => ?_)
    refine lv_aload_n hx hb dX7_readCell_207 rfl (lv_at hl 0 rfl) ?_
    refine lv_dup hx hb dX7_readCell_208 rfl ?_
    refine xg_M_19 C0 hP q_616 dX7_readCell_209 ?_
    refine lv_iload_n hx hb dX7_readCell_212 rfl (lv_at hl 1 rfl) ?_
    refine lv_bipush (v := (114 : Int32)) hx hb dX7_readCell_213 (by decide) ?_
    refine lv_icmp_eq (tgt := 224) hx hb dX7_readCell_215 (by decide) (fun c17 => ?_) (fun c17 => ?_)
    · have hf := kif_t c17 hf
      exact hB224 _ _ _ _ _ _ _ hf hP hS (lv_sub hl [0, 1] rfl)
    · have hf := kif_f c17 hf
      refine lv_iload_n hx hb dX7_readCell_218 rfl (lv_at hl 1 rfl) ?_
      refine lv_bipush (v := (82 : Int32)) hx hb dX7_readCell_219 (by decide) ?_
      refine lv_icmp_ne (tgt := 233) hx hb dX7_readCell_221 (by decide) (fun c20 => ?_) (fun c20 => ?_)
      · have hf := kif_f c20 hf
        refine lv_iconst (v := (0 : Int32)) hx hb dX7_readCell_233 (by decide) ?_
        exact hB234 _ _ _ _ _ _ _ _ hf hP hS (lv_sub hl [0, 1] rfl)
      · have hf := kif_t c20 hf
        exact hB224 _ _ _ _ _ _ _ hf hP hS (lv_sub hl [0, 1] rfl)
  have hB170 : ∀ (s0 : Int32) (v : kV) (ar : kR) (H : Heap) (locs : List Loc) (ls : Array Slot), fX7_readCell_170 p1 s0 v ar = some (r, v2, ar2) → va_P D vwCl (mW cI a v ar) H → va_S (kA a 15) s.heap H locs → lv_has ls 3 [(0, .ref (a 0))] → kGo p l e 1 22 s m args below meth c D (mW cI a) (kA a 15) (some (.int (bI r))) v2 ar2 H locs (F0 m 170 ls [.int s0]) := by
    intro  s0 v ar H locs ls hf hP hS hl
    unfold fX7_readCell_170 at hf
    refine lv_istore_n (lv' := [(2, .int s0), (0, .ref (a 0))]) hx hb dX7_readCell_170 rfl hl (by decide) rfl (fun ls hl => ?_)
    refine lv_iload_n hx hb dX7_readCell_171 rfl (lv_at hl 0 rfl) ?_
    refine lv_bipush (v := (108 : Int32)) hx hb dX7_readCell_172 (by decide) ?_
    refine lv_icmp_eq (tgt := 197) hx hb dX7_readCell_174 (by decide) (fun c16 => ?_) (fun c16 => ?_)
    · have hf := kif_t c16 hf
      exact hB197 _ _ _ _ _ _ hf hP hS (lv_sub hl [1, 0] rfl)
    · have hf := kif_f c16 hf
      refine lv_iload_n hx hb dX7_readCell_177 rfl (lv_at hl 0 rfl) ?_
      refine lv_bipush (v := (114 : Int32)) hx hb dX7_readCell_178 (by decide) ?_
      refine lv_icmp_eq (tgt := 197) hx hb dX7_readCell_180 (by decide) (fun c21 => ?_) (fun c21 => ?_)
      · have hf := kif_t c21 hf
        exact hB197 _ _ _ _ _ _ hf hP hS (lv_sub hl [1, 0] rfl)
      · have hf := kif_f c21 hf
        refine lv_iload_n hx hb dX7_readCell_183 rfl (lv_at hl 0 rfl) ?_
        refine lv_bipush (v := (76 : Int32)) hx hb dX7_readCell_184 (by decide) ?_
        refine lv_icmp_eq (tgt := 197) hx hb dX7_readCell_186 (by decide) (fun c22 => ?_) (fun c22 => ?_)
        · have hf := kif_t c22 hf
          exact hB197 _ _ _ _ _ _ hf hP hS (lv_sub hl [1, 0] rfl)
        · have hf := kif_f c22 hf
          refine lv_iload_n hx hb dX7_readCell_189 rfl (lv_at hl 0 rfl) ?_
          refine lv_bipush (v := (82 : Int32)) hx hb dX7_readCell_190 (by decide) ?_
          refine lv_icmp_eq (tgt := 197) hx hb dX7_readCell_192 (by decide) (fun c23 => ?_) (fun c23 => ?_)
          · have hf := kif_t c23 hf
            exact hB197 _ _ _ _ _ _ hf hP hS (lv_sub hl [1, 0] rfl)
          · have hf := kif_f c23 hf
            refine lv_iconst (v := (0 : Int32)) hx hb dX7_readCell_195 (by decide) ?_
            obtain ⟨rfl, rfl, rfl⟩ := kinj3 hf
            exact kret_z false rfl C0 hr hlk hP hS dX7_readCell_196
  have hB62 : ∀ (s0 : Int32) (s1 : Int32) (v : kV) (ar : kR) (H : Heap) (locs : List Loc) (ls : Array Slot), fX7_readCell_62 p1 s0 s1 v ar = some (r, v2, ar2) → va_P D vwCl (mW cI a v ar) H → va_S (kA a 15) s.heap H locs → lv_has ls 3 [(0, .ref (a 0)), (1, .int p1)] → kGo p l e 1 22 s m args below meth c D (mW cI a) (kA a 15) (some (.int (bI r))) v2 ar2 H locs (F0 m 62 ls [.int s0, .int s1, .ref (a (1+7))]) := by
    intro  s0 s1 v ar H locs ls hf hP hS hl
    unfold fX7_readCell_62 at hf
    obtain ⟨g5, hf⟩ := kgd hf
    refine mt_readKind C0 hap hP hS g5 dX7_readCell_62 (fun H locs hP hS => ?_)
    refine lv_aload_n hx hb dX7_readCell_63 rfl (lv_at hl 0 rfl) ?_
    refine xg_M_21 C0 hP q_618 dX7_readCell_64 ?_
    refine lv_aload_n hx hb dX7_readCell_67 rfl (lv_at hl 0 rfl) ?_
    refine xg_M_17 C0 hP q_614 dX7_readCell_68 ?_
    obtain ⟨g6, hf⟩ := kgd hf
    refine ml_readKind C0 hP g6 dX7_readCell_71 ?_
    refine lv_bipush (v := (-9 : Int32)) hx hb dX7_readCell_72 (by decide) ?_
    refine lv_icmp_ne (tgt := 79) hx hb dX7_readCell_74 (by decide) (fun c7 => ?_) (fun c7 => ?_)
    · have hf := kif_f c7 hf
      refine lv_aload_n hx hb dX7_readCell_79 rfl (lv_at hl 0 rfl) ?_
      refine lv_dup hx hb dX7_readCell_80 rfl ?_
      refine xg_M_16 C0 hP q_613 dX7_readCell_81 ?_
      refine lv_iconst (v := (1 : Int32)) hx hb dX7_readCell_84 (by decide) ?_
      refine lv_iadd hx hb dX7_readCell_85 ?_
      refine xp_M_16 C0 hap hP hS q_613 dX7_readCell_86 (fun H locs hP hS => ?_)
      refine lv_aload_n hx hb dX7_readCell_89 rfl (lv_at hl 0 rfl) ?_
      refine xg_M_16 C0 hP q_613 dX7_readCell_90 ?_
      refine lv_iload_n hx hb dX7_readCell_93 rfl (lv_at hl 1 rfl) ?_
      refine lv_icmp_ge (tgt := 116) hx hb dX7_readCell_94 (by decide) (fun c8 => ?_) (fun c8 => ?_)
      · have hf := kif_t c8 hf
        refine lv_iconst (v := (0 : Int32)) hx hb dX7_readCell_116 (by decide) ?_
        obtain ⟨rfl, rfl, rfl⟩ := kinj3 hf
        exact kret_z false rfl C0 hr hlk hP hS dX7_readCell_117
      · have hf := kif_f c8 hf
        refine lv_aload_n hx hb dX7_readCell_97 rfl (lv_at hl 0 rfl) ?_
        refine xg_M_4 C0 hP q_601 dX7_readCell_98 ?_
        refine lv_aload_n hx hb dX7_readCell_101 rfl (lv_at hl 0 rfl) ?_
        refine xg_M_16 C0 hP q_613 dX7_readCell_102 ?_
        obtain ⟨g9, hf⟩ := kgd hf
        refine ml_cells C0 hP g9 dX7_readCell_105 ?_
        refine lv_bipush (v := (49 : Int32)) hx hb dX7_readCell_106 (by decide) ?_
        refine lv_bipush (v := (57 : Int32)) hx hb dX7_readCell_108 (by decide) ?_
        obtain ⟨r11, e10, hf⟩ := kb1_s hf
        refine kcallT (As := [.int ((va_up ar (7) (upd (ar (7)) s1.toNatClampNeg s0)) (2) ((upd v (16) ((v (16)) + (1 : Int32))) (16)).toNatClampNeg), .int (49 : Int32), .int (57 : Int32)]) (rest := []) C0 (cX7_within_c hap e10) q_701 kw_X7_within hP hS ⟨Nat.le_of_ble_eq_true rfl, Nat.le_of_ble_eq_true rfl⟩ rfl hl.1 rfl (Nat.le_of_ble_eq_true rfl) dX7_readCell_110 (fun H locs hP hS => ?_)
        refine lv_if_ne (tgt := 118) hx hb dX7_readCell_113 (by decide) (fun c12 => ?_) (fun c12 => ?_)
        · have hf := kif_f c12 hf
          refine lv_aload_n hx hb dX7_readCell_118 rfl (lv_at hl 0 rfl) ?_
          refine xg_M_22 C0 hP q_619 dX7_readCell_119 ?_
          refine lv_aload_n hx hb dX7_readCell_122 rfl (lv_at hl 0 rfl) ?_
          refine xg_M_17 C0 hP q_614 dX7_readCell_123 ?_
          refine lv_aload_n hx hb dX7_readCell_126 rfl (lv_at hl 0 rfl) ?_
          refine xg_M_4 C0 hP q_601 dX7_readCell_127 ?_
          refine lv_aload_n hx hb dX7_readCell_130 rfl (lv_at hl 0 rfl) ?_
          refine xg_M_16 C0 hP q_613 dX7_readCell_131 ?_
          obtain ⟨g13, hf⟩ := kgd hf
          refine ml_cells C0 hP g13 dX7_readCell_134 ?_
          refine lv_bipush (v := (48 : Int32)) hx hb dX7_readCell_135 (by decide) ?_
          refine lv_isub hx hb dX7_readCell_137 ?_
          obtain ⟨g14, hf⟩ := kgd hf
          refine mt_readBulk C0 hap hP hS g14 dX7_readCell_138 (fun H locs hP hS => ?_)
          refine lv_aload_n hx hb dX7_readCell_139 rfl (lv_at hl 0 rfl) ?_
          refine lv_dup hx hb dX7_readCell_140 rfl ?_
          refine xg_M_16 C0 hP q_613 dX7_readCell_141 ?_
          refine lv_iconst (v := (1 : Int32)) hx hb dX7_readCell_144 (by decide) ?_
          refine lv_iadd hx hb dX7_readCell_145 ?_
          refine xp_M_16 C0 hap hP hS q_613 dX7_readCell_146 (fun H locs hP hS => ?_)
          refine lv_aload_n hx hb dX7_readCell_149 rfl (lv_at hl 0 rfl) ?_
          refine xg_M_16 C0 hP q_613 dX7_readCell_150 ?_
          refine lv_iload_n hx hb dX7_readCell_153 rfl (lv_at hl 1 rfl) ?_
          refine lv_icmp_ge (tgt := 169) hx hb dX7_readCell_154 (by decide) (fun c15 => ?_) (fun c15 => ?_)
          · have hf := kif_t c15 hf
            refine lv_iconst (v := (0 : Int32)) hx hb dX7_readCell_169 (by decide) ?_
            exact hB170 _ _ _ _ _ _ hf hP hS (lv_sub hl [0] rfl)
          · have hf := kif_f c15 hf
            refine lv_aload_n hx hb dX7_readCell_157 rfl (lv_at hl 0 rfl) ?_
            refine xg_M_4 C0 hP q_601 dX7_readCell_158 ?_
            refine lv_aload_n hx hb dX7_readCell_161 rfl (lv_at hl 0 rfl) ?_
            refine xg_M_16 C0 hP q_613 dX7_readCell_162 ?_
            obtain ⟨g24, hf⟩ := kgd hf
            refine ml_cells C0 hP g24 dX7_readCell_165 ?_
            refine lv_goto (tgt := 170) hx hb dX7_readCell_166 (by decide) ?_
            exact hB170 _ _ _ _ _ _ hf hP hS (lv_sub hl [0] rfl)
        · have hf := kif_t c12 hf
          refine lv_iconst (v := (0 : Int32)) hx hb dX7_readCell_116 (by decide) ?_
          obtain ⟨rfl, rfl, rfl⟩ := kinj3 hf
          exact kret_z false rfl C0 hr hlk hP hS dX7_readCell_117
    · have hf := kif_t c7 hf
      refine lv_iconst (v := (0 : Int32)) hx hb dX7_readCell_77 (by decide) ?_
      obtain ⟨rfl, rfl, rfl⟩ := kinj3 hf
      exact kret_z false rfl C0 hr hlk hP hS dX7_readCell_78
  have hB21 : ∀ (s0 : Int32) (v : kV) (ar : kR) (H : Heap) (locs : List Loc) (ls : Array Slot), fX7_readCell_21 p1 s0 v ar = some (r, v2, ar2) → va_P D vwCl (mW cI a v ar) H → va_S (kA a 15) s.heap H locs → lv_has ls 3 [(0, .ref (a 0)), (1, .int p1)] → kGo p l e 1 22 s m args below meth c D (mW cI a) (kA a 15) (some (.int (bI r))) v2 ar2 H locs (F0 m 21 ls [.int s0]) := by
    intro  s0 v ar H locs ls hf hP hS hl
    unfold fX7_readCell_21 at hf
    refine lv_istore_n (lv' := [(2, .int s0), (0, .ref (a 0)), (1, .int p1)]) hx hb dX7_readCell_21 rfl hl (by decide) rfl (fun ls hl => ?_)
    refine lv_aload_n hx hb dX7_readCell_22 rfl (lv_at hl 1 rfl) ?_
    refine xg_M_21 C0 hP q_618 dX7_readCell_23 ?_
    refine lv_aload_n hx hb dX7_readCell_26 rfl (lv_at hl 1 rfl) ?_
    refine xg_M_17 C0 hP q_614 dX7_readCell_27 ?_
    refine lv_iload_n hx hb dX7_readCell_30 rfl (lv_at hl 0 rfl) ?_
    refine lv_bipush (v := (112 : Int32)) hx hb dX7_readCell_31 (by decide) ?_
    refine lv_icmp_ne (tgt := 40) hx hb dX7_readCell_33 (by decide) (fun c2 => ?_) (fun c2 => ?_)
    · have hf := kif_f c2 hf
      refine lv_iload_n hx hb dX7_readCell_40 rfl (lv_at hl 0 rfl) ?_
      refine lv_bipush (v := (98 : Int32)) hx hb dX7_readCell_41 (by decide) ?_
      refine lv_icmp_ne (tgt := 50) hx hb dX7_readCell_43 (by decide) (fun c3 => ?_) (fun c3 => ?_)
      · have hf := kif_f c3 hf
        refine lv_iload_n hx hb dX7_readCell_50 rfl (lv_at hl 0 rfl) ?_
        refine lv_bipush (v := (100 : Int32)) hx hb dX7_readCell_51 (by decide) ?_
        refine lv_icmp_ne (tgt := 60) hx hb dX7_readCell_53 (by decide) (fun c4 => ?_) (fun c4 => ?_)
        · have hf := kif_f c4 hf
          refine lv_bipush (v := (-9 : Int32)) hx hb dX7_readCell_60 (by decide) ?_
          exact hB62 _ _ _ _ _ _ _ hf hP hS (lv_sub hl [1, 2] rfl)
        · have hf := kif_t c4 hf
          refine lv_iconst (v := (2 : Int32)) hx hb dX7_readCell_56 (by decide) ?_
          refine lv_goto (tgt := 62) hx hb dX7_readCell_57 (by decide) ?_
          exact hB62 _ _ _ _ _ _ _ hf hP hS (lv_sub hl [1, 2] rfl)
      · have hf := kif_t c3 hf
        refine lv_iconst (v := (1 : Int32)) hx hb dX7_readCell_46 (by decide) ?_
        refine lv_goto (tgt := 62) hx hb dX7_readCell_47 (by decide) ?_
        exact hB62 _ _ _ _ _ _ _ hf hP hS (lv_sub hl [1, 2] rfl)
    · have hf := kif_t c2 hf
      refine lv_iconst (v := (0 : Int32)) hx hb dX7_readCell_36 (by decide) ?_
      refine lv_goto (tgt := 62) hx hb dX7_readCell_37 (by decide) ?_
      exact hB62 _ _ _ _ _ _ _ hf hP hS (lv_sub hl [1, 2] rfl)
  unfold fX7_readCell at hf
  refine lv_aload_n hx hb dX7_readCell_0 rfl (lv_at hl 0 rfl) ?_
  refine xg_M_16 C0 hP q_613 dX7_readCell_1 ?_
  refine lv_iload_n hx hb dX7_readCell_4 rfl (lv_at hl 1 rfl) ?_
  refine lv_icmp_ge (tgt := 20) hx hb dX7_readCell_5 (by decide) (fun c1 => ?_) (fun c1 => ?_)
  · have hf := kif_t c1 hf
    refine lv_iconst (v := (0 : Int32)) hx hb dX7_readCell_20 (by decide) ?_
    exact hB21 _ _ _ _ _ _ hf hP hS (lv_sub hl [0, 1] rfl)
  · have hf := kif_f c1 hf
    refine lv_aload_n hx hb dX7_readCell_8 rfl (lv_at hl 0 rfl) ?_
    refine xg_M_4 C0 hP q_601 dX7_readCell_9 ?_
    refine lv_aload_n hx hb dX7_readCell_12 rfl (lv_at hl 0 rfl) ?_
    refine xg_M_16 C0 hP q_613 dX7_readCell_13 ?_
    obtain ⟨g25, hf⟩ := kgd hf
    refine ml_cells C0 hP g25 dX7_readCell_16 ?_
    refine lv_goto (tgt := 21) hx hb dX7_readCell_17 (by decide) ?_
    exact hB21 _ _ _ _ _ _ hf hP hS (lv_sub hl [0, 1] rfl)
set_option maxHeartbeats 4000000 in
set_option maxRecDepth 100000 in
theorem cX7_size_c {l : Launch} {D : va_G} {cI cS : ClassId} {a : Nat → Nat} (hap : kAp a 15) {v : kV} {ar : kR} {p0 : Int32} {r : Int32} (hf : fX7_size p0 = some r) : kMet l D cI cS (mW cI a) (kA a 15) yX7_size cX7_size 3 (some .int) 0 0 [.int p0] v ar (some (.int r)) v ar := by
  refine kstart (by decide) (Nat.le_of_ble_eq_true rfl) ?_
  intro p e s m args below meth c ls C0 hr hlk hl hP hS
  have C0 : kC p s m c args cX7_size 3 RX7 D cI cS := C0
  have hx := C0.1.1
  have hb := C0.1.2.1
  have hl : lv_has ls 3 [(0, .int p0)] := hl
  have hB4 : ∀ (n : Nat), ∀ (x1 : Int32) (x2 : Int32) (H : Heap) (locs : List Loc) (ls : Array Slot), fX7_size_4 p0 n x1 x2 = some r → va_P D vwCl (mW cI a v ar) H → va_S (kA a 15) s.heap H locs → lv_has ls 3 [(1, .int x1), (2, .int x2)] → kGo p l e 0 0 s m args below meth c D (mW cI a) (kA a 15) (some (.int r)) v ar H locs (F0 m 4 ls []) := by
    intro  n
    induction n with
    | zero =>
      intro x1 x2 H locs ls hf
      have hf : (none : Option Int32) = some r := hf
      cases hf
    | succ n ih =>
      intro x1 x2 H locs ls hf hP hS hl
      have hf : fX7_size_4b p0 (fX7_size_4 p0 n) x1 x2 = some r := hf
      unfold fX7_size_4b at hf
      refine lv_iload_n hx hb dX7_size_4 rfl (lv_at hl 1 rfl) ?_
      refine lv_if_le (tgt := 21) hx hb dX7_size_5 (by decide) (fun c1 => ?_) (fun c1 => ?_)
      · have hf := kif_t c1 hf
        refine lv_iload_n hx hb dX7_size_21 rfl (lv_at hl 0 rfl) ?_
        obtain rfl := Option.some.inj hf
        exact kret_i C0 hr hlk hP hS dX7_size_22
      · have hf := kif_f c1 hf
        refine lv_iload_n hx hb dX7_size_8 rfl (lv_at hl 0 rfl) ?_
        refine lv_iload_n hx hb dX7_size_9 rfl (lv_at hl 1 rfl) ?_
        refine lv_iconst (v := (1 : Int32)) hx hb dX7_size_10 (by decide) ?_
        refine lv_iand hx hb dX7_size_11 ?_
        refine lv_iadd hx hb dX7_size_12 ?_
        refine lv_istore_n (lv' := [(1, .int (x1 + (x2 &&& (1 : Int32)))), (2, .int x2)]) hx hb dX7_size_13 rfl hl (by decide) rfl (fun ls hl => ?_)
        refine lv_iload_n hx hb dX7_size_14 rfl (lv_at hl 1 rfl) ?_
        refine lv_iconst (v := (1 : Int32)) hx hb dX7_size_15 (by decide) ?_
        refine lv_ishr hx hb dX7_size_16 ?_
        refine lv_istore_n (lv' := [(2, .int (x2 >>> ((1 : Int32) &&& 31))), (1, .int (x1 + (x2 &&& (1 : Int32))))]) hx hb dX7_size_17 rfl hl (by decide) rfl (fun ls hl => ?_)
        refine lv_goto (tgt := 4) hx hb dX7_size_18 (by decide) ?_
        exact ih _ _ _ _ _ hf hP hS (lv_sub hl [1, 0] rfl)
  unfold fX7_size at hf
  refine lv_iconst (v := (0 : Int32)) hx hb dX7_size_0 (by decide) ?_
  refine lv_istore_n (lv' := [(1, .int (0 : Int32)), (0, .int p0)]) hx hb dX7_size_1 rfl hl (by decide) rfl (fun ls hl => ?_)
  refine lv_iload_n hx hb dX7_size_2 rfl (lv_at hl 1 rfl) ?_
  refine lv_istore_n (lv' := [(2, .int p0), (1, .int (0 : Int32)), (0, .int p0)]) hx hb dX7_size_3 rfl hl (by decide) rfl (fun ls hl => ?_)
  exact hB4 _ _ _ _ _ _ hf hP hS (lv_sub hl [1, 0] rfl)
set_option maxHeartbeats 4000000 in
set_option maxRecDepth 100000 in
theorem cX7_isOf_c {l : Launch} {D : va_G} {cI cS : ClassId} {a : Nat → Nat} (hap : kAp a 15) {v : kV} {ar : kR} {p0 : Int32} {p1 : Int32} {r : Bool} (hf : fX7_isOf p0 p1 = some r) : kMet l D cI cS (mW cI a) (kA a 15) yX7_isOf cX7_isOf 2 (some .boolean) 0 0 [.int p0, .int p1] v ar (some (.int (bI r))) v ar := by
  refine kstart (by decide) (Nat.le_of_ble_eq_true rfl) ?_
  intro p e s m args below meth c ls C0 hr hlk hl hP hS
  have C0 : kC p s m c args cX7_isOf 2 RX7 D cI cS := C0
  have hx := C0.1.1
  have hb := C0.1.2.1
  have hl : lv_has ls 2 [(0, .int p0), (1, .int p1)] := hl
  unfold fX7_isOf at hf
  refine lv_iload_n hx hb dX7_isOf_0 rfl (lv_at hl 0 rfl) ?_
  refine lv_iload_n hx hb dX7_isOf_1 rfl (lv_at hl 1 rfl) ?_
  refine lv_ishr hx hb dX7_isOf_2 ?_
  refine lv_iconst (v := (1 : Int32)) hx hb dX7_isOf_3 (by decide) ?_
  refine lv_iand hx hb dX7_isOf_4 ?_
  refine lv_iconst (v := (1 : Int32)) hx hb dX7_isOf_5 (by decide) ?_
  refine lv_icmp_ne (tgt := 13) hx hb dX7_isOf_6 (by decide) (fun c1 => ?_) (fun c1 => ?_)
  · have hf := kif_f c1 hf
    refine lv_iconst (v := (0 : Int32)) hx hb dX7_isOf_13 (by decide) ?_
    obtain rfl := Option.some.inj hf
    exact kret_z false rfl C0 hr hlk hP hS dX7_isOf_14
  · have hf := kif_t c1 hf
    refine lv_iconst (v := (1 : Int32)) hx hb dX7_isOf_9 (by decide) ?_
    refine lv_goto (tgt := 14) hx hb dX7_isOf_10 (by decide) ?_
    obtain rfl := Option.some.inj hf
    exact kret_z true rfl C0 hr hlk hP hS dX7_isOf_14
set_option maxHeartbeats 4000000 in
set_option maxRecDepth 100000 in
theorem cX7_readNetNext_c {l : Launch} {D : va_G} {cI cS : ClassId} {a : Nat → Nat} (hap : kAp a 15) {v : kV} {ar : kR} {p1 : Int32} {r : Bool} {v2 : kV} {ar2 : kR} (hf : fX7_readNetNext v ar p1 = some (r, v2, ar2)) : kMet l D cI cS (mW cI a) (kA a 15) yX7_readNetNext cX7_readNetNext 5 (some .boolean) 1 22 [.ref (a 0), .int p1] v ar (some (.int (bI r))) v2 ar2 := by
  refine kstart (by decide) (Nat.le_of_ble_eq_true rfl) ?_
  intro p e s m args below meth c ls C0 hr hlk hl hP hS
  have C0 : kC p s m c args cX7_readNetNext 5 RX7 D cI cS := C0
  have hx := C0.1.1
  have hb := C0.1.2.1
  have hl : lv_has ls 5 [(0, .ref (a 0)), (1, .int p1)] := hl
  have hB92 : ∀ (x2 : Int32) (v : kV) (ar : kR) (H : Heap) (locs : List Loc) (ls : Array Slot), fX7_readNetNext_92 p1 x2 v ar = some (r, v2, ar2) → va_P D vwCl (mW cI a v ar) H → va_S (kA a 15) s.heap H locs → lv_has ls 5 [(0, .ref (a 0)), (2, .int x2)] → kGo p l e 1 22 s m args below meth c D (mW cI a) (kA a 15) (some (.int (bI r))) v2 ar2 H locs (F0 m 92 ls []) := by
    intro  x2 v ar H locs ls hf hP hS hl
    unfold fX7_readNetNext_92 at hf
    refine lv_iload_n hx hb dX7_readNetNext_92 rfl (lv_at hl 1 rfl) ?_
    obtain ⟨r3, e2, hf⟩ := kb1_s hf
    refine kcallT (As := [.int x2]) (rest := []) C0 (cX7_size_c hap e2) q_731 kw_X7_size hP hS ⟨Nat.le_of_ble_eq_true rfl, Nat.le_of_ble_eq_true rfl⟩ rfl hl.1 rfl (Nat.le_of_ble_eq_true rfl) dX7_readNetNext_93 (fun H locs hP hS => ?_)
    refine lv_iconst (v := (2 : Int32)) hx hb dX7_readNetNext_96 (by decide) ?_
    refine lv_icmp_ge (tgt := 102) hx hb dX7_readNetNext_97 (by decide) (fun c4 => ?_) (fun c4 => ?_)
    · have hf := kif_t c4 hf
      refine lv_aload_n hx hb dX7_readNetNext_102 rfl (lv_at hl 0 rfl) ?_
      refine xg_M_23 C0 hP q_620 dX7_readNetNext_103 ?_
      refine lv_aload_n hx hb dX7_readNetNext_106 rfl (lv_at hl 0 rfl) ?_
      refine xg_M_18 C0 hP q_615 dX7_readNetNext_107 ?_
      refine lv_iload_n hx hb dX7_readNetNext_110 rfl (lv_at hl 1 rfl) ?_
      obtain ⟨g5, hf⟩ := kgd hf
      refine mt_readNet C0 hap hP hS g5 dX7_readNetNext_111 (fun H locs hP hS => ?_)
      refine lv_aload_n hx hb dX7_readNetNext_112 rfl (lv_at hl 0 rfl) ?_
      refine lv_dup hx hb dX7_readNetNext_113 rfl ?_
      refine xg_M_18 C0 hP q_615 dX7_readNetNext_114 ?_
      refine lv_iconst (v := (1 : Int32)) hx hb dX7_readNetNext_117 (by decide) ?_
      refine lv_iadd hx hb dX7_readNetNext_118 ?_
      refine xp_M_18 C0 hap hP hS q_615 dX7_readNetNext_119 (fun H locs hP hS => ?_)
      refine lv_iconst (v := (1 : Int32)) hx hb dX7_readNetNext_122 (by decide) ?_
      obtain ⟨rfl, rfl, rfl⟩ := kinj3 hf
      exact kret_z true rfl C0 hr hlk hP hS dX7_readNetNext_123
    · have hf := kif_f c4 hf
      refine lv_iconst (v := (0 : Int32)) hx hb dX7_readNetNext_100 (by decide) ?_
      obtain ⟨rfl, rfl, rfl⟩ := kinj3 hf
      exact kret_z false rfl C0 hr hlk hP hS dX7_readNetNext_101
  have hB89 : ∀ (rec4 : Int32 → Int32 → kV → kR → Option (Bool × kV × kR)) (hrec4 : ∀ (x2 : Int32) (x3 : Int32) (v : kV) (ar : kR) (H : Heap) (locs : List Loc) (ls : Array Slot), rec4 x2 x3 v ar = some (r, v2, ar2) → va_P D vwCl (mW cI a v ar) H → va_S (kA a 15) s.heap H locs → lv_has ls 5 [(0, .ref (a 0)), (1, .int p1), (2, .int x2), (3, .int x3)] → kGo p l e 1 22 s m args below meth c D (mW cI a) (kA a 15) (some (.int (bI r))) v2 ar2 H locs (F0 m 4 ls [])) , ∀ (x2 : Int32) (x3 : Int32) (v : kV) (ar : kR) (H : Heap) (locs : List Loc) (ls : Array Slot), fX7_readNetNext_89 p1 rec4 x2 x3 v ar = some (r, v2, ar2) → va_P D vwCl (mW cI a v ar) H → va_S (kA a 15) s.heap H locs → lv_has ls 5 [(0, .ref (a 0)), (1, .int p1), (2, .int x2), (3, .int x3)] → kGo p l e 1 22 s m args below meth c D (mW cI a) (kA a 15) (some (.int (bI r))) v2 ar2 H locs (F0 m 89 ls []) := by
    intro rec4 hrec4 x2 x3 v ar H locs ls hf hP hS hl
    unfold fX7_readNetNext_89 at hf
    refine lv_goto (tgt := 4) hx hb dX7_readNetNext_89 (by decide) ?_
    exact hrec4 _ _ _ _ _ _ _ hf hP hS (lv_sub hl [0, 1, 2, 3] rfl)
  have hB67 : ∀ (rec4 : Int32 → Int32 → kV → kR → Option (Bool × kV × kR)) (hrec4 : ∀ (x2 : Int32) (x3 : Int32) (v : kV) (ar : kR) (H : Heap) (locs : List Loc) (ls : Array Slot), rec4 x2 x3 v ar = some (r, v2, ar2) → va_P D vwCl (mW cI a v ar) H → va_S (kA a 15) s.heap H locs → lv_has ls 5 [(0, .ref (a 0)), (1, .int p1), (2, .int x2), (3, .int x3)] → kGo p l e 1 22 s m args below meth c D (mW cI a) (kA a 15) (some (.int (bI r))) v2 ar2 H locs (F0 m 4 ls [])) , ∀ (x2 : Int32) (x4 : Int32) (s0 : Int32) (v : kV) (ar : kR) (H : Heap) (locs : List Loc) (ls : Array Slot), fX7_readNetNext_67 p1 rec4 x2 x4 s0 v ar = some (r, v2, ar2) → va_P D vwCl (mW cI a v ar) H → va_S (kA a 15) s.heap H locs → lv_has ls 5 [(0, .ref (a 0)), (1, .int p1), (2, .int x2), (4, .int x4)] → kGo p l e 1 22 s m args below meth c D (mW cI a) (kA a 15) (some (.int (bI r))) v2 ar2 H locs (F0 m 67 ls [.int s0]) := by
    intro rec4 hrec4 x2 x4 s0 v ar H locs ls hf hP hS hl
    unfold fX7_readNetNext_67 at hf
    refine lv_istore_n (lv' := [(3, .int s0), (0, .ref (a 0)), (1, .int p1), (2, .int x2), (4, .int x4)]) hx hb dX7_readNetNext_67 rfl hl (by decide) rfl (fun ls hl => ?_)
    refine lv_iload_n hx hb dX7_readNetNext_68 rfl (lv_at hl 0 rfl) ?_
    refine lv_if_eq (tgt := 89) hx hb dX7_readNetNext_69 (by decide) (fun c14 => ?_) (fun c14 => ?_)
    · have hf := kif_t c14 hf
      exact hB89 _ hrec4 _ _ _ _ _ _ _ hf hP hS (lv_sub hl [1, 2, 3, 0] rfl)
    · have hf := kif_f c14 hf
      refine lv_iload_n hx hb dX7_readNetNext_72 rfl (lv_at hl 3 rfl) ?_
      refine lv_iconst (v := (1 : Int32)) hx hb dX7_readNetNext_73 (by decide) ?_
      refine lv_iload hx hb dX7_readNetNext_74 (lv_at hl 4 rfl) ?_
      refine lv_ishl hx hb dX7_readNetNext_76 ?_
      refine lv_ior hx hb dX7_readNetNext_77 ?_
      refine lv_istore_n (lv' := [(2, .int (x2 ||| ((1 : Int32) <<< (x4 &&& 31)))), (3, .int s0), (0, .ref (a 0)), (1, .int p1), (4, .int x4)]) hx hb dX7_readNetNext_78 rfl hl (by decide) rfl (fun ls hl => ?_)
      refine lv_aload_n hx hb dX7_readNetNext_79 rfl (lv_at hl 2 rfl) ?_
      refine lv_dup hx hb dX7_readNetNext_80 rfl ?_
      refine xg_M_16 C0 hP q_613 dX7_readNetNext_81 ?_
      refine lv_iconst (v := (1 : Int32)) hx hb dX7_readNetNext_84 (by decide) ?_
      refine lv_iadd hx hb dX7_readNetNext_85 ?_
      refine xp_M_16 C0 hap hP hS q_613 dX7_readNetNext_86 (fun H locs hP hS => ?_)
      exact hB89 _ hrec4 _ _ _ _ _ _ _ hf hP hS (lv_sub hl [2, 3, 0, 1] rfl)
  have hB66 : ∀ (rec4 : Int32 → Int32 → kV → kR → Option (Bool × kV × kR)) (hrec4 : ∀ (x2 : Int32) (x3 : Int32) (v : kV) (ar : kR) (H : Heap) (locs : List Loc) (ls : Array Slot), rec4 x2 x3 v ar = some (r, v2, ar2) → va_P D vwCl (mW cI a v ar) H → va_S (kA a 15) s.heap H locs → lv_has ls 5 [(0, .ref (a 0)), (1, .int p1), (2, .int x2), (3, .int x3)] → kGo p l e 1 22 s m args below meth c D (mW cI a) (kA a 15) (some (.int (bI r))) v2 ar2 H locs (F0 m 4 ls [])) , ∀ (x2 : Int32) (x4 : Int32) (v : kV) (ar : kR) (H : Heap) (locs : List Loc) (ls : Array Slot), fX7_readNetNext_66 p1 rec4 x2 x4 v ar = some (r, v2, ar2) → va_P D vwCl (mW cI a v ar) H → va_S (kA a 15) s.heap H locs → lv_has ls 5 [(0, .ref (a 0)), (1, .int p1), (2, .int x2), (4, .int x4)] → kGo p l e 1 22 s m args below meth c D (mW cI a) (kA a 15) (some (.int (bI r))) v2 ar2 H locs (F0 m 66 ls []) := by
    intro rec4 hrec4 x2 x4 v ar H locs ls hf hP hS hl
    unfold fX7_readNetNext_66 at hf
    refine lv_iconst (v := (0 : Int32)) hx hb dX7_readNetNext_66 (by decide) ?_
    exact hB67 _ hrec4 _ _ _ _ _ _ _ _ hf hP hS (lv_sub hl [0, 1, 2, 3] rfl)
  have hB4 : ∀ (n : Nat), ∀ (x2 : Int32) (x3 : Int32) (v : kV) (ar : kR) (H : Heap) (locs : List Loc) (ls : Array Slot), fX7_readNetNext_4 p1 n x2 x3 v ar = some (r, v2, ar2) → va_P D vwCl (mW cI a v ar) H → va_S (kA a 15) s.heap H locs → lv_has ls 5 [(0, .ref (a 0)), (1, .int p1), (2, .int x2), (3, .int x3)] → kGo p l e 1 22 s m args below meth c D (mW cI a) (kA a 15) (some (.int (bI r))) v2 ar2 H locs (F0 m 4 ls []) := by
    intro  n
    induction n with
    | zero =>
      intro x2 x3 v ar H locs ls hf
      have hf : (none : Option (Bool × kV × kR)) = some (r, v2, ar2) := hf
      cases hf
    | succ n ih =>
      intro x2 x3 v ar H locs ls hf hP hS hl
      have hf : fX7_readNetNext_4b p1 (fX7_readNetNext_4 p1 n) x2 x3 v ar = some (r, v2, ar2) := hf
      unfold fX7_readNetNext_4b at hf
      refine lv_iload_n hx hb dX7_readNetNext_4 rfl (lv_at hl 3 rfl) ?_
      refine lv_if_eq (tgt := 92) hx hb dX7_readNetNext_5 (by decide) (fun c1 => ?_) (fun c1 => ?_)
      · have hf := kif_t c1 hf
        exact hB92 _ _ _ _ _ _ hf hP hS (lv_sub hl [0, 2] rfl)
      · have hf := kif_f c1 hf
        refine lv_iload_n hx hb dX7_readNetNext_8 rfl (lv_at hl 2 rfl) ?_
        obtain ⟨r7, e6, hf⟩ := kb1_s hf
        refine kcallT (As := [.int x2]) (rest := []) C0 (cX7_size_c hap e6) q_731 kw_X7_size hP hS ⟨Nat.le_of_ble_eq_true rfl, Nat.le_of_ble_eq_true rfl⟩ rfl hl.1 rfl (Nat.le_of_ble_eq_true rfl) dX7_readNetNext_9 (fun H locs hP hS => ?_)
        refine lv_iconst (v := (4 : Int32)) hx hb dX7_readNetNext_12 (by decide) ?_
        refine lv_icmp_ge (tgt := 92) hx hb dX7_readNetNext_13 (by decide) (fun c8 => ?_) (fun c8 => ?_)
        · have hf := kif_t c8 hf
          exact hB92 _ _ _ _ _ _ hf hP hS (lv_sub hl [0, 2] rfl)
        · have hf := kif_f c8 hf
          refine lv_aload_n hx hb dX7_readNetNext_16 rfl (lv_at hl 0 rfl) ?_
          refine xg_M_16 C0 hP q_613 dX7_readNetNext_17 ?_
          refine lv_iload_n hx hb dX7_readNetNext_20 rfl (lv_at hl 1 rfl) ?_
          refine lv_icmp_ge (tgt := 92) hx hb dX7_readNetNext_21 (by decide) (fun c9 => ?_) (fun c9 => ?_)
          · have hf := kif_t c9 hf
            exact hB92 _ _ _ _ _ _ hf hP hS (lv_sub hl [0, 2] rfl)
          · have hf := kif_f c9 hf
            refine lv_aload_n hx hb dX7_readNetNext_24 rfl (lv_at hl 0 rfl) ?_
            refine xg_M_4 C0 hP q_601 dX7_readNetNext_25 ?_
            refine lv_aload_n hx hb dX7_readNetNext_28 rfl (lv_at hl 0 rfl) ?_
            refine xg_M_16 C0 hP q_613 dX7_readNetNext_29 ?_
            obtain ⟨g10, hf⟩ := kgd hf
            refine ml_cells C0 hP g10 dX7_readNetNext_32 ?_
            refine lv_bipush (v := (48 : Int32)) hx hb dX7_readNetNext_33 (by decide) ?_
            refine lv_isub hx hb dX7_readNetNext_35 ?_
            refine lv_istore (lv' := [(4, .int ((ar (2) (v (16)).toNatClampNeg) - (48 : Int32))), (0, .ref (a 0)), (1, .int p1), (2, .int x2), (3, .int x3)]) hx hb dX7_readNetNext_36 hl (by decide) rfl (fun ls hl => ?_)
            refine lv_iload hx hb dX7_readNetNext_38 (lv_at hl 0 rfl) ?_
            refine lv_iconst (v := (0 : Int32)) hx hb dX7_readNetNext_40 (by decide) ?_
            refine lv_aload_n hx hb dX7_readNetNext_41 rfl (lv_at hl 1 rfl) ?_
            refine xg_M_17 C0 hP q_614 dX7_readNetNext_42 ?_
            refine lv_iconst (v := (1 : Int32)) hx hb dX7_readNetNext_45 (by decide) ?_
            refine lv_isub hx hb dX7_readNetNext_46 ?_
            obtain ⟨r12, e11, hf⟩ := kb1_s hf
            refine kcallT (As := [.int ((ar (2) (v (16)).toNatClampNeg) - (48 : Int32)), .int (0 : Int32), .int ((v (17)) - (1 : Int32))]) (rest := []) C0 (cX7_within_c hap e11) q_701 kw_X7_within hP hS ⟨Nat.le_of_ble_eq_true rfl, Nat.le_of_ble_eq_true rfl⟩ rfl hl.1 rfl (Nat.le_of_ble_eq_true rfl) dX7_readNetNext_47 (fun H locs hP hS => ?_)
            refine lv_if_eq (tgt := 66) hx hb dX7_readNetNext_50 (by decide) (fun c13 => ?_) (fun c13 => ?_)
            · have hf := kif_t c13 hf
              exact hB66 _ ih _ _ _ _ _ _ _ hf hP hS (lv_sub hl [1, 2, 3, 0] rfl)
            · have hf := kif_f c13 hf
              refine lv_iload_n hx hb dX7_readNetNext_53 rfl (lv_at hl 3 rfl) ?_
              refine lv_iload hx hb dX7_readNetNext_54 (lv_at hl 0 rfl) ?_
              obtain ⟨r16, e15, hf⟩ := kb1_s hf
              refine kcallT (As := [.int x2, .int ((ar (2) (v (16)).toNatClampNeg) - (48 : Int32))]) (rest := []) C0 (cX7_isOf_c hap e15) q_734 kw_X7_isOf hP hS ⟨Nat.le_of_ble_eq_true rfl, Nat.le_of_ble_eq_true rfl⟩ rfl hl.1 rfl (Nat.le_of_ble_eq_true rfl) dX7_readNetNext_56 (fun H locs hP hS => ?_)
              refine lv_if_ne (tgt := 66) hx hb dX7_readNetNext_59 (by decide) (fun c17 => ?_) (fun c17 => ?_)
              · have hf := kif_f c17 hf
                exact hB66 _ ih _ _ _ _ _ _ _ hf hP hS (lv_sub hl [1, 2, 3, 0] rfl)
              · have hf := kif_t c17 hf
                refine lv_iconst (v := (1 : Int32)) hx hb dX7_readNetNext_62 (by decide) ?_
                refine lv_goto (tgt := 67) hx hb dX7_readNetNext_63 (by decide) ?_
                exact hB67 _ ih _ _ _ _ _ _ _ _ hf hP hS (lv_sub hl [1, 2, 3, 0] rfl)
  unfold fX7_readNetNext at hf
  refine lv_iconst (v := (0 : Int32)) hx hb dX7_readNetNext_0 (by decide) ?_
  refine lv_istore_n (lv' := [(2, .int (0 : Int32)), (0, .ref (a 0)), (1, .int p1)]) hx hb dX7_readNetNext_1 rfl hl (by decide) rfl (fun ls hl => ?_)
  refine lv_iconst (v := (1 : Int32)) hx hb dX7_readNetNext_2 (by decide) ?_
  refine lv_istore_n (lv' := [(3, .int (1 : Int32)), (2, .int (0 : Int32)), (0, .ref (a 0)), (1, .int p1)]) hx hb dX7_readNetNext_3 rfl hl (by decide) rfl (fun ls hl => ?_)
  exact hB4 _ _ _ _ _ _ _ _ hf hP hS (lv_sub hl [2, 3, 1, 0] rfl)
set_option maxHeartbeats 4000000 in
set_option maxRecDepth 100000 in
theorem cX7_readAll_c {l : Launch} {D : va_G} {cI cS : ClassId} {a : Nat → Nat} (hap : kAp a 15) {v : kV} {ar : kR} {p1 : Int32} {r : Bool} {v2 : kV} {ar2 : kR} (hf : fX7_readAll v ar p1 = some (r, v2, ar2)) : kMet l D cI cS (mW cI a) (kA a 15) yX7_readAll cX7_readAll 2 (some .boolean) 2 46 [.ref (a 0), .int p1] v ar (some (.int (bI r))) v2 ar2 := by
  refine kstart (by decide) (Nat.le_of_ble_eq_true rfl) ?_
  intro p e s m args below meth c ls C0 hr hlk hl hP hS
  have C0 : kC p s m c args cX7_readAll 2 RX7 D cI cS := C0
  have hx := C0.1.1
  have hb := C0.1.2.1
  have hl : lv_has ls 2 [(0, .ref (a 0)), (1, .int p1)] := hl
  have hB70 : ∀ (rec32 : kV → kR → Option (Bool × kV × kR)) (hrec32 : ∀ (v : kV) (ar : kR) (H : Heap) (locs : List Loc) (ls : Array Slot), rec32 v ar = some (r, v2, ar2) → va_P D vwCl (mW cI a v ar) H → va_S (kA a 15) s.heap H locs → lv_has ls 2 [(0, .ref (a 0)), (1, .int p1)] → kGo p l e 2 46 s m args below meth c D (mW cI a) (kA a 15) (some (.int (bI r))) v2 ar2 H locs (F0 m 32 ls [])) , ∀ (v : kV) (ar : kR) (H : Heap) (locs : List Loc) (ls : Array Slot), fX7_readAll_70 p1 rec32 v ar = some (r, v2, ar2) → va_P D vwCl (mW cI a v ar) H → va_S (kA a 15) s.heap H locs → lv_has ls 2 [(0, .ref (a 0)), (1, .int p1)] → kGo p l e 2 46 s m args below meth c D (mW cI a) (kA a 15) (some (.int (bI r))) v2 ar2 H locs (F0 m 70 ls []) := by
    intro rec32 hrec32 v ar H locs ls hf hP hS hl
    unfold fX7_readAll_70 at hf
    refine lv_aload_n hx hb dX7_readAll_70 rfl (lv_at hl 0 rfl) ?_
    refine lv_iload_n hx hb dX7_readAll_71 rfl (lv_at hl 1 rfl) ?_
    refine lv_bipush (v := (59 : Int32)) hx hb dX7_readAll_72 (by decide) ?_
    obtain ⟨r8, v9, ar10, e7, hf⟩ := kb3_s hf
    refine kcallV (As := [.int p1, .int (59 : Int32)]) (rest := []) C0 (cX7_isSign_c hap e7) q_719 kw_X7_isSign (xv_M C0.2 hP) hP hS ⟨Nat.le_of_ble_eq_true rfl, Nat.le_of_ble_eq_true rfl⟩ rfl hl.1 rfl (Nat.le_of_ble_eq_true rfl) dX7_readAll_74 (fun H locs hP hS => ?_)
    refine lv_if_eq (tgt := 88) hx hb dX7_readAll_77 (by decide) (fun c11 => ?_) (fun c11 => ?_)
    · have hf := kif_t c11 hf
      refine lv_iconst (v := (0 : Int32)) hx hb dX7_readAll_88 (by decide) ?_
      obtain ⟨rfl, rfl, rfl⟩ := kinj3 hf
      exact kret_z false rfl C0 hr hlk hP hS dX7_readAll_89
    · have hf := kif_f c11 hf
      refine lv_aload_n hx hb dX7_readAll_80 rfl (lv_at hl 0 rfl) ?_
      refine lv_iload_n hx hb dX7_readAll_81 rfl (lv_at hl 1 rfl) ?_
      obtain ⟨r13, v14, ar15, e12, hf⟩ := kb3_s hf
      refine kcallV (As := [.int p1]) (rest := []) C0 (cX7_readCell_c hap e12) q_723 kw_X7_readCell (xv_M C0.2 hP) hP hS ⟨Nat.le_of_ble_eq_true rfl, Nat.le_of_ble_eq_true rfl⟩ rfl hl.1 rfl (Nat.le_of_ble_eq_true rfl) dX7_readAll_82 (fun H locs hP hS => ?_)
      refine lv_if_ne (tgt := 32) hx hb dX7_readAll_85 (by decide) (fun c16 => ?_) (fun c16 => ?_)
      · have hf := kif_f c16 hf
        exact hrec32 _ _ _ _ _ hf hP hS (lv_sub hl [0, 1] rfl)
      · have hf := kif_t c16 hf
        refine lv_iconst (v := (0 : Int32)) hx hb dX7_readAll_88 (by decide) ?_
        obtain ⟨rfl, rfl, rfl⟩ := kinj3 hf
        exact kret_z false rfl C0 hr hlk hP hS dX7_readAll_89
  have hB127 : ∀ (v : kV) (ar : kR) (H : Heap) (locs : List Loc) (ls : Array Slot), fX7_readAll_127 p1 v ar = some (r, v2, ar2) → va_P D vwCl (mW cI a v ar) H → va_S (kA a 15) s.heap H locs → lv_has ls 2 [(0, .ref (a 0)), (1, .int p1)] → kGo p l e 2 46 s m args below meth c D (mW cI a) (kA a 15) (some (.int (bI r))) v2 ar2 H locs (F0 m 127 ls []) := by
    intro  v ar H locs ls hf hP hS hl
    unfold fX7_readAll_127 at hf
    refine lv_aload_n hx hb dX7_readAll_127 rfl (lv_at hl 0 rfl) ?_
    refine xg_M_16 C0 hP q_613 dX7_readAll_128 ?_
    refine lv_iload_n hx hb dX7_readAll_131 rfl (lv_at hl 1 rfl) ?_
    refine lv_icmp_ne (tgt := 139) hx hb dX7_readAll_132 (by decide) (fun c19 => ?_) (fun c19 => ?_)
    · have hf := kif_f c19 hf
      refine lv_iconst (v := (0 : Int32)) hx hb dX7_readAll_139 (by decide) ?_
      obtain ⟨rfl, rfl, rfl⟩ := kinj3 hf
      exact kret_z false rfl C0 hr hlk hP hS dX7_readAll_140
    · have hf := kif_t c19 hf
      refine lv_iconst (v := (1 : Int32)) hx hb dX7_readAll_135 (by decide) ?_
      refine lv_goto (tgt := 140) hx hb dX7_readAll_136 (by decide) ?_
      obtain ⟨rfl, rfl, rfl⟩ := kinj3 hf
      exact kret_z true rfl C0 hr hlk hP hS dX7_readAll_140
  have hB90 : ∀ (n : Nat), ∀ (v : kV) (ar : kR) (H : Heap) (locs : List Loc) (ls : Array Slot), fX7_readAll_90 p1 n v ar = some (r, v2, ar2) → va_P D vwCl (mW cI a v ar) H → va_S (kA a 15) s.heap H locs → lv_has ls 2 [(0, .ref (a 0)), (1, .int p1)] → kGo p l e 2 46 s m args below meth c D (mW cI a) (kA a 15) (some (.int (bI r))) v2 ar2 H locs (F0 m 90 ls []) := by
    intro  n
    induction n with
    | zero =>
      intro v ar H locs ls hf
      have hf : (none : Option (Bool × kV × kR)) = some (r, v2, ar2) := hf
      cases hf
    | succ n ih =>
      intro v ar H locs ls hf hP hS hl
      have hf : fX7_readAll_90b p1 (fX7_readAll_90 p1 n) v ar = some (r, v2, ar2) := hf
      unfold fX7_readAll_90b at hf
      refine lv_aload_n hx hb dX7_readAll_90 rfl (lv_at hl 0 rfl) ?_
      refine xg_M_18 C0 hP q_615 dX7_readAll_91 ?_
      refine lv_bipush (v := (6 : Int32)) hx hb dX7_readAll_94 (by decide) ?_
      refine lv_icmp_ge (tgt := 127) hx hb dX7_readAll_96 (by decide) (fun c18 => ?_) (fun c18 => ?_)
      · have hf := kif_t c18 hf
        exact hB127 _ _ _ _ _ hf hP hS (lv_sub hl [0, 1] rfl)
      · have hf := kif_f c18 hf
        refine lv_aload_n hx hb dX7_readAll_99 rfl (lv_at hl 0 rfl) ?_
        refine xg_M_16 C0 hP q_613 dX7_readAll_100 ?_
        refine lv_iload_n hx hb dX7_readAll_103 rfl (lv_at hl 1 rfl) ?_
        refine lv_icmp_ge (tgt := 127) hx hb dX7_readAll_104 (by decide) (fun c20 => ?_) (fun c20 => ?_)
        · have hf := kif_t c20 hf
          exact hB127 _ _ _ _ _ hf hP hS (lv_sub hl [0, 1] rfl)
        · have hf := kif_f c20 hf
          refine lv_aload_n hx hb dX7_readAll_107 rfl (lv_at hl 0 rfl) ?_
          refine lv_iload_n hx hb dX7_readAll_108 rfl (lv_at hl 1 rfl) ?_
          refine lv_bipush (v := (44 : Int32)) hx hb dX7_readAll_109 (by decide) ?_
          obtain ⟨r22, v23, ar24, e21, hf⟩ := kb3_s hf
          refine kcallV (As := [.int p1, .int (44 : Int32)]) (rest := []) C0 (cX7_isSign_c hap e21) q_719 kw_X7_isSign (xv_M C0.2 hP) hP hS ⟨Nat.le_of_ble_eq_true rfl, Nat.le_of_ble_eq_true rfl⟩ rfl hl.1 rfl (Nat.le_of_ble_eq_true rfl) dX7_readAll_111 (fun H locs hP hS => ?_)
          refine lv_if_eq (tgt := 125) hx hb dX7_readAll_114 (by decide) (fun c25 => ?_) (fun c25 => ?_)
          · have hf := kif_t c25 hf
            refine lv_iconst (v := (0 : Int32)) hx hb dX7_readAll_125 (by decide) ?_
            obtain ⟨rfl, rfl, rfl⟩ := kinj3 hf
            exact kret_z false rfl C0 hr hlk hP hS dX7_readAll_126
          · have hf := kif_f c25 hf
            refine lv_aload_n hx hb dX7_readAll_117 rfl (lv_at hl 0 rfl) ?_
            refine lv_iload_n hx hb dX7_readAll_118 rfl (lv_at hl 1 rfl) ?_
            obtain ⟨r27, v28, ar29, e26, hf⟩ := kb3_s hf
            refine kcallV (As := [.int p1]) (rest := []) C0 (cX7_readNetNext_c hap e26) q_727 kw_X7_readNetNext (xv_M C0.2 hP) hP hS ⟨Nat.le_of_ble_eq_true rfl, Nat.le_of_ble_eq_true rfl⟩ rfl hl.1 rfl (Nat.le_of_ble_eq_true rfl) dX7_readAll_119 (fun H locs hP hS => ?_)
            refine lv_if_ne (tgt := 90) hx hb dX7_readAll_122 (by decide) (fun c30 => ?_) (fun c30 => ?_)
            · have hf := kif_f c30 hf
              exact ih _ _ _ _ _ hf hP hS (lv_sub hl [0, 1] rfl)
            · have hf := kif_t c30 hf
              refine lv_iconst (v := (0 : Int32)) hx hb dX7_readAll_125 (by decide) ?_
              obtain ⟨rfl, rfl, rfl⟩ := kinj3 hf
              exact kret_z false rfl C0 hr hlk hP hS dX7_readAll_126
  have hB32 : ∀ (n : Nat), ∀ (v : kV) (ar : kR) (H : Heap) (locs : List Loc) (ls : Array Slot), fX7_readAll_32 p1 n v ar = some (r, v2, ar2) → va_P D vwCl (mW cI a v ar) H → va_S (kA a 15) s.heap H locs → lv_has ls 2 [(0, .ref (a 0)), (1, .int p1)] → kGo p l e 2 46 s m args below meth c D (mW cI a) (kA a 15) (some (.int (bI r))) v2 ar2 H locs (F0 m 32 ls []) := by
    intro  n
    induction n with
    | zero =>
      intro v ar H locs ls hf
      have hf : (none : Option (Bool × kV × kR)) = some (r, v2, ar2) := hf
      cases hf
    | succ n ih =>
      intro v ar H locs ls hf hP hS hl
      have hf : fX7_readAll_32b p1 (fX7_readAll_32 p1 n) v ar = some (r, v2, ar2) := hf
      unfold fX7_readAll_32b at hf
      refine lv_aload_n hx hb dX7_readAll_32 rfl (lv_at hl 0 rfl) ?_
      refine xg_M_17 C0 hP q_614 dX7_readAll_33 ?_
      refine lv_if_eq (tgt := 70) hx hb dX7_readAll_36 (by decide) (fun c6 => ?_) (fun c6 => ?_)
      · have hf := kif_t c6 hf
        exact hB70 _ ih _ _ _ _ _ hf hP hS (lv_sub hl [0, 1] rfl)
      · have hf := kif_f c6 hf
        refine lv_aload_n hx hb dX7_readAll_39 rfl (lv_at hl 0 rfl) ?_
        refine xg_M_17 C0 hP q_614 dX7_readAll_40 ?_
        refine lv_bipush (v := (7 : Int32)) hx hb dX7_readAll_43 (by decide) ?_
        refine lv_icmp_ge (tgt := 90) hx hb dX7_readAll_45 (by decide) (fun c17 => ?_) (fun c17 => ?_)
        · have hf := kif_t c17 hf
          exact hB90 _ _ _ _ _ _ hf hP hS (lv_sub hl [0, 1] rfl)
        · have hf := kif_f c17 hf
          refine lv_aload_n hx hb dX7_readAll_48 rfl (lv_at hl 0 rfl) ?_
          refine xg_M_16 C0 hP q_613 dX7_readAll_49 ?_
          refine lv_iload_n hx hb dX7_readAll_52 rfl (lv_at hl 1 rfl) ?_
          refine lv_icmp_ge (tgt := 90) hx hb dX7_readAll_53 (by decide) (fun c31 => ?_) (fun c31 => ?_)
          · have hf := kif_t c31 hf
            exact hB90 _ _ _ _ _ _ hf hP hS (lv_sub hl [0, 1] rfl)
          · have hf := kif_f c31 hf
            refine lv_aload_n hx hb dX7_readAll_56 rfl (lv_at hl 0 rfl) ?_
            refine xg_M_4 C0 hP q_601 dX7_readAll_57 ?_
            refine lv_aload_n hx hb dX7_readAll_60 rfl (lv_at hl 0 rfl) ?_
            refine xg_M_16 C0 hP q_613 dX7_readAll_61 ?_
            obtain ⟨g32, hf⟩ := kgd hf
            refine ml_cells C0 hP g32 dX7_readAll_64 ?_
            refine lv_bipush (v := (59 : Int32)) hx hb dX7_readAll_65 (by decide) ?_
            refine lv_icmp_ne (tgt := 90) hx hb dX7_readAll_67 (by decide) (fun c33 => ?_) (fun c33 => ?_)
            · have hf := kif_f c33 hf
              exact hB90 _ _ _ _ _ _ hf hP hS (lv_sub hl [0, 1] rfl)
            · have hf := kif_t c33 hf
              exact hB70 _ ih _ _ _ _ _ hf hP hS (lv_sub hl [0, 1] rfl)
  unfold fX7_readAll at hf
  refine lv_aload_n hx hb dX7_readAll_0 rfl (lv_at hl 0 rfl) ?_
  refine lv_iconst (v := (0 : Int32)) hx hb dX7_readAll_1 (by decide) ?_
  refine xp_M_17 C0 hap hP hS q_614 dX7_readAll_2 (fun H locs hP hS => ?_)
  refine lv_aload_n hx hb dX7_readAll_5 rfl (lv_at hl 0 rfl) ?_
  refine lv_iconst (v := (0 : Int32)) hx hb dX7_readAll_6 (by decide) ?_
  refine xp_M_18 C0 hap hP hS q_615 dX7_readAll_7 (fun H locs hP hS => ?_)
  refine lv_aload_n hx hb dX7_readAll_10 rfl (lv_at hl 0 rfl) ?_
  refine lv_iconst (v := (0 : Int32)) hx hb dX7_readAll_11 (by decide) ?_
  refine xp_M_19 C0 hap hP hS q_616 dX7_readAll_12 (fun H locs hP hS => ?_)
  refine lv_aload_n hx hb dX7_readAll_15 rfl (lv_at hl 0 rfl) ?_
  refine lv_iconst (v := (0 : Int32)) hx hb dX7_readAll_16 (by decide) ?_
  refine xp_M_20 C0 hap hP hS q_617 dX7_readAll_17 (fun H locs hP hS => ?_)
  refine lv_aload_n hx hb dX7_readAll_20 rfl (lv_at hl 0 rfl) ?_
  refine lv_iload_n hx hb dX7_readAll_21 rfl (lv_at hl 1 rfl) ?_
  refine lv_bipush (v := (104 : Int32)) hx hb dX7_readAll_22 (by decide) ?_
  obtain ⟨r2, v3, ar4, e1, hf⟩ := kb3_s hf
  refine kcallV (As := [.int p1, .int (104 : Int32)]) (rest := []) C0 (cX7_isSign_c hap e1) q_719 kw_X7_isSign (xv_M C0.2 hP) hP hS ⟨Nat.le_of_ble_eq_true rfl, Nat.le_of_ble_eq_true rfl⟩ rfl hl.1 rfl (Nat.le_of_ble_eq_true rfl) dX7_readAll_24 (fun H locs hP hS => ?_)
  refine lv_if_ne (tgt := 32) hx hb dX7_readAll_27 (by decide) (fun c5 => ?_) (fun c5 => ?_)
  · have hf := kif_f c5 hf
    exact hB32 _ _ _ _ _ _ hf hP hS (lv_sub hl [0, 1] rfl)
  · have hf := kif_t c5 hf
    refine lv_iconst (v := (0 : Int32)) hx hb dX7_readAll_30 (by decide) ?_
    obtain ⟨rfl, rfl, rfl⟩ := kinj3 hf
    exact kret_z false rfl C0 hr hlk hP hS dX7_readAll_31
