set_option maxHeartbeats 4000000 in
set_option maxRecDepth 100000 in
theorem cX7_sheet_c {l : Launch} {D : va_G} {cI cS : ClassId} {a : Nat → Nat} (hap : kAp a 15) {v : kV} {ar : kR} {p1 : Int32} {p2 : Int32} {p3 : Int32} {r : Int32} {v2 : kV} {ar2 : kR} (hf : fX7_sheet v ar p1 p2 p3 = some (r, v2, ar2)) : kMet l D cI cS (mW cI a) (kA a 15) yX7_sheet cX7_sheet 5 (some .int) 2 42 [.ref (a 0), .int p1, .int p2, .int p3] v ar (some (.int r)) v2 ar2 := by
  refine kstart (by decide) (Nat.le_of_ble_eq_true rfl) ?_
  intro p e s m args below meth c ls C0 hr hlk hl hP hS
  have C0 : kC p s m c args cX7_sheet 5 RX7 D cI cS := C0
  have hx := C0.1.1
  have hb := C0.1.2.1
  have hl : lv_has ls 5 [(0, .ref (a 0)), (1, .int p1), (2, .int p2), (3, .int p3)] := hl
  have hB57 : ∀ (n : Nat), ∀ (x4 : Int32) (v : kV) (ar : kR) (H : Heap) (locs : List Loc) (ls : Array Slot), fX7_sheet_57 p1 p2 p3 n x4 v ar = some (r, v2, ar2) → va_P D vwCl (mW cI a v ar) H → va_S (kA a 15) s.heap H locs → lv_has ls 5 [(0, .ref (a 0)), (1, .int p1), (4, .int x4)] → kGo p l e 2 42 s m args below meth c D (mW cI a) (kA a 15) (some (.int r)) v2 ar2 H locs (F0 m 57 ls []) := by
    intro  n
    induction n with
    | zero =>
      intro x4 v ar H locs ls hf
      have hf : (none : Option (Int32 × kV × kR)) = some (r, v2, ar2) := hf
      cases hf
    | succ n ih =>
      intro x4 v ar H locs ls hf hP hS hl
      have hf : fX7_sheet_57b p1 p2 p3 (fX7_sheet_57 p1 p2 p3 n) x4 v ar = some (r, v2, ar2) := hf
      unfold fX7_sheet_57b at hf
      refine lv_iload hx hb dX7_sheet_57 (lv_at hl 2 rfl) ?_
      refine lv_bipush (v := (60 : Int32)) hx hb dX7_sheet_59 (by decide) ?_
      refine lv_icmp_ge (tgt := 83) hx hb dX7_sheet_61 (by decide) (fun c11 => ?_) (fun c11 => ?_)
      · have hf := kif_t c11 hf
        refine lv_iconst (v := (1 : Int32)) hx hb dX7_sheet_83 (by decide) ?_
        obtain ⟨rfl, rfl, rfl⟩ := kinj3 hf
        exact kret_i C0 hr hlk hP hS dX7_sheet_84
      · have hf := kif_f c11 hf
        refine lv_aload_n hx hb dX7_sheet_64 rfl (lv_at hl 0 rfl) ?_
        refine xg_M_4 C0 hP q_601 dX7_sheet_65 ?_
        refine lv_bipush (v := (60 : Int32)) hx hb dX7_sheet_68 (by decide) ?_
        refine lv_iload_n hx hb dX7_sheet_70 rfl (lv_at hl 1 rfl) ?_
        refine lv_imul hx hb dX7_sheet_71 ?_
        refine lv_iload hx hb dX7_sheet_72 (lv_at hl 2 rfl) ?_
        refine lv_iadd hx hb dX7_sheet_74 ?_
        refine lv_iconst (v := (0 : Int32)) hx hb dX7_sheet_75 (by decide) ?_
        obtain ⟨g12, hf⟩ := kgd hf
        refine mt_cells C0 hap hP hS g12 dX7_sheet_76 (fun H locs hP hS => ?_)
        refine lv_iinc (v := (x4 + (1 : Int32))) (lv' := [(4, .int (x4 + (1 : Int32))), (0, .ref (a 0)), (1, .int p1)]) hx hb dX7_sheet_77 hl (k := 2) rfl rfl (by decide) rfl (fun ls hl => ?_)
        refine lv_goto (tgt := 57) hx hb dX7_sheet_80 (by decide) ?_
        exact ih _ _ _ _ _ _ hf hP hS (lv_sub hl [1, 2, 0] rfl)
  unfold fX7_sheet at hf
  refine lv_aload_n hx hb dX7_sheet_0 rfl (lv_at hl 0 rfl) ?_
  refine lv_iconst (v := (0 : Int32)) hx hb dX7_sheet_1 (by decide) ?_
  refine xp_M_0 C0 hap hP hS q_597 dX7_sheet_2 (fun H locs hP hS => ?_)
  refine lv_iload_n hx hb dX7_sheet_5 rfl (lv_at hl 1 rfl) ?_
  obtain ⟨r2, e1, hf⟩ := kb1_s hf
  refine kcallT (As := [.int p1]) (rest := []) C0 (cX7_isSheet_c hap e1) q_698 kw_X7_isSheet hP hS ⟨Nat.le_of_ble_eq_true rfl, Nat.le_of_ble_eq_true rfl⟩ rfl hl.1 rfl (Nat.le_of_ble_eq_true rfl) dX7_sheet_6 (fun H locs hP hS => ?_)
  refine lv_if_ne (tgt := 14) hx hb dX7_sheet_9 (by decide) (fun c3 => ?_) (fun c3 => ?_)
  · have hf := kif_f c3 hf
    refine lv_iload_n hx hb dX7_sheet_14 rfl (lv_at hl 2 rfl) ?_
    obtain ⟨r5, e4, hf⟩ := kb1_s hf
    refine kcallT (As := [.int p2]) (rest := []) C0 (cX7_isSort_c hap e4) q_704 kw_X7_isSort hP hS ⟨Nat.le_of_ble_eq_true rfl, Nat.le_of_ble_eq_true rfl⟩ rfl hl.1 rfl (Nat.le_of_ble_eq_true rfl) dX7_sheet_15 (fun H locs hP hS => ?_)
    refine lv_if_eq (tgt := 27) hx hb dX7_sheet_18 (by decide) (fun c6 => ?_) (fun c6 => ?_)
    · have hf := kif_t c6 hf
      refine lv_bipush (v := (-2 : Int32)) hx hb dX7_sheet_27 (by decide) ?_
      obtain ⟨rfl, rfl, rfl⟩ := kinj3 hf
      exact kret_i C0 hr hlk hP hS dX7_sheet_29
    · have hf := kif_f c6 hf
      refine lv_iload_n hx hb dX7_sheet_21 rfl (lv_at hl 3 rfl) ?_
      refine lv_bipush (v := (60 : Int32)) hx hb dX7_sheet_22 (by decide) ?_
      refine lv_icmp_le (tgt := 30) hx hb dX7_sheet_24 (by decide) (fun c7 => ?_) (fun c7 => ?_)
      · have hf := kif_t c7 hf
        refine lv_iload_n hx hb dX7_sheet_30 rfl (lv_at hl 3 rfl) ?_
        refine lv_if_ge (tgt := 40) hx hb dX7_sheet_31 (by decide) (fun c8 => ?_) (fun c8 => ?_)
        · have hf := kif_t c8 hf
          refine lv_aload_n hx hb dX7_sheet_40 rfl (lv_at hl 0 rfl) ?_
          refine xg_M_2 C0 hP q_599 dX7_sheet_41 ?_
          refine lv_iload_n hx hb dX7_sheet_44 rfl (lv_at hl 1 rfl) ?_
          refine lv_iload_n hx hb dX7_sheet_45 rfl (lv_at hl 2 rfl) ?_
          obtain ⟨g9, hf⟩ := kgd hf
          refine mt_sorts C0 hap hP hS g9 dX7_sheet_46 (fun H locs hP hS => ?_)
          refine lv_aload_n hx hb dX7_sheet_47 rfl (lv_at hl 0 rfl) ?_
          refine xg_M_3 C0 hP q_600 dX7_sheet_48 ?_
          refine lv_iload_n hx hb dX7_sheet_51 rfl (lv_at hl 1 rfl) ?_
          refine lv_iload_n hx hb dX7_sheet_52 rfl (lv_at hl 3 rfl) ?_
          obtain ⟨g10, hf⟩ := kgd hf
          refine mt_sheetLong C0 hap hP hS g10 dX7_sheet_53 (fun H locs hP hS => ?_)
          refine lv_iconst (v := (0 : Int32)) hx hb dX7_sheet_54 (by decide) ?_
          refine lv_istore (lv' := [(4, .int (0 : Int32)), (0, .ref (a 0)), (1, .int p1), (2, .int p2), (3, .int p3)]) hx hb dX7_sheet_55 hl (by decide) rfl (fun ls hl => ?_)
          exact hB57 _ _ _ _ _ _ _ hf hP hS (lv_sub hl [1, 2, 0] rfl)
        · have hf := kif_f c8 hf
          refine lv_aload_n hx hb dX7_sheet_34 rfl (lv_at hl 0 rfl) ?_
          refine lv_iconst (v := (4 : Int32)) hx hb dX7_sheet_35 (by decide) ?_
          obtain ⟨r14, v15, ar16, e13, hf⟩ := kb3_s hf
          refine kcallV (As := [.int (4 : Int32)]) (rest := []) C0 (cX7_fails_c hap e13) q_711 kw_X7_fails (xv_M C0.2 hP) hP hS ⟨Nat.le_of_ble_eq_true rfl, Nat.le_of_ble_eq_true rfl⟩ rfl hl.1 rfl (Nat.le_of_ble_eq_true rfl) dX7_sheet_36 (fun H locs hP hS => ?_)
          obtain ⟨rfl, rfl, rfl⟩ := kinj3 hf
          exact kret_i C0 hr hlk hP hS dX7_sheet_39
      · have hf := kif_f c7 hf
        refine lv_bipush (v := (-2 : Int32)) hx hb dX7_sheet_27 (by decide) ?_
        obtain ⟨rfl, rfl, rfl⟩ := kinj3 hf
        exact kret_i C0 hr hlk hP hS dX7_sheet_29
  · have hf := kif_t c3 hf
    refine lv_iconst (v := (-1 : Int32)) hx hb dX7_sheet_12 (by decide) ?_
    obtain ⟨rfl, rfl, rfl⟩ := kinj3 hf
    exact kret_i C0 hr hlk hP hS dX7_sheet_13
set_option maxHeartbeats 4000000 in
set_option maxRecDepth 100000 in
theorem cX7_lose_c {l : Launch} {D : va_G} {cI cS : ClassId} {a : Nat → Nat} (hap : kAp a 15) {v : kV} {ar : kR} {p1 : Int32} {r : Int32} {v2 : kV} {ar2 : kR} (hf : fX7_lose v ar p1 = some (r, v2, ar2)) : kMet l D cI cS (mW cI a) (kA a 15) yX7_lose cX7_lose 3 (some .int) 2 42 [.ref (a 0), .int p1] v ar (some (.int r)) v2 ar2 := by
  refine kstart (by decide) (Nat.le_of_ble_eq_true rfl) ?_
  intro p e s m args below meth c ls C0 hr hlk hl hP hS
  have C0 : kC p s m c args cX7_lose 3 RX7 D cI cS := C0
  have hx := C0.1.1
  have hb := C0.1.2.1
  have hl : lv_has ls 3 [(0, .ref (a 0)), (1, .int p1)] := hl
  have hB25 : ∀ (s0 : Int32) (v : kV) (ar : kR) (H : Heap) (locs : List Loc) (ls : Array Slot), fX7_lose_25 p1 s0 v ar = some (r, v2, ar2) → va_P D vwCl (mW cI a v ar) H → va_S (kA a 15) s.heap H locs → lv_has ls 3 [(0, .ref (a 0)), (1, .int p1)] → kGo p l e 2 42 s m args below meth c D (mW cI a) (kA a 15) (some (.int r)) v2 ar2 H locs (F0 m 25 ls [.int s0]) := by
    intro  s0 v ar H locs ls hf hP hS hl
    unfold fX7_lose_25 at hf
    refine lv_istore_n (lv' := [(2, .int s0), (0, .ref (a 0)), (1, .int p1)]) hx hb dX7_lose_25 rfl hl (by decide) rfl (fun ls hl => ?_)
    refine lv_aload_n hx hb dX7_lose_26 rfl (lv_at hl 1 rfl) ?_
    refine xg_M_2 C0 hP q_599 dX7_lose_27 ?_
    refine lv_iload_n hx hb dX7_lose_30 rfl (lv_at hl 2 rfl) ?_
    refine lv_bipush (v := (-9 : Int32)) hx hb dX7_lose_31 (by decide) ?_
    obtain ⟨g6, hf⟩ := kgd hf
    refine mt_sorts C0 hap hP hS g6 dX7_lose_33 (fun H locs hP hS => ?_)
    refine lv_iload_n hx hb dX7_lose_34 rfl (lv_at hl 0 rfl) ?_
    obtain ⟨rfl, rfl, rfl⟩ := kinj3 hf
    exact kret_i C0 hr hlk hP hS dX7_lose_35
  unfold fX7_lose at hf
  refine lv_iload_n hx hb dX7_lose_0 rfl (lv_at hl 1 rfl) ?_
  obtain ⟨r2, e1, hf⟩ := kb1_s hf
  refine kcallT (As := [.int p1]) (rest := []) C0 (cX7_isSheet_c hap e1) q_698 kw_X7_isSheet hP hS ⟨Nat.le_of_ble_eq_true rfl, Nat.le_of_ble_eq_true rfl⟩ rfl hl.1 rfl (Nat.le_of_ble_eq_true rfl) dX7_lose_1 (fun H locs hP hS => ?_)
  refine lv_if_ne (tgt := 9) hx hb dX7_lose_4 (by decide) (fun c3 => ?_) (fun c3 => ?_)
  · have hf := kif_f c3 hf
    refine lv_aload_n hx hb dX7_lose_9 rfl (lv_at hl 0 rfl) ?_
    refine xg_M_2 C0 hP q_599 dX7_lose_10 ?_
    refine lv_iload_n hx hb dX7_lose_13 rfl (lv_at hl 1 rfl) ?_
    obtain ⟨g4, hf⟩ := kgd hf
    refine ml_sorts C0 hP g4 dX7_lose_14 ?_
    refine lv_bipush (v := (-9 : Int32)) hx hb dX7_lose_15 (by decide) ?_
    refine lv_icmp_ne (tgt := 24) hx hb dX7_lose_17 (by decide) (fun c5 => ?_) (fun c5 => ?_)
    · have hf := kif_f c5 hf
      refine lv_iconst (v := (1 : Int32)) hx hb dX7_lose_24 (by decide) ?_
      exact hB25 _ _ _ _ _ _ hf hP hS (lv_sub hl [0, 1] rfl)
    · have hf := kif_t c5 hf
      refine lv_iconst (v := (0 : Int32)) hx hb dX7_lose_20 (by decide) ?_
      refine lv_goto (tgt := 25) hx hb dX7_lose_21 (by decide) ?_
      exact hB25 _ _ _ _ _ _ hf hP hS (lv_sub hl [0, 1] rfl)
  · have hf := kif_t c3 hf
    refine lv_iconst (v := (-1 : Int32)) hx hb dX7_lose_7 (by decide) ?_
    obtain ⟨rfl, rfl, rfl⟩ := kinj3 hf
    exact kret_i C0 hr hlk hP hS dX7_lose_8
set_option maxHeartbeats 4000000 in
set_option maxRecDepth 100000 in
theorem cX7_put_c {l : Launch} {D : va_G} {cI cS : ClassId} {a : Nat → Nat} (hap : kAp a 15) {v : kV} {ar : kR} {p1 : Int32} {p2 : Int32} {p3 : Int32} {r : Int32} {v2 : kV} {ar2 : kR} (hf : fX7_put v ar p1 p2 p3 = some (r, v2, ar2)) : kMet l D cI cS (mW cI a) (kA a 15) yX7_put cX7_put 4 (some .int) 2 42 [.ref (a 0), .int p1, .int p2, .int p3] v ar (some (.int r)) v2 ar2 := by
  refine kstart (by decide) (Nat.le_of_ble_eq_true rfl) ?_
  intro p e s m args below meth c ls C0 hr hlk hl hP hS
  have C0 : kC p s m c args cX7_put 4 RX7 D cI cS := C0
  have hx := C0.1.1
  have hb := C0.1.2.1
  have hl : lv_has ls 4 [(0, .ref (a 0)), (1, .int p1), (2, .int p2), (3, .int p3)] := hl
  have hB93 : ∀ (s0 : Int32) (s1 : Int32) (v : kV) (ar : kR) (H : Heap) (locs : List Loc) (ls : Array Slot), fX7_put_93 p1 p2 p3 s0 s1 v ar = some (r, v2, ar2) → va_P D vwCl (mW cI a v ar) H → va_S (kA a 15) s.heap H locs → lv_has ls 4 [] → kGo p l e 2 42 s m args below meth c D (mW cI a) (kA a 15) (some (.int r)) v2 ar2 H locs (F0 m 93 ls [.int s0, .int s1, .ref (a (1+2))]) := by
    intro  s0 s1 v ar H locs ls hf hP hS hl
    unfold fX7_put_93 at hf
    obtain ⟨g14, hf⟩ := kgd hf
    refine mt_cells C0 hap hP hS g14 dX7_put_93 (fun H locs hP hS => ?_)
    refine lv_iconst (v := (1 : Int32)) hx hb dX7_put_94 (by decide) ?_
    obtain ⟨rfl, rfl, rfl⟩ := kinj3 hf
    exact kret_i C0 hr hlk hP hS dX7_put_95
  unfold fX7_put at hf
  refine lv_aload_n hx hb dX7_put_0 rfl (lv_at hl 0 rfl) ?_
  refine lv_iconst (v := (0 : Int32)) hx hb dX7_put_1 (by decide) ?_
  refine xp_M_0 C0 hap hP hS q_597 dX7_put_2 (fun H locs hP hS => ?_)
  refine lv_iload_n hx hb dX7_put_5 rfl (lv_at hl 1 rfl) ?_
  obtain ⟨r2, e1, hf⟩ := kb1_s hf
  refine kcallT (As := [.int p1]) (rest := []) C0 (cX7_isSheet_c hap e1) q_698 kw_X7_isSheet hP hS ⟨Nat.le_of_ble_eq_true rfl, Nat.le_of_ble_eq_true rfl⟩ rfl hl.1 rfl (Nat.le_of_ble_eq_true rfl) dX7_put_6 (fun H locs hP hS => ?_)
  refine lv_if_ne (tgt := 14) hx hb dX7_put_9 (by decide) (fun c3 => ?_) (fun c3 => ?_)
  · have hf := kif_f c3 hf
    refine lv_aload_n hx hb dX7_put_14 rfl (lv_at hl 0 rfl) ?_
    refine xg_M_2 C0 hP q_599 dX7_put_15 ?_
    refine lv_iload_n hx hb dX7_put_18 rfl (lv_at hl 1 rfl) ?_
    obtain ⟨g4, hf⟩ := kgd hf
    refine ml_sorts C0 hP g4 dX7_put_19 ?_
    refine lv_bipush (v := (-9 : Int32)) hx hb dX7_put_20 (by decide) ?_
    refine lv_icmp_ne (tgt := 31) hx hb dX7_put_22 (by decide) (fun c5 => ?_) (fun c5 => ?_)
    · have hf := kif_f c5 hf
      refine lv_iload_n hx hb dX7_put_31 rfl (lv_at hl 2 rfl) ?_
      refine lv_iconst (v := (0 : Int32)) hx hb dX7_put_32 (by decide) ?_
      refine lv_aload_n hx hb dX7_put_33 rfl (lv_at hl 0 rfl) ?_
      refine xg_M_3 C0 hP q_600 dX7_put_34 ?_
      refine lv_iload_n hx hb dX7_put_37 rfl (lv_at hl 1 rfl) ?_
      obtain ⟨g6, hf⟩ := kgd hf
      refine ml_sheetLong C0 hP g6 dX7_put_38 ?_
      refine lv_iconst (v := (1 : Int32)) hx hb dX7_put_39 (by decide) ?_
      refine lv_isub hx hb dX7_put_40 ?_
      obtain ⟨r8, e7, hf⟩ := kb1_s hf
      refine kcallT (As := [.int p2, .int (0 : Int32), .int ((ar (1) p1.toNatClampNeg) - (1 : Int32))]) (rest := []) C0 (cX7_within_c hap e7) q_701 kw_X7_within hP hS ⟨Nat.le_of_ble_eq_true rfl, Nat.le_of_ble_eq_true rfl⟩ rfl hl.1 rfl (Nat.le_of_ble_eq_true rfl) dX7_put_41 (fun H locs hP hS => ?_)
      refine lv_if_ne (tgt := 53) hx hb dX7_put_44 (by decide) (fun c9 => ?_) (fun c9 => ?_)
      · have hf := kif_f c9 hf
        refine lv_aload_n hx hb dX7_put_53 rfl (lv_at hl 0 rfl) ?_
        refine xg_M_4 C0 hP q_601 dX7_put_54 ?_
        refine lv_bipush (v := (60 : Int32)) hx hb dX7_put_57 (by decide) ?_
        refine lv_iload_n hx hb dX7_put_59 rfl (lv_at hl 1 rfl) ?_
        refine lv_imul hx hb dX7_put_60 ?_
        refine lv_iload_n hx hb dX7_put_61 rfl (lv_at hl 2 rfl) ?_
        refine lv_iadd hx hb dX7_put_62 ?_
        refine lv_aload_n hx hb dX7_put_63 rfl (lv_at hl 0 rfl) ?_
        refine xg_M_2 C0 hP q_599 dX7_put_64 ?_
        refine lv_iload_n hx hb dX7_put_67 rfl (lv_at hl 1 rfl) ?_
        obtain ⟨g10, hf⟩ := kgd hf
        refine ml_sorts C0 hP g10 dX7_put_68 ?_
        refine lv_if_ne (tgt := 77) hx hb dX7_put_69 (by decide) (fun c11 => ?_) (fun c11 => ?_)
        · have hf := kif_f c11 hf
          refine lv_aload_n hx hb dX7_put_77 rfl (lv_at hl 0 rfl) ?_
          refine xg_M_2 C0 hP q_599 dX7_put_78 ?_
          refine lv_iload_n hx hb dX7_put_81 rfl (lv_at hl 1 rfl) ?_
          obtain ⟨g12, hf⟩ := kgd hf
          refine ml_sorts C0 hP g12 dX7_put_82 ?_
          refine lv_iconst (v := (1 : Int32)) hx hb dX7_put_83 (by decide) ?_
          refine lv_icmp_ne (tgt := 92) hx hb dX7_put_84 (by decide) (fun c13 => ?_) (fun c13 => ?_)
          · have hf := kif_f c13 hf
            refine lv_iload_n hx hb dX7_put_92 rfl (lv_at hl 3 rfl) ?_
            exact hB93 _ _ _ _ _ _ _ hf hP hS (lv_sub hl [] rfl)
          · have hf := kif_t c13 hf
            refine lv_iload_n hx hb dX7_put_87 rfl (lv_at hl 3 rfl) ?_
            refine lv_i2s (v := (p3.toInt16.toInt32)) hx hb dX7_put_88 rfl ?_
            refine lv_goto (tgt := 93) hx hb dX7_put_89 (by decide) ?_
            exact hB93 _ _ _ _ _ _ _ hf hP hS (lv_sub hl [] rfl)
        · have hf := kif_t c11 hf
          refine lv_iload_n hx hb dX7_put_72 rfl (lv_at hl 3 rfl) ?_
          refine lv_i2b (v := (p3.toInt8.toInt32)) hx hb dX7_put_73 rfl ?_
          refine lv_goto (tgt := 93) hx hb dX7_put_74 (by decide) ?_
          exact hB93 _ _ _ _ _ _ _ hf hP hS (lv_sub hl [] rfl)
      · have hf := kif_t c9 hf
        refine lv_aload_n hx hb dX7_put_47 rfl (lv_at hl 0 rfl) ?_
        refine lv_iconst (v := (3 : Int32)) hx hb dX7_put_48 (by decide) ?_
        obtain ⟨r16, v17, ar18, e15, hf⟩ := kb3_s hf
        refine kcallV (As := [.int (3 : Int32)]) (rest := []) C0 (cX7_fails_c hap e15) q_711 kw_X7_fails (xv_M C0.2 hP) hP hS ⟨Nat.le_of_ble_eq_true rfl, Nat.le_of_ble_eq_true rfl⟩ rfl hl.1 rfl (Nat.le_of_ble_eq_true rfl) dX7_put_49 (fun H locs hP hS => ?_)
        obtain ⟨rfl, rfl, rfl⟩ := kinj3 hf
        exact kret_i C0 hr hlk hP hS dX7_put_52
    · have hf := kif_t c5 hf
      refine lv_aload_n hx hb dX7_put_25 rfl (lv_at hl 0 rfl) ?_
      refine lv_iconst (v := (1 : Int32)) hx hb dX7_put_26 (by decide) ?_
      obtain ⟨r20, v21, ar22, e19, hf⟩ := kb3_s hf
      refine kcallV (As := [.int (1 : Int32)]) (rest := []) C0 (cX7_fails_c hap e19) q_711 kw_X7_fails (xv_M C0.2 hP) hP hS ⟨Nat.le_of_ble_eq_true rfl, Nat.le_of_ble_eq_true rfl⟩ rfl hl.1 rfl (Nat.le_of_ble_eq_true rfl) dX7_put_27 (fun H locs hP hS => ?_)
      obtain ⟨rfl, rfl, rfl⟩ := kinj3 hf
      exact kret_i C0 hr hlk hP hS dX7_put_30
  · have hf := kif_t c3 hf
    refine lv_iconst (v := (-1 : Int32)) hx hb dX7_put_12 (by decide) ?_
    obtain ⟨rfl, rfl, rfl⟩ := kinj3 hf
    exact kret_i C0 hr hlk hP hS dX7_put_13
set_option maxHeartbeats 4000000 in
set_option maxRecDepth 100000 in
theorem cX7_lost_c {l : Launch} {D : va_G} {cI cS : ClassId} {a : Nat → Nat} (hap : kAp a 15) {v : kV} {ar : kR} {p1 : Int32} {r : Int64} {v2 : kV} {ar2 : kR} (hf : fX7_lost v ar p1 = some (r, v2, ar2)) : kMet l D cI cS (mW cI a) (kA a 15) yX7_lost cX7_lost 2 (some .long) 0 0 [.ref (a 0), .int p1] v ar (some (.long r)) v2 ar2 := by
  refine kstart (by decide) (Nat.le_of_ble_eq_true rfl) ?_
  intro p e s m args below meth c ls C0 hr hlk hl hP hS
  have C0 : kC p s m c args cX7_lost 2 RX7 D cI cS := C0
  have hx := C0.1.1
  have hb := C0.1.2.1
  have hl : lv_has ls 2 [(0, .ref (a 0)), (1, .int p1)] := hl
  unfold fX7_lost at hf
  refine lv_aload_n hx hb dX7_lost_0 rfl (lv_at hl 0 rfl) ?_
  refine lv_iload_n hx hb dX7_lost_1 rfl (lv_at hl 1 rfl) ?_
  refine xp_M_0 C0 hap hP hS q_597 dX7_lost_2 (fun H locs hP hS => ?_)
  refine lv_ldc2 (v := (-9223372036854775808 : Int64)) hx hb C0.1.2.2.2.1 (C0.1.2.2.2.2 _ q_898) dX7_lost_5 ?_
  obtain ⟨rfl, rfl, rfl⟩ := kinj3 hf
  exact kret_l C0 hr hlk hP hS dX7_lost_8
set_option maxHeartbeats 4000000 in
set_option maxRecDepth 100000 in
theorem cX7_cell_c {l : Launch} {D : va_G} {cI cS : ClassId} {a : Nat → Nat} (hap : kAp a 15) {v : kV} {ar : kR} {p1 : Int32} {p2 : Int32} {p3 : Int32} {r : Int64} {v2 : kV} {ar2 : kR} (hf : fX7_cell v ar p1 p2 p3 = some (r, v2, ar2)) : kMet l D cI cS (mW cI a) (kA a 15) yX7_cell cX7_cell 4 (some .long) 2 42 [.ref (a 0), .int p1, .int p2, .int p3] v ar (some (.long r)) v2 ar2 := by
  refine kstart (by decide) (Nat.le_of_ble_eq_true rfl) ?_
  intro p e s m args below meth c ls C0 hr hlk hl hP hS
  have C0 : kC p s m c args cX7_cell 4 RX7 D cI cS := C0
  have hx := C0.1.1
  have hb := C0.1.2.1
  have hl : lv_has ls 4 [(0, .ref (a 0)), (1, .int p1), (2, .int p2), (3, .int p3)] := hl
  have hB19 : ∀ (v : kV) (ar : kR) (H : Heap) (locs : List Loc) (ls : Array Slot), fX7_cell_19 p1 p2 p3 v ar = some (r, v2, ar2) → va_P D vwCl (mW cI a v ar) H → va_S (kA a 15) s.heap H locs → lv_has ls 4 [] → kGo p l e 2 42 s m args below meth c D (mW cI a) (kA a 15) (some (.long r)) v2 ar2 H locs (F0 m 19 ls []) := by
    intro  v ar H locs ls hf hP hS hl
    unfold fX7_cell_19 at hf
    refine lv_ldc2 (v := (-9223372036854775808 : Int64)) hx hb C0.1.2.2.2.1 (C0.1.2.2.2.2 _ q_898) dX7_cell_19 ?_
    obtain ⟨rfl, rfl, rfl⟩ := kinj3 hf
    exact kret_l C0 hr hlk hP hS dX7_cell_22
  have hB50 : ∀ (v : kV) (ar : kR) (H : Heap) (locs : List Loc) (ls : Array Slot), fX7_cell_50 p1 p2 p3 v ar = some (r, v2, ar2) → va_P D vwCl (mW cI a v ar) H → va_S (kA a 15) s.heap H locs → lv_has ls 4 [(0, .ref (a 0)), (1, .int p1), (2, .int p2)] → kGo p l e 2 42 s m args below meth c D (mW cI a) (kA a 15) (some (.long r)) v2 ar2 H locs (F0 m 50 ls []) := by
    intro  v ar H locs ls hf hP hS hl
    unfold fX7_cell_50 at hf
    refine lv_aload_n hx hb dX7_cell_50 rfl (lv_at hl 0 rfl) ?_
    refine xg_M_2 C0 hP q_599 dX7_cell_51 ?_
    refine lv_iload_n hx hb dX7_cell_54 rfl (lv_at hl 1 rfl) ?_
    obtain ⟨g9, hf⟩ := kgd hf
    refine ml_sorts C0 hP g9 dX7_cell_55 ?_
    refine lv_bipush (v := (-9 : Int32)) hx hb dX7_cell_56 (by decide) ?_
    refine lv_icmp_ne (tgt := 67) hx hb dX7_cell_58 (by decide) (fun c10 => ?_) (fun c10 => ?_)
    · have hf := kif_f c10 hf
      refine lv_iload_n hx hb dX7_cell_67 rfl (lv_at hl 2 rfl) ?_
      refine lv_iconst (v := (0 : Int32)) hx hb dX7_cell_68 (by decide) ?_
      refine lv_aload_n hx hb dX7_cell_69 rfl (lv_at hl 0 rfl) ?_
      refine xg_M_3 C0 hP q_600 dX7_cell_70 ?_
      refine lv_iload_n hx hb dX7_cell_73 rfl (lv_at hl 1 rfl) ?_
      obtain ⟨g11, hf⟩ := kgd hf
      refine ml_sheetLong C0 hP g11 dX7_cell_74 ?_
      refine lv_iconst (v := (1 : Int32)) hx hb dX7_cell_75 (by decide) ?_
      refine lv_isub hx hb dX7_cell_76 ?_
      obtain ⟨r13, e12, hf⟩ := kb1_s hf
      refine kcallT (As := [.int p2, .int (0 : Int32), .int ((ar (1) p1.toNatClampNeg) - (1 : Int32))]) (rest := []) C0 (cX7_within_c hap e12) q_701 kw_X7_within hP hS ⟨Nat.le_of_ble_eq_true rfl, Nat.le_of_ble_eq_true rfl⟩ rfl hl.1 rfl (Nat.le_of_ble_eq_true rfl) dX7_cell_77 (fun H locs hP hS => ?_)
      refine lv_if_ne (tgt := 89) hx hb dX7_cell_80 (by decide) (fun c14 => ?_) (fun c14 => ?_)
      · have hf := kif_f c14 hf
        refine lv_aload_n hx hb dX7_cell_89 rfl (lv_at hl 0 rfl) ?_
        refine xg_M_4 C0 hP q_601 dX7_cell_90 ?_
        refine lv_bipush (v := (60 : Int32)) hx hb dX7_cell_93 (by decide) ?_
        refine lv_iload_n hx hb dX7_cell_95 rfl (lv_at hl 1 rfl) ?_
        refine lv_imul hx hb dX7_cell_96 ?_
        refine lv_iload_n hx hb dX7_cell_97 rfl (lv_at hl 2 rfl) ?_
        refine lv_iadd hx hb dX7_cell_98 ?_
        obtain ⟨g15, hf⟩ := kgd hf
        refine ml_cells C0 hP g15 dX7_cell_99 ?_
        refine lv_i2l (v := ((ar (2) (((60 : Int32) * p1) + p2).toNatClampNeg).toInt64)) hx hb dX7_cell_100 rfl ?_
        obtain ⟨rfl, rfl, rfl⟩ := kinj3 hf
        exact kret_l C0 hr hlk hP hS dX7_cell_101
      · have hf := kif_t c14 hf
        refine lv_aload_n hx hb dX7_cell_83 rfl (lv_at hl 0 rfl) ?_
        refine lv_iconst (v := (3 : Int32)) hx hb dX7_cell_84 (by decide) ?_
        obtain ⟨r17, v18, ar19, e16, hf⟩ := kb3_s hf
        refine kcallV (As := [.int (3 : Int32)]) (rest := []) C0 (cX7_lost_c hap e16) q_918 kw_X7_lost (xv_M C0.2 hP) hP hS ⟨Nat.le_of_ble_eq_true rfl, Nat.le_of_ble_eq_true rfl⟩ rfl hl.1 rfl (Nat.le_of_ble_eq_true rfl) dX7_cell_85 (fun H locs hP hS => ?_)
        obtain ⟨rfl, rfl, rfl⟩ := kinj3 hf
        exact kret_l C0 hr hlk hP hS dX7_cell_88
    · have hf := kif_t c10 hf
      refine lv_aload_n hx hb dX7_cell_61 rfl (lv_at hl 0 rfl) ?_
      refine lv_iconst (v := (1 : Int32)) hx hb dX7_cell_62 (by decide) ?_
      obtain ⟨r21, v22, ar23, e20, hf⟩ := kb3_s hf
      refine kcallV (As := [.int (1 : Int32)]) (rest := []) C0 (cX7_lost_c hap e20) q_918 kw_X7_lost (xv_M C0.2 hP) hP hS ⟨Nat.le_of_ble_eq_true rfl, Nat.le_of_ble_eq_true rfl⟩ rfl hl.1 rfl (Nat.le_of_ble_eq_true rfl) dX7_cell_63 (fun H locs hP hS => ?_)
      obtain ⟨rfl, rfl, rfl⟩ := kinj3 hf
      exact kret_l C0 hr hlk hP hS dX7_cell_66
  unfold fX7_cell at hf
  refine lv_aload_n hx hb dX7_cell_0 rfl (lv_at hl 0 rfl) ?_
  refine lv_iconst (v := (0 : Int32)) hx hb dX7_cell_1 (by decide) ?_
  refine xp_M_0 C0 hap hP hS q_597 dX7_cell_2 (fun H locs hP hS => ?_)
  refine lv_iload_n hx hb dX7_cell_5 rfl (lv_at hl 1 rfl) ?_
  obtain ⟨r2, e1, hf⟩ := kb1_s hf
  refine kcallT (As := [.int p1]) (rest := []) C0 (cX7_isSheet_c hap e1) q_698 kw_X7_isSheet hP hS ⟨Nat.le_of_ble_eq_true rfl, Nat.le_of_ble_eq_true rfl⟩ rfl hl.1 rfl (Nat.le_of_ble_eq_true rfl) dX7_cell_6 (fun H locs hP hS => ?_)
  refine lv_if_eq (tgt := 19) hx hb dX7_cell_9 (by decide) (fun c3 => ?_) (fun c3 => ?_)
  · have hf := kif_t c3 hf
    exact hB19 _ _ _ _ _ hf hP hS (lv_sub hl [] rfl)
  · have hf := kif_f c3 hf
    refine lv_iload_n hx hb dX7_cell_12 rfl (lv_at hl 3 rfl) ?_
    obtain ⟨r5, e4, hf⟩ := kb1_s hf
    refine kcallT (As := [.int p3]) (rest := []) C0 (cX7_isSort_c hap e4) q_704 kw_X7_isSort hP hS ⟨Nat.le_of_ble_eq_true rfl, Nat.le_of_ble_eq_true rfl⟩ rfl hl.1 rfl (Nat.le_of_ble_eq_true rfl) dX7_cell_13 (fun H locs hP hS => ?_)
    refine lv_if_ne (tgt := 23) hx hb dX7_cell_16 (by decide) (fun c6 => ?_) (fun c6 => ?_)
    · have hf := kif_f c6 hf
      refine lv_aload_n hx hb dX7_cell_23 rfl (lv_at hl 0 rfl) ?_
      refine xg_M_2 C0 hP q_599 dX7_cell_24 ?_
      refine lv_iload_n hx hb dX7_cell_27 rfl (lv_at hl 1 rfl) ?_
      obtain ⟨g7, hf⟩ := kgd hf
      refine ml_sorts C0 hP g7 dX7_cell_28 ?_
      refine lv_bipush (v := (-9 : Int32)) hx hb dX7_cell_29 (by decide) ?_
      refine lv_icmp_eq (tgt := 50) hx hb dX7_cell_31 (by decide) (fun c8 => ?_) (fun c8 => ?_)
      · have hf := kif_t c8 hf
        exact hB50 _ _ _ _ _ hf hP hS (lv_sub hl [0, 1, 2] rfl)
      · have hf := kif_f c8 hf
        refine lv_aload_n hx hb dX7_cell_34 rfl (lv_at hl 0 rfl) ?_
        refine xg_M_2 C0 hP q_599 dX7_cell_35 ?_
        refine lv_iload_n hx hb dX7_cell_38 rfl (lv_at hl 1 rfl) ?_
        obtain ⟨g24, hf⟩ := kgd hf
        refine ml_sorts C0 hP g24 dX7_cell_39 ?_
        refine lv_iload_n hx hb dX7_cell_40 rfl (lv_at hl 3 rfl) ?_
        refine lv_icmp_eq (tgt := 50) hx hb dX7_cell_41 (by decide) (fun c25 => ?_) (fun c25 => ?_)
        · have hf := kif_t c25 hf
          exact hB50 _ _ _ _ _ hf hP hS (lv_sub hl [0, 1, 2] rfl)
        · have hf := kif_f c25 hf
          refine lv_aload_n hx hb dX7_cell_44 rfl (lv_at hl 0 rfl) ?_
          refine lv_iconst (v := (2 : Int32)) hx hb dX7_cell_45 (by decide) ?_
          obtain ⟨r27, v28, ar29, e26, hf⟩ := kb3_s hf
          refine kcallV (As := [.int (2 : Int32)]) (rest := []) C0 (cX7_lost_c hap e26) q_918 kw_X7_lost (xv_M C0.2 hP) hP hS ⟨Nat.le_of_ble_eq_true rfl, Nat.le_of_ble_eq_true rfl⟩ rfl hl.1 rfl (Nat.le_of_ble_eq_true rfl) dX7_cell_46 (fun H locs hP hS => ?_)
          obtain ⟨rfl, rfl, rfl⟩ := kinj3 hf
          exact kret_l C0 hr hlk hP hS dX7_cell_49
    · have hf := kif_t c6 hf
      exact hB19 _ _ _ _ _ hf hP hS (lv_sub hl [] rfl)
set_option maxHeartbeats 4000000 in
set_option maxRecDepth 100000 in
theorem cX7_copy_c {l : Launch} {D : va_G} {cI cS : ClassId} {a : Nat → Nat} (hap : kAp a 15) {v : kV} {ar : kR} {p1 : Int32} {p2 : Int32} {p3 : Int32} {p4 : Int32} {p5 : Int32} {r : Int32} {v2 : kV} {ar2 : kR} (hf : fX7_copy v ar p1 p2 p3 p4 p5 = some (r, v2, ar2)) : kMet l D cI cS (mW cI a) (kA a 15) yX7_copy cX7_copy 10 (some .int) 2 42 [.ref (a 0), .int p1, .int p2, .int p3, .int p4, .int p5] v ar (some (.int r)) v2 ar2 := by
  refine kstart (by decide) (Nat.le_of_ble_eq_true rfl) ?_
  intro p e s m args below meth c ls C0 hr hlk hl hP hS
  have C0 : kC p s m c args cX7_copy 10 RX7 D cI cS := C0
  have hx := C0.1.1
  have hb := C0.1.2.1
  have hl : lv_has ls 10 [(0, .ref (a 0)), (1, .int p1), (2, .int p2), (3, .int p3), (4, .int p4), (5, .int p5)] := hl
  have hB43 : ∀ (v : kV) (ar : kR) (H : Heap) (locs : List Loc) (ls : Array Slot), fX7_copy_43 p1 p2 p3 p4 p5 v ar = some (r, v2, ar2) → va_P D vwCl (mW cI a v ar) H → va_S (kA a 15) s.heap H locs → lv_has ls 10 [(0, .ref (a 0))] → kGo p l e 2 42 s m args below meth c D (mW cI a) (kA a 15) (some (.int r)) v2 ar2 H locs (F0 m 43 ls []) := by
    intro  v ar H locs ls hf hP hS hl
    unfold fX7_copy_43 at hf
    refine lv_aload_n hx hb dX7_copy_43 rfl (lv_at hl 0 rfl) ?_
    refine lv_iconst (v := (1 : Int32)) hx hb dX7_copy_44 (by decide) ?_
    obtain ⟨r10, v11, ar12, e9, hf⟩ := kb3_s hf
    refine kcallV (As := [.int (1 : Int32)]) (rest := []) C0 (cX7_fails_c hap e9) q_711 kw_X7_fails (xv_M C0.2 hP) hP hS ⟨Nat.le_of_ble_eq_true rfl, Nat.le_of_ble_eq_true rfl⟩ rfl hl.1 rfl (Nat.le_of_ble_eq_true rfl) dX7_copy_45 (fun H locs hP hS => ?_)
    obtain ⟨rfl, rfl, rfl⟩ := kinj3 hf
    exact kret_i C0 hr hlk hP hS dX7_copy_48
  have hB144 : ∀ (v : kV) (ar : kR) (H : Heap) (locs : List Loc) (ls : Array Slot), fX7_copy_144 p1 p2 p3 p4 p5 v ar = some (r, v2, ar2) → va_P D vwCl (mW cI a v ar) H → va_S (kA a 15) s.heap H locs → lv_has ls 10 [(0, .ref (a 0))] → kGo p l e 2 42 s m args below meth c D (mW cI a) (kA a 15) (some (.int r)) v2 ar2 H locs (F0 m 144 ls []) := by
    intro  v ar H locs ls hf hP hS hl
    unfold fX7_copy_144 at hf
    refine lv_aload_n hx hb dX7_copy_144 rfl (lv_at hl 0 rfl) ?_
    refine lv_iconst (v := (3 : Int32)) hx hb dX7_copy_145 (by decide) ?_
    obtain ⟨r21, v22, ar23, e20, hf⟩ := kb3_s hf
    refine kcallV (As := [.int (3 : Int32)]) (rest := []) C0 (cX7_fails_c hap e20) q_711 kw_X7_fails (xv_M C0.2 hP) hP hS ⟨Nat.le_of_ble_eq_true rfl, Nat.le_of_ble_eq_true rfl⟩ rfl hl.1 rfl (Nat.le_of_ble_eq_true rfl) dX7_copy_146 (fun H locs hP hS => ?_)
    obtain ⟨rfl, rfl, rfl⟩ := kinj3 hf
    exact kret_i C0 hr hlk hP hS dX7_copy_149
  have hB190 : ∀ (rec166 : Int32 → Int32 → kV → kR → Option (Int32 × kV × kR)) (hrec166 : ∀ (x7 : Int32) (x8 : Int32) (v : kV) (ar : kR) (H : Heap) (locs : List Loc) (ls : Array Slot), rec166 x7 x8 v ar = some (r, v2, ar2) → va_P D vwCl (mW cI a v ar) H → va_S (kA a 15) s.heap H locs → lv_has ls 10 [(0, .ref (a 0)), (1, .int p1), (2, .int p2), (3, .int p3), (4, .int p4), (5, .int p5), (7, .int x7), (8, .int x8)] → kGo p l e 2 42 s m args below meth c D (mW cI a) (kA a 15) (some (.int r)) v2 ar2 H locs (F0 m 166 ls [])) , ∀ (x7 : Int32) (x8 : Int32) (s0 : Int32) (v : kV) (ar : kR) (H : Heap) (locs : List Loc) (ls : Array Slot), fX7_copy_190 p1 p2 p3 p4 p5 rec166 x7 x8 s0 v ar = some (r, v2, ar2) → va_P D vwCl (mW cI a v ar) H → va_S (kA a 15) s.heap H locs → lv_has ls 10 [(0, .ref (a 0)), (1, .int p1), (2, .int p2), (3, .int p3), (4, .int p4), (5, .int p5), (7, .int x7), (8, .int x8)] → kGo p l e 2 42 s m args below meth c D (mW cI a) (kA a 15) (some (.int r)) v2 ar2 H locs (F0 m 190 ls [.int s0]) := by
    intro rec166 hrec166 x7 x8 s0 v ar H locs ls hf hP hS hl
    unfold fX7_copy_190 at hf
    refine lv_istore (lv' := [(9, .int s0), (0, .ref (a 0)), (1, .int p1), (2, .int p2), (3, .int p3), (4, .int p4), (5, .int p5), (7, .int x7), (8, .int x8)]) hx hb dX7_copy_190 hl (by decide) rfl (fun ls hl => ?_)
    refine lv_aload_n hx hb dX7_copy_192 rfl (lv_at hl 1 rfl) ?_
    refine xg_M_4 C0 hP q_601 dX7_copy_193 ?_
    refine lv_bipush (v := (60 : Int32)) hx hb dX7_copy_196 (by decide) ?_
    refine lv_iload_n hx hb dX7_copy_198 rfl (lv_at hl 4 rfl) ?_
    refine lv_imul hx hb dX7_copy_199 ?_
    refine lv_iload hx hb dX7_copy_200 (lv_at hl 5 rfl) ?_
    refine lv_iadd hx hb dX7_copy_202 ?_
    refine lv_iload hx hb dX7_copy_203 (lv_at hl 0 rfl) ?_
    refine lv_iadd hx hb dX7_copy_205 ?_
    refine lv_aload_n hx hb dX7_copy_206 rfl (lv_at hl 1 rfl) ?_
    refine xg_M_4 C0 hP q_601 dX7_copy_207 ?_
    refine lv_bipush (v := (60 : Int32)) hx hb dX7_copy_210 (by decide) ?_
    refine lv_iload_n hx hb dX7_copy_212 rfl (lv_at hl 2 rfl) ?_
    refine lv_imul hx hb dX7_copy_213 ?_
    refine lv_iload_n hx hb dX7_copy_214 rfl (lv_at hl 3 rfl) ?_
    refine lv_iadd hx hb dX7_copy_215 ?_
    refine lv_iload hx hb dX7_copy_216 (lv_at hl 0 rfl) ?_
    refine lv_iadd hx hb dX7_copy_218 ?_
    obtain ⟨g31, hf⟩ := kgd hf
    refine ml_cells C0 hP g31 dX7_copy_219 ?_
    obtain ⟨g32, hf⟩ := kgd hf
    refine mt_cells C0 hap hP hS g32 dX7_copy_220 (fun H locs hP hS => ?_)
    refine lv_iinc (v := (x8 + (1 : Int32))) (lv' := [(8, .int (x8 + (1 : Int32))), (9, .int s0), (0, .ref (a 0)), (1, .int p1), (2, .int p2), (3, .int p3), (4, .int p4), (5, .int p5), (7, .int x7)]) hx hb dX7_copy_221 hl (k := 8) rfl rfl (by decide) rfl (fun ls hl => ?_)
    refine lv_goto (tgt := 166) hx hb dX7_copy_224 (by decide) ?_
    exact hrec166 _ _ _ _ _ _ _ hf hP hS (lv_sub hl [2, 3, 4, 5, 6, 7, 8, 0] rfl)
  have hB166 : ∀ (n : Nat), ∀ (x7 : Int32) (x8 : Int32) (v : kV) (ar : kR) (H : Heap) (locs : List Loc) (ls : Array Slot), fX7_copy_166 p1 p2 p3 p4 p5 n x7 x8 v ar = some (r, v2, ar2) → va_P D vwCl (mW cI a v ar) H → va_S (kA a 15) s.heap H locs → lv_has ls 10 [(0, .ref (a 0)), (1, .int p1), (2, .int p2), (3, .int p3), (4, .int p4), (5, .int p5), (7, .int x7), (8, .int x8)] → kGo p l e 2 42 s m args below meth c D (mW cI a) (kA a 15) (some (.int r)) v2 ar2 H locs (F0 m 166 ls []) := by
    intro  n
    induction n with
    | zero =>
      intro x7 x8 v ar H locs ls hf
      have hf : (none : Option (Int32 × kV × kR)) = some (r, v2, ar2) := hf
      cases hf
    | succ n ih =>
      intro x7 x8 v ar H locs ls hf hP hS hl
      have hf : fX7_copy_166b p1 p2 p3 p4 p5 (fX7_copy_166 p1 p2 p3 p4 p5 n) x7 x8 v ar = some (r, v2, ar2) := hf
      unfold fX7_copy_166b at hf
      refine lv_iload hx hb dX7_copy_166 (lv_at hl 7 rfl) ?_
      refine lv_iload hx hb dX7_copy_168 (lv_at hl 5 rfl) ?_
      refine lv_icmp_ge (tgt := 227) hx hb dX7_copy_170 (by decide) (fun c29 => ?_) (fun c29 => ?_)
      · have hf := kif_t c29 hf
        refine lv_iload hx hb dX7_copy_227 (lv_at hl 5 rfl) ?_
        obtain ⟨rfl, rfl, rfl⟩ := kinj3 hf
        exact kret_i C0 hr hlk hP hS dX7_copy_229
      · have hf := kif_f c29 hf
        refine lv_iload hx hb dX7_copy_173 (lv_at hl 6 rfl) ?_
        refine lv_if_eq (tgt := 188) hx hb dX7_copy_175 (by decide) (fun c30 => ?_) (fun c30 => ?_)
        · have hf := kif_t c30 hf
          refine lv_iload hx hb dX7_copy_188 (lv_at hl 7 rfl) ?_
          exact hB190 _ ih _ _ _ _ _ _ _ _ hf hP hS (lv_sub hl [0, 1, 2, 3, 4, 5, 6, 7] rfl)
        · have hf := kif_f c30 hf
          refine lv_iload hx hb dX7_copy_178 (lv_at hl 5 rfl) ?_
          refine lv_iconst (v := (1 : Int32)) hx hb dX7_copy_180 (by decide) ?_
          refine lv_isub hx hb dX7_copy_181 ?_
          refine lv_iload hx hb dX7_copy_182 (lv_at hl 7 rfl) ?_
          refine lv_isub hx hb dX7_copy_184 ?_
          refine lv_goto (tgt := 190) hx hb dX7_copy_185 (by decide) ?_
          exact hB190 _ ih _ _ _ _ _ _ _ _ hf hP hS (lv_sub hl [0, 1, 2, 3, 4, 5, 6, 7] rfl)
  have hB161 : ∀ (s0 : Int32) (v : kV) (ar : kR) (H : Heap) (locs : List Loc) (ls : Array Slot), fX7_copy_161 p1 p2 p3 p4 p5 s0 v ar = some (r, v2, ar2) → va_P D vwCl (mW cI a v ar) H → va_S (kA a 15) s.heap H locs → lv_has ls 10 [(0, .ref (a 0)), (1, .int p1), (2, .int p2), (3, .int p3), (4, .int p4), (5, .int p5)] → kGo p l e 2 42 s m args below meth c D (mW cI a) (kA a 15) (some (.int r)) v2 ar2 H locs (F0 m 161 ls [.int s0]) := by
    intro  s0 v ar H locs ls hf hP hS hl
    unfold fX7_copy_161 at hf
    refine lv_istore (lv' := [(7, .int s0), (0, .ref (a 0)), (1, .int p1), (2, .int p2), (3, .int p3), (4, .int p4), (5, .int p5)]) hx hb dX7_copy_161 hl (by decide) rfl (fun ls hl => ?_)
    refine lv_iconst (v := (0 : Int32)) hx hb dX7_copy_163 (by decide) ?_
    refine lv_istore (lv' := [(8, .int (0 : Int32)), (7, .int s0), (0, .ref (a 0)), (1, .int p1), (2, .int p2), (3, .int p3), (4, .int p4), (5, .int p5)]) hx hb dX7_copy_164 hl (by decide) rfl (fun ls hl => ?_)
    exact hB166 _ _ _ _ _ _ _ _ hf hP hS (lv_sub hl [2, 3, 4, 5, 6, 7, 1, 0] rfl)
  have hB110 : ∀ (s0 : Int32) (v : kV) (ar : kR) (H : Heap) (locs : List Loc) (ls : Array Slot), fX7_copy_110 p1 p2 p3 p4 p5 s0 v ar = some (r, v2, ar2) → va_P D vwCl (mW cI a v ar) H → va_S (kA a 15) s.heap H locs → lv_has ls 10 [(0, .ref (a 0)), (1, .int p1), (2, .int p2), (3, .int p3), (4, .int p4), (5, .int p5)] → kGo p l e 2 42 s m args below meth c D (mW cI a) (kA a 15) (some (.int r)) v2 ar2 H locs (F0 m 110 ls [.int s0]) := by
    intro  s0 v ar H locs ls hf hP hS hl
    unfold fX7_copy_110 at hf
    refine lv_istore (lv' := [(6, .int s0), (0, .ref (a 0)), (1, .int p1), (2, .int p2), (3, .int p3), (4, .int p4), (5, .int p5)]) hx hb dX7_copy_110 hl (by decide) rfl (fun ls hl => ?_)
    refine lv_iload hx hb dX7_copy_112 (lv_at hl 0 rfl) ?_
    refine lv_if_eq (tgt := 144) hx hb dX7_copy_114 (by decide) (fun c19 => ?_) (fun c19 => ?_)
    · have hf := kif_t c19 hf
      exact hB144 _ _ _ _ _ hf hP hS (lv_sub hl [1] rfl)
    · have hf := kif_f c19 hf
      refine lv_iload hx hb dX7_copy_117 (lv_at hl 6 rfl) ?_
      refine lv_aload_n hx hb dX7_copy_119 rfl (lv_at hl 1 rfl) ?_
      refine xg_M_3 C0 hP q_600 dX7_copy_120 ?_
      refine lv_iload_n hx hb dX7_copy_123 rfl (lv_at hl 2 rfl) ?_
      obtain ⟨g24, hf⟩ := kgd hf
      refine ml_sheetLong C0 hP g24 dX7_copy_124 ?_
      refine lv_iload_n hx hb dX7_copy_125 rfl (lv_at hl 3 rfl) ?_
      refine lv_isub hx hb dX7_copy_126 ?_
      refine lv_icmp_gt (tgt := 144) hx hb dX7_copy_127 (by decide) (fun c25 => ?_) (fun c25 => ?_)
      · have hf := kif_t c25 hf
        exact hB144 _ _ _ _ _ hf hP hS (lv_sub hl [1] rfl)
      · have hf := kif_f c25 hf
        refine lv_iload hx hb dX7_copy_130 (lv_at hl 6 rfl) ?_
        refine lv_aload_n hx hb dX7_copy_132 rfl (lv_at hl 1 rfl) ?_
        refine xg_M_3 C0 hP q_600 dX7_copy_133 ?_
        refine lv_iload_n hx hb dX7_copy_136 rfl (lv_at hl 4 rfl) ?_
        obtain ⟨g26, hf⟩ := kgd hf
        refine ml_sheetLong C0 hP g26 dX7_copy_137 ?_
        refine lv_iload hx hb dX7_copy_138 (lv_at hl 5 rfl) ?_
        refine lv_isub hx hb dX7_copy_140 ?_
        refine lv_icmp_le (tgt := 150) hx hb dX7_copy_141 (by decide) (fun c27 => ?_) (fun c27 => ?_)
        · have hf := kif_t c27 hf
          refine lv_iload_n hx hb dX7_copy_150 rfl (lv_at hl 3 rfl) ?_
          refine lv_iload hx hb dX7_copy_151 (lv_at hl 5 rfl) ?_
          refine lv_icmp_ge (tgt := 160) hx hb dX7_copy_153 (by decide) (fun c28 => ?_) (fun c28 => ?_)
          · have hf := kif_t c28 hf
            refine lv_iconst (v := (0 : Int32)) hx hb dX7_copy_160 (by decide) ?_
            exact hB161 _ _ _ _ _ _ hf hP hS (lv_sub hl [1, 2, 3, 4, 5, 6] rfl)
          · have hf := kif_f c28 hf
            refine lv_iconst (v := (1 : Int32)) hx hb dX7_copy_156 (by decide) ?_
            refine lv_goto (tgt := 161) hx hb dX7_copy_157 (by decide) ?_
            exact hB161 _ _ _ _ _ _ hf hP hS (lv_sub hl [1, 2, 3, 4, 5, 6] rfl)
        · have hf := kif_f c27 hf
          exact hB144 _ _ _ _ _ hf hP hS (lv_sub hl [1] rfl)
  have hB109 : ∀ (v : kV) (ar : kR) (H : Heap) (locs : List Loc) (ls : Array Slot), fX7_copy_109 p1 p2 p3 p4 p5 v ar = some (r, v2, ar2) → va_P D vwCl (mW cI a v ar) H → va_S (kA a 15) s.heap H locs → lv_has ls 10 [(0, .ref (a 0)), (1, .int p1), (2, .int p2), (3, .int p3), (4, .int p4), (5, .int p5)] → kGo p l e 2 42 s m args below meth c D (mW cI a) (kA a 15) (some (.int r)) v2 ar2 H locs (F0 m 109 ls []) := by
    intro  v ar H locs ls hf hP hS hl
    unfold fX7_copy_109 at hf
    refine lv_iconst (v := (0 : Int32)) hx hb dX7_copy_109 (by decide) ?_
    exact hB110 _ _ _ _ _ _ hf hP hS (lv_sub hl [0, 1, 2, 3, 4, 5] rfl)
  unfold fX7_copy at hf
  refine lv_aload_n hx hb dX7_copy_0 rfl (lv_at hl 0 rfl) ?_
  refine lv_iconst (v := (0 : Int32)) hx hb dX7_copy_1 (by decide) ?_
  refine xp_M_0 C0 hap hP hS q_597 dX7_copy_2 (fun H locs hP hS => ?_)
  refine lv_iload_n hx hb dX7_copy_5 rfl (lv_at hl 1 rfl) ?_
  obtain ⟨r2, e1, hf⟩ := kb1_s hf
  refine kcallT (As := [.int p1]) (rest := []) C0 (cX7_isSheet_c hap e1) q_698 kw_X7_isSheet hP hS ⟨Nat.le_of_ble_eq_true rfl, Nat.le_of_ble_eq_true rfl⟩ rfl hl.1 rfl (Nat.le_of_ble_eq_true rfl) dX7_copy_6 (fun H locs hP hS => ?_)
  refine lv_if_eq (tgt := 19) hx hb dX7_copy_9 (by decide) (fun c3 => ?_) (fun c3 => ?_)
  · have hf := kif_t c3 hf
    refine lv_iconst (v := (-1 : Int32)) hx hb dX7_copy_19 (by decide) ?_
    obtain ⟨rfl, rfl, rfl⟩ := kinj3 hf
    exact kret_i C0 hr hlk hP hS dX7_copy_20
  · have hf := kif_f c3 hf
    refine lv_iload_n hx hb dX7_copy_12 rfl (lv_at hl 3 rfl) ?_
    obtain ⟨r5, e4, hf⟩ := kb1_s hf
    refine kcallT (As := [.int p3]) (rest := []) C0 (cX7_isSheet_c hap e4) q_698 kw_X7_isSheet hP hS ⟨Nat.le_of_ble_eq_true rfl, Nat.le_of_ble_eq_true rfl⟩ rfl hl.1 rfl (Nat.le_of_ble_eq_true rfl) dX7_copy_13 (fun H locs hP hS => ?_)
    refine lv_if_ne (tgt := 21) hx hb dX7_copy_16 (by decide) (fun c6 => ?_) (fun c6 => ?_)
    · have hf := kif_f c6 hf
      refine lv_aload_n hx hb dX7_copy_21 rfl (lv_at hl 0 rfl) ?_
      refine xg_M_2 C0 hP q_599 dX7_copy_22 ?_
      refine lv_iload_n hx hb dX7_copy_25 rfl (lv_at hl 1 rfl) ?_
      obtain ⟨g7, hf⟩ := kgd hf
      refine ml_sorts C0 hP g7 dX7_copy_26 ?_
      refine lv_bipush (v := (-9 : Int32)) hx hb dX7_copy_27 (by decide) ?_
      refine lv_icmp_eq (tgt := 43) hx hb dX7_copy_29 (by decide) (fun c8 => ?_) (fun c8 => ?_)
      · have hf := kif_t c8 hf
        exact hB43 _ _ _ _ _ hf hP hS (lv_sub hl [0] rfl)
      · have hf := kif_f c8 hf
        refine lv_aload_n hx hb dX7_copy_32 rfl (lv_at hl 0 rfl) ?_
        refine xg_M_2 C0 hP q_599 dX7_copy_33 ?_
        refine lv_iload_n hx hb dX7_copy_36 rfl (lv_at hl 3 rfl) ?_
        obtain ⟨g13, hf⟩ := kgd hf
        refine ml_sorts C0 hP g13 dX7_copy_37 ?_
        refine lv_bipush (v := (-9 : Int32)) hx hb dX7_copy_38 (by decide) ?_
        refine lv_icmp_ne (tgt := 49) hx hb dX7_copy_40 (by decide) (fun c14 => ?_) (fun c14 => ?_)
        · have hf := kif_f c14 hf
          refine lv_aload_n hx hb dX7_copy_49 rfl (lv_at hl 0 rfl) ?_
          refine xg_M_2 C0 hP q_599 dX7_copy_50 ?_
          refine lv_iload_n hx hb dX7_copy_53 rfl (lv_at hl 1 rfl) ?_
          obtain ⟨g15, hf⟩ := kgd hf
          refine ml_sorts C0 hP g15 dX7_copy_54 ?_
          refine lv_aload_n hx hb dX7_copy_55 rfl (lv_at hl 0 rfl) ?_
          refine xg_M_2 C0 hP q_599 dX7_copy_56 ?_
          refine lv_iload_n hx hb dX7_copy_59 rfl (lv_at hl 3 rfl) ?_
          obtain ⟨g16, hf⟩ := kgd hf
          refine ml_sorts C0 hP g16 dX7_copy_60 ?_
          refine lv_icmp_eq (tgt := 70) hx hb dX7_copy_61 (by decide) (fun c17 => ?_) (fun c17 => ?_)
          · have hf := kif_t c17 hf
            refine lv_iload_n hx hb dX7_copy_70 rfl (lv_at hl 2 rfl) ?_
            refine lv_if_lt (tgt := 109) hx hb dX7_copy_71 (by decide) (fun c18 => ?_) (fun c18 => ?_)
            · have hf := kif_t c18 hf
              exact hB109 _ _ _ _ _ hf hP hS (lv_sub hl [0, 1, 2, 3, 4, 5] rfl)
            · have hf := kif_f c18 hf
              refine lv_iload hx hb dX7_copy_74 (lv_at hl 4 rfl) ?_
              refine lv_if_lt (tgt := 109) hx hb dX7_copy_76 (by decide) (fun c33 => ?_) (fun c33 => ?_)
              · have hf := kif_t c33 hf
                exact hB109 _ _ _ _ _ hf hP hS (lv_sub hl [0, 1, 2, 3, 4, 5] rfl)
              · have hf := kif_f c33 hf
                refine lv_iload hx hb dX7_copy_79 (lv_at hl 5 rfl) ?_
                refine lv_if_lt (tgt := 109) hx hb dX7_copy_81 (by decide) (fun c34 => ?_) (fun c34 => ?_)
                · have hf := kif_t c34 hf
                  exact hB109 _ _ _ _ _ hf hP hS (lv_sub hl [0, 1, 2, 3, 4, 5] rfl)
                · have hf := kif_f c34 hf
                  refine lv_iload_n hx hb dX7_copy_84 rfl (lv_at hl 2 rfl) ?_
                  refine lv_aload_n hx hb dX7_copy_85 rfl (lv_at hl 0 rfl) ?_
                  refine xg_M_3 C0 hP q_600 dX7_copy_86 ?_
                  refine lv_iload_n hx hb dX7_copy_89 rfl (lv_at hl 1 rfl) ?_
                  obtain ⟨g35, hf⟩ := kgd hf
                  refine ml_sheetLong C0 hP g35 dX7_copy_90 ?_
                  refine lv_icmp_gt (tgt := 109) hx hb dX7_copy_91 (by decide) (fun c36 => ?_) (fun c36 => ?_)
                  · have hf := kif_t c36 hf
                    exact hB109 _ _ _ _ _ hf hP hS (lv_sub hl [0, 1, 2, 3, 4, 5] rfl)
                  · have hf := kif_f c36 hf
                    refine lv_iload hx hb dX7_copy_94 (lv_at hl 4 rfl) ?_
                    refine lv_aload_n hx hb dX7_copy_96 rfl (lv_at hl 0 rfl) ?_
                    refine xg_M_3 C0 hP q_600 dX7_copy_97 ?_
                    refine lv_iload_n hx hb dX7_copy_100 rfl (lv_at hl 3 rfl) ?_
                    obtain ⟨g37, hf⟩ := kgd hf
                    refine ml_sheetLong C0 hP g37 dX7_copy_101 ?_
                    refine lv_icmp_gt (tgt := 109) hx hb dX7_copy_102 (by decide) (fun c38 => ?_) (fun c38 => ?_)
                    · have hf := kif_t c38 hf
                      exact hB109 _ _ _ _ _ hf hP hS (lv_sub hl [0, 1, 2, 3, 4, 5] rfl)
                    · have hf := kif_f c38 hf
                      refine lv_iconst (v := (1 : Int32)) hx hb dX7_copy_105 (by decide) ?_
                      refine lv_goto (tgt := 110) hx hb dX7_copy_106 (by decide) ?_
                      exact hB110 _ _ _ _ _ _ hf hP hS (lv_sub hl [0, 1, 2, 3, 4, 5] rfl)
          · have hf := kif_f c17 hf
            refine lv_aload_n hx hb dX7_copy_64 rfl (lv_at hl 0 rfl) ?_
            refine lv_iconst (v := (2 : Int32)) hx hb dX7_copy_65 (by decide) ?_
            obtain ⟨r40, v41, ar42, e39, hf⟩ := kb3_s hf
            refine kcallV (As := [.int (2 : Int32)]) (rest := []) C0 (cX7_fails_c hap e39) q_711 kw_X7_fails (xv_M C0.2 hP) hP hS ⟨Nat.le_of_ble_eq_true rfl, Nat.le_of_ble_eq_true rfl⟩ rfl hl.1 rfl (Nat.le_of_ble_eq_true rfl) dX7_copy_66 (fun H locs hP hS => ?_)
            obtain ⟨rfl, rfl, rfl⟩ := kinj3 hf
            exact kret_i C0 hr hlk hP hS dX7_copy_69
        · have hf := kif_t c14 hf
          exact hB43 _ _ _ _ _ hf hP hS (lv_sub hl [0] rfl)
    · have hf := kif_t c6 hf
      refine lv_iconst (v := (-1 : Int32)) hx hb dX7_copy_19 (by decide) ?_
      obtain ⟨rfl, rfl, rfl⟩ := kinj3 hf
      exact kret_i C0 hr hlk hP hS dX7_copy_20
set_option maxHeartbeats 4000000 in
set_option maxRecDepth 100000 in
theorem cX7_begins_c {l : Launch} {D : va_G} {cI cS : ClassId} {a : Nat → Nat} (hap : kAp a 15) {v : kV} {ar : kR} {p1 : Int32} {v2 : kV} {ar2 : kR} (hf : fX7_begins v ar p1 = some (v2, ar2)) : kMet l D cI cS (mW cI a) (kA a 15) yX7_begins cX7_begins 2 none 0 0 [.ref (a 0), .int p1] v ar none v2 ar2 := by
  refine kstart (by decide) (Nat.le_of_ble_eq_true rfl) ?_
  intro p e s m args below meth c ls C0 hr hlk hl hP hS
  have C0 : kC p s m c args cX7_begins 2 RX7 D cI cS := C0
  have hx := C0.1.1
  have hb := C0.1.2.1
  have hl : lv_has ls 2 [(0, .ref (a 0)), (1, .int p1)] := hl
  unfold fX7_begins at hf
  refine lv_aload_n hx hb dX7_begins_0 rfl (lv_at hl 0 rfl) ?_
  refine lv_bipush (v := (31 : Int32)) hx hb dX7_begins_1 (by decide) ?_
  refine lv_aload_n hx hb dX7_begins_3 rfl (lv_at hl 0 rfl) ?_
  refine xg_M_1 C0 hP q_598 dX7_begins_4 ?_
  refine lv_imul hx hb dX7_begins_7 ?_
  refine lv_iload_n hx hb dX7_begins_8 rfl (lv_at hl 1 rfl) ?_
  refine lv_iadd hx hb dX7_begins_9 ?_
  refine xp_M_1 C0 hap hP hS q_598 dX7_begins_10 (fun H locs hP hS => ?_)
  obtain ⟨rfl, rfl⟩ := kinj2 hf
  exact kret_v C0 hr hlk hP hS dX7_begins_13
set_option maxHeartbeats 4000000 in
set_option maxRecDepth 100000 in
theorem cX7_tell_c {l : Launch} {D : va_G} {cI cS : ClassId} {a : Nat → Nat} (hap : kAp a 15) {v : kV} {ar : kR} {p1 : Int32} {r : Int32} {v2 : kV} {ar2 : kR} (hf : fX7_tell v ar p1 = some (r, v2, ar2)) : kMet l D cI cS (mW cI a) (kA a 15) yX7_tell cX7_tell 3 (some .int) 1 21 [.ref (a 0), .int p1] v ar (some (.int r)) v2 ar2 := by
  refine kstart (by decide) (Nat.le_of_ble_eq_true rfl) ?_
  intro p e s m args below meth c ls C0 hr hlk hl hP hS
  have C0 : kC p s m c args cX7_tell 3 RX7 D cI cS := C0
  have hx := C0.1.1
  have hb := C0.1.2.1
  have hl : lv_has ls 3 [(0, .ref (a 0)), (1, .int p1)] := hl
  unfold fX7_tell at hf
  refine lv_aload_n hx hb dX7_tell_0 rfl (lv_at hl 0 rfl) ?_
  refine lv_iload_n hx hb dX7_tell_1 rfl (lv_at hl 1 rfl) ?_
  obtain ⟨r2, e1, hf⟩ := kb1_s hf
  refine kcallV (As := [.int p1]) (rest := []) C0 (cX7_isCell_c hap e1) q_741 kw_X7_isCell (xv_M C0.2 hP) hP hS ⟨Nat.le_of_ble_eq_true rfl, Nat.le_of_ble_eq_true rfl⟩ rfl hl.1 rfl (Nat.le_of_ble_eq_true rfl) dX7_tell_2 (fun H locs hP hS => ?_)
  refine lv_if_ne (tgt := 10) hx hb dX7_tell_5 (by decide) (fun c3 => ?_) (fun c3 => ?_)
  · have hf := kif_f c3 hf
    refine lv_aload_n hx hb dX7_tell_10 rfl (lv_at hl 0 rfl) ?_
    refine xg_M_14 C0 hP q_611 dX7_tell_11 ?_
    refine lv_iload_n hx hb dX7_tell_14 rfl (lv_at hl 1 rfl) ?_
    obtain ⟨g4, hf⟩ := kgd hf
    refine ml_bulk C0 hP g4 dX7_tell_15 ?_
    refine lv_istore_n (lv' := [(2, .int (ar (5) p1.toNatClampNeg)), (0, .ref (a 0)), (1, .int p1)]) hx hb dX7_tell_16 rfl hl (by decide) rfl (fun ls hl => ?_)
    refine lv_aload_n hx hb dX7_tell_17 rfl (lv_at hl 1 rfl) ?_
    refine xg_M_13 C0 hP q_610 dX7_tell_18 ?_
    refine lv_iload_n hx hb dX7_tell_21 rfl (lv_at hl 2 rfl) ?_
    obtain ⟨g5, hf⟩ := kgd hf
    refine ml_kind C0 hP g5 dX7_tell_22 ?_
    by_cases c6 : (ar (4) p1.toNatClampNeg) = (1 : Int32)
    · have hf := kif_t c6 hf
      refine lv_lookup (tgt := 48) (off := (25 : Int)) hx hb dX7_tell_23 (by decide) (by rw [c6]; decide) (by decide) ?_
      refine lv_aload_n hx hb dX7_tell_48 rfl (lv_at hl 1 rfl) ?_
      refine lv_iconst (v := (2 : Int32)) hx hb dX7_tell_49 (by decide) ?_
      obtain ⟨v9, ar10, e7, hf⟩ := kb2_s hf
      refine kcallV (As := [.int (2 : Int32)]) (rest := []) C0 (cX7_begins_c hap e7) q_930 kw_X7_begins (xv_M C0.2 hP) hP hS ⟨Nat.le_of_ble_eq_true rfl, Nat.le_of_ble_eq_true rfl⟩ rfl hl.1 rfl (Nat.le_of_ble_eq_true rfl) dX7_tell_50 (fun H locs hP hS => ?_)
      refine lv_aload_n hx hb dX7_tell_53 rfl (lv_at hl 1 rfl) ?_
      refine lv_iconst (v := (1 : Int32)) hx hb dX7_tell_54 (by decide) ?_
      obtain ⟨v13, ar14, e11, hf⟩ := kb2_s hf
      refine kcallV (As := [.int (1 : Int32)]) (rest := []) C0 (cX7_begins_c hap e11) q_930 kw_X7_begins (xv_M C0.2 hP) hP hS ⟨Nat.le_of_ble_eq_true rfl, Nat.le_of_ble_eq_true rfl⟩ rfl hl.1 rfl (Nat.le_of_ble_eq_true rfl) dX7_tell_55 (fun H locs hP hS => ?_)
      refine lv_iload_n hx hb dX7_tell_58 rfl (lv_at hl 0 rfl) ?_
      refine lv_bipush (v := (100 : Int32)) hx hb dX7_tell_59 (by decide) ?_
      refine lv_iadd hx hb dX7_tell_61 ?_
      obtain ⟨rfl, rfl, rfl⟩ := kinj3 hf
      exact kret_i C0 hr hlk hP hS dX7_tell_62
    · have hf := kif_f c6 hf
      by_cases c15 : (ar (4) p1.toNatClampNeg) = (2 : Int32)
      · have hf := kif_t c15 hf
        refine lv_lookup (tgt := 63) (off := (40 : Int)) hx hb dX7_tell_23 (by decide) (by rw [c15]; decide) (by decide) ?_
        refine lv_aload_n hx hb dX7_tell_63 rfl (lv_at hl 1 rfl) ?_
        refine lv_iconst (v := (3 : Int32)) hx hb dX7_tell_64 (by decide) ?_
        obtain ⟨v18, ar19, e16, hf⟩ := kb2_s hf
        refine kcallV (As := [.int (3 : Int32)]) (rest := []) C0 (cX7_begins_c hap e16) q_930 kw_X7_begins (xv_M C0.2 hP) hP hS ⟨Nat.le_of_ble_eq_true rfl, Nat.le_of_ble_eq_true rfl⟩ rfl hl.1 rfl (Nat.le_of_ble_eq_true rfl) dX7_tell_65 (fun H locs hP hS => ?_)
        refine lv_aload_n hx hb dX7_tell_68 rfl (lv_at hl 1 rfl) ?_
        refine lv_iconst (v := (2 : Int32)) hx hb dX7_tell_69 (by decide) ?_
        obtain ⟨v22, ar23, e20, hf⟩ := kb2_s hf
        refine kcallV (As := [.int (2 : Int32)]) (rest := []) C0 (cX7_begins_c hap e20) q_930 kw_X7_begins (xv_M C0.2 hP) hP hS ⟨Nat.le_of_ble_eq_true rfl, Nat.le_of_ble_eq_true rfl⟩ rfl hl.1 rfl (Nat.le_of_ble_eq_true rfl) dX7_tell_70 (fun H locs hP hS => ?_)
        refine lv_aload_n hx hb dX7_tell_73 rfl (lv_at hl 1 rfl) ?_
        refine lv_iconst (v := (1 : Int32)) hx hb dX7_tell_74 (by decide) ?_
        obtain ⟨v26, ar27, e24, hf⟩ := kb2_s hf
        refine kcallV (As := [.int (1 : Int32)]) (rest := []) C0 (cX7_begins_c hap e24) q_930 kw_X7_begins (xv_M C0.2 hP) hP hS ⟨Nat.le_of_ble_eq_true rfl, Nat.le_of_ble_eq_true rfl⟩ rfl hl.1 rfl (Nat.le_of_ble_eq_true rfl) dX7_tell_75 (fun H locs hP hS => ?_)
        refine lv_aload_n hx hb dX7_tell_78 rfl (lv_at hl 1 rfl) ?_
        refine lv_iconst (v := (1 : Int32)) hx hb dX7_tell_79 (by decide) ?_
        obtain ⟨v30, ar31, e28, hf⟩ := kb2_s hf
        refine kcallV (As := [.int (1 : Int32)]) (rest := []) C0 (cX7_begins_c hap e28) q_930 kw_X7_begins (xv_M C0.2 hP) hP hS ⟨Nat.le_of_ble_eq_true rfl, Nat.le_of_ble_eq_true rfl⟩ rfl hl.1 rfl (Nat.le_of_ble_eq_true rfl) dX7_tell_80 (fun H locs hP hS => ?_)
        refine lv_iconst (v := (2 : Int32)) hx hb dX7_tell_83 (by decide) ?_
        refine lv_iload_n hx hb dX7_tell_84 rfl (lv_at hl 0 rfl) ?_
        refine lv_imul hx hb dX7_tell_85 ?_
        refine lv_bipush (v := (100 : Int32)) hx hb dX7_tell_86 (by decide) ?_
        refine lv_iadd hx hb dX7_tell_88 ?_
        obtain ⟨rfl, rfl, rfl⟩ := kinj3 hf
        exact kret_i C0 hr hlk hP hS dX7_tell_89
      · have hf := kif_f c15 hf
        refine lv_lookup (tgt := 90) (off := (67 : Int)) hx hb dX7_tell_23 (by decide) (by show Op.lookupswitch.offset [(1, 25), (2, 40)] (67 : Int) _ = _; rw [lv_osw c6 (by decide), lv_osw c15 (by decide)]; rfl) (by decide) ?_
        refine lv_aload_n hx hb dX7_tell_90 rfl (lv_at hl 1 rfl) ?_
        refine lv_iconst (v := (1 : Int32)) hx hb dX7_tell_91 (by decide) ?_
        obtain ⟨v34, ar35, e32, hf⟩ := kb2_s hf
        refine kcallV (As := [.int (1 : Int32)]) (rest := []) C0 (cX7_begins_c hap e32) q_930 kw_X7_begins (xv_M C0.2 hP) hP hS ⟨Nat.le_of_ble_eq_true rfl, Nat.le_of_ble_eq_true rfl⟩ rfl hl.1 rfl (Nat.le_of_ble_eq_true rfl) dX7_tell_92 (fun H locs hP hS => ?_)
        refine lv_iload_n hx hb dX7_tell_95 rfl (lv_at hl 0 rfl) ?_
        obtain ⟨rfl, rfl, rfl⟩ := kinj3 hf
        exact kret_i C0 hr hlk hP hS dX7_tell_96
  · have hf := kif_t c3 hf
    refine lv_iconst (v := (-1 : Int32)) hx hb dX7_tell_8 (by decide) ?_
    obtain ⟨rfl, rfl, rfl⟩ := kinj3 hf
    exact kret_i C0 hr hlk hP hS dX7_tell_9
set_option maxHeartbeats 4000000 in
set_option maxRecDepth 100000 in
theorem cX7_probe_c {l : Launch} {D : va_G} {cI cS : ClassId} {a : Nat → Nat} (hap : kAp a 15) {v : kV} {ar : kR} {p1 : Int32} {r : Int32} {v2 : kV} {ar2 : kR} (hf : fX7_probe v ar p1 = some (r, v2, ar2)) : kMet l D cI cS (mW cI a) (kA a 15) yX7_probe cX7_probe 2 (some .int) 2 44 [.ref (a 0), .int p1] v ar (some (.int r)) v2 ar2 := by
  refine kstart (by decide) (Nat.le_of_ble_eq_true rfl) ?_
  intro p e s m args below meth c ls C0 hr hlk hl hP hS
  have C0 : kC p s m c args cX7_probe 2 RX7 D cI cS := C0
  have hx := C0.1.1
  have hb := C0.1.2.1
  have hl : lv_has ls 2 [(0, .ref (a 0)), (1, .int p1)] := hl
  have hB26 : ∀ (s0 : Int32) (v : kV) (ar : kR) (H : Heap) (locs : List Loc) (ls : Array Slot), fX7_probe_26 p1 s0 v ar = some (r, v2, ar2) → va_P D vwCl (mW cI a v ar) H → va_S (kA a 15) s.heap H locs → lv_has ls 2 [(0, .ref (a 0)), (1, .int p1)] → kGo p l e 2 44 s m args below meth c D (mW cI a) (kA a 15) (some (.int r)) v2 ar2 H locs (F0 m 26 ls [.int s0, .ref (a 0)]) := by
    intro  s0 v ar H locs ls hf hP hS hl
    unfold fX7_probe_26 at hf
    obtain ⟨v8, ar9, e6, hf⟩ := kb2_s hf
    refine kcallV (As := [.int s0]) (rest := []) C0 (cX7_begins_c hap e6) q_930 kw_X7_begins (xv_M C0.2 hP) hP hS ⟨Nat.le_of_ble_eq_true rfl, Nat.le_of_ble_eq_true rfl⟩ rfl hl.1 rfl (Nat.le_of_ble_eq_true rfl) dX7_probe_26 (fun H locs hP hS => ?_)
    refine lv_aload_n hx hb dX7_probe_29 rfl (lv_at hl 0 rfl) ?_
    refine xg_M_13 C0 hP q_610 dX7_probe_30 ?_
    refine lv_iload_n hx hb dX7_probe_33 rfl (lv_at hl 1 rfl) ?_
    obtain ⟨g10, hf⟩ := kgd hf
    refine ml_kind C0 hP g10 dX7_probe_34 ?_
    refine lv_iconst (v := (2 : Int32)) hx hb dX7_probe_35 (by decide) ?_
    refine lv_icmp_ne (tgt := 44) hx hb dX7_probe_36 (by decide) (fun c11 => ?_) (fun c11 => ?_)
    · have hf := kif_f c11 hf
      refine lv_aload_n hx hb dX7_probe_44 rfl (lv_at hl 0 rfl) ?_
      refine lv_iload_n hx hb dX7_probe_45 rfl (lv_at hl 1 rfl) ?_
      obtain ⟨r13, e12, hf⟩ := kb1_s hf
      refine kcallV (As := [.int p1]) (rest := []) C0 (cX7_netsOf_c hap e12) q_749 kw_X7_netsOf (xv_M C0.2 hP) hP hS ⟨Nat.le_of_ble_eq_true rfl, Nat.le_of_ble_eq_true rfl⟩ rfl hl.1 rfl (Nat.le_of_ble_eq_true rfl) dX7_probe_46 (fun H locs hP hS => ?_)
      obtain ⟨r15, e14, hf⟩ := kb1_s hf
      refine kcallT (As := [.int r13]) (rest := []) C0 (cX7_size_c hap e14) q_731 kw_X7_size hP hS ⟨Nat.le_of_ble_eq_true rfl, Nat.le_of_ble_eq_true rfl⟩ rfl hl.1 rfl (Nat.le_of_ble_eq_true rfl) dX7_probe_49 (fun H locs hP hS => ?_)
      obtain ⟨rfl, rfl, rfl⟩ := kinj3 hf
      exact kret_i C0 hr hlk hP hS dX7_probe_52
    · have hf := kif_t c11 hf
      refine lv_bipush (v := (20 : Int32)) hx hb dX7_probe_39 (by decide) ?_
      refine lv_goto (tgt := 52) hx hb dX7_probe_41 (by decide) ?_
      obtain ⟨rfl, rfl, rfl⟩ := kinj3 hf
      exact kret_i C0 hr hlk hP hS dX7_probe_52
  unfold fX7_probe at hf
  refine lv_aload_n hx hb dX7_probe_0 rfl (lv_at hl 0 rfl) ?_
  refine lv_iload_n hx hb dX7_probe_1 rfl (lv_at hl 1 rfl) ?_
  obtain ⟨r2, e1, hf⟩ := kb1_s hf
  refine kcallV (As := [.int p1]) (rest := []) C0 (cX7_isCell_c hap e1) q_741 kw_X7_isCell (xv_M C0.2 hP) hP hS ⟨Nat.le_of_ble_eq_true rfl, Nat.le_of_ble_eq_true rfl⟩ rfl hl.1 rfl (Nat.le_of_ble_eq_true rfl) dX7_probe_2 (fun H locs hP hS => ?_)
  refine lv_if_ne (tgt := 10) hx hb dX7_probe_5 (by decide) (fun c3 => ?_) (fun c3 => ?_)
  · have hf := kif_f c3 hf
    refine lv_aload_n hx hb dX7_probe_10 rfl (lv_at hl 0 rfl) ?_
    refine lv_aload_n hx hb dX7_probe_11 rfl (lv_at hl 0 rfl) ?_
    refine xg_M_13 C0 hP q_610 dX7_probe_12 ?_
    refine lv_iload_n hx hb dX7_probe_15 rfl (lv_at hl 1 rfl) ?_
    obtain ⟨g4, hf⟩ := kgd hf
    refine ml_kind C0 hP g4 dX7_probe_16 ?_
    refine lv_iconst (v := (2 : Int32)) hx hb dX7_probe_17 (by decide) ?_
    refine lv_icmp_ne (tgt := 25) hx hb dX7_probe_18 (by decide) (fun c5 => ?_) (fun c5 => ?_)
    · have hf := kif_f c5 hf
      refine lv_iconst (v := (4 : Int32)) hx hb dX7_probe_25 (by decide) ?_
      exact hB26 _ _ _ _ _ _ hf hP hS (lv_sub hl [0, 1] rfl)
    · have hf := kif_t c5 hf
      refine lv_iconst (v := (5 : Int32)) hx hb dX7_probe_21 (by decide) ?_
      refine lv_goto (tgt := 26) hx hb dX7_probe_22 (by decide) ?_
      exact hB26 _ _ _ _ _ _ hf hP hS (lv_sub hl [0, 1] rfl)
  · have hf := kif_t c3 hf
    refine lv_iconst (v := (-1 : Int32)) hx hb dX7_probe_8 (by decide) ?_
    obtain ⟨rfl, rfl, rfl⟩ := kinj3 hf
    exact kret_i C0 hr hlk hP hS dX7_probe_9
set_option maxHeartbeats 4000000 in
set_option maxRecDepth 100000 in
theorem cX7_as_c {l : Launch} {D : va_G} {cI cS : ClassId} {a : Nat → Nat} (hap : kAp a 15) {v : kV} {ar : kR} {p1 : Int32} {p2 : Int32} {r : Int32} {v2 : kV} {ar2 : kR} (hf : fX7_as v ar p1 p2 = some (r, v2, ar2)) : kMet l D cI cS (mW cI a) (kA a 15) yX7_as cX7_as 3 (some .int) 1 22 [.ref (a 0), .int p1, .int p2] v ar (some (.int r)) v2 ar2 := by
  refine kstart (by decide) (Nat.le_of_ble_eq_true rfl) ?_
  intro p e s m args below meth c ls C0 hr hlk hl hP hS
  have C0 : kC p s m c args cX7_as 3 RX7 D cI cS := C0
  have hx := C0.1.1
  have hb := C0.1.2.1
  have hl : lv_has ls 3 [(0, .ref (a 0)), (1, .int p1), (2, .int p2)] := hl
  unfold fX7_as at hf
  refine lv_aload_n hx hb dX7_as_0 rfl (lv_at hl 0 rfl) ?_
  refine lv_iconst (v := (0 : Int32)) hx hb dX7_as_1 (by decide) ?_
  refine xp_M_0 C0 hap hP hS q_597 dX7_as_2 (fun H locs hP hS => ?_)
  refine lv_aload_n hx hb dX7_as_5 rfl (lv_at hl 0 rfl) ?_
  refine lv_iload_n hx hb dX7_as_6 rfl (lv_at hl 1 rfl) ?_
  obtain ⟨r2, e1, hf⟩ := kb1_s hf
  refine kcallV (As := [.int p1]) (rest := []) C0 (cX7_isCell_c hap e1) q_741 kw_X7_isCell (xv_M C0.2 hP) hP hS ⟨Nat.le_of_ble_eq_true rfl, Nat.le_of_ble_eq_true rfl⟩ rfl hl.1 rfl (Nat.le_of_ble_eq_true rfl) dX7_as_7 (fun H locs hP hS => ?_)
  refine lv_if_ne (tgt := 15) hx hb dX7_as_10 (by decide) (fun c3 => ?_) (fun c3 => ?_)
  · have hf := kif_f c3 hf
    refine lv_iload_n hx hb dX7_as_15 rfl (lv_at hl 2 rfl) ?_
    refine lv_iconst (v := (0 : Int32)) hx hb dX7_as_16 (by decide) ?_
    refine lv_iconst (v := (2 : Int32)) hx hb dX7_as_17 (by decide) ?_
    obtain ⟨r5, e4, hf⟩ := kb1_s hf
    refine kcallT (As := [.int p2, .int (0 : Int32), .int (2 : Int32)]) (rest := []) C0 (cX7_within_c hap e4) q_701 kw_X7_within hP hS ⟨Nat.le_of_ble_eq_true rfl, Nat.le_of_ble_eq_true rfl⟩ rfl hl.1 rfl (Nat.le_of_ble_eq_true rfl) dX7_as_18 (fun H locs hP hS => ?_)
    refine lv_if_ne (tgt := 27) hx hb dX7_as_21 (by decide) (fun c6 => ?_) (fun c6 => ?_)
    · have hf := kif_f c6 hf
      refine lv_aload_n hx hb dX7_as_27 rfl (lv_at hl 0 rfl) ?_
      refine xg_M_13 C0 hP q_610 dX7_as_28 ?_
      refine lv_iload_n hx hb dX7_as_31 rfl (lv_at hl 1 rfl) ?_
      obtain ⟨g7, hf⟩ := kgd hf
      refine ml_kind C0 hP g7 dX7_as_32 ?_
      refine lv_iload_n hx hb dX7_as_33 rfl (lv_at hl 2 rfl) ?_
      refine lv_icmp_lt (tgt := 41) hx hb dX7_as_34 (by decide) (fun c8 => ?_) (fun c8 => ?_)
      · have hf := kif_t c8 hf
        refine lv_aload_n hx hb dX7_as_41 rfl (lv_at hl 0 rfl) ?_
        refine lv_iconst (v := (2 : Int32)) hx hb dX7_as_42 (by decide) ?_
        obtain ⟨r10, v11, ar12, e9, hf⟩ := kb3_s hf
        refine kcallV (As := [.int (2 : Int32)]) (rest := []) C0 (cX7_fails_c hap e9) q_711 kw_X7_fails (xv_M C0.2 hP) hP hS ⟨Nat.le_of_ble_eq_true rfl, Nat.le_of_ble_eq_true rfl⟩ rfl hl.1 rfl (Nat.le_of_ble_eq_true rfl) dX7_as_43 (fun H locs hP hS => ?_)
        obtain ⟨rfl, rfl, rfl⟩ := kinj3 hf
        exact kret_i C0 hr hlk hP hS dX7_as_46
      · have hf := kif_f c8 hf
        refine lv_iconst (v := (1 : Int32)) hx hb dX7_as_37 (by decide) ?_
        refine lv_goto (tgt := 46) hx hb dX7_as_38 (by decide) ?_
        obtain ⟨rfl, rfl, rfl⟩ := kinj3 hf
        exact kret_i C0 hr hlk hP hS dX7_as_46
    · have hf := kif_t c6 hf
      refine lv_bipush (v := (-2 : Int32)) hx hb dX7_as_24 (by decide) ?_
      obtain ⟨rfl, rfl, rfl⟩ := kinj3 hf
      exact kret_i C0 hr hlk hP hS dX7_as_26
  · have hf := kif_t c3 hf
    refine lv_iconst (v := (-1 : Int32)) hx hb dX7_as_13 (by decide) ?_
    obtain ⟨rfl, rfl, rfl⟩ := kinj3 hf
    exact kret_i C0 hr hlk hP hS dX7_as_14
set_option maxHeartbeats 4000000 in
set_option maxRecDepth 100000 in
theorem cX7_trace_c {l : Launch} {D : va_G} {cI cS : ClassId} {a : Nat → Nat} (hap : kAp a 15) {v : kV} {ar : kR} {r : Int32} (hf : fX7_trace v ar = some r) : kMet l D cI cS (mW cI a) (kA a 15) yX7_trace cX7_trace 1 (some .int) 0 0 [.ref (a 0)] v ar (some (.int r)) v ar := by
  refine kstart (by decide) (Nat.le_of_ble_eq_true rfl) ?_
  intro p e s m args below meth c ls C0 hr hlk hl hP hS
  have C0 : kC p s m c args cX7_trace 1 RX7 D cI cS := C0
  have hx := C0.1.1
  have hb := C0.1.2.1
  have hl : lv_has ls 1 [(0, .ref (a 0))] := hl
  unfold fX7_trace at hf
  refine lv_aload_n hx hb dX7_trace_0 rfl (lv_at hl 0 rfl) ?_
  refine xg_M_1 C0 hP q_598 dX7_trace_1 ?_
  obtain rfl := Option.some.inj hf
  exact kret_i C0 hr hlk hP hS dX7_trace_4
set_option maxHeartbeats 4000000 in
set_option maxRecDepth 100000 in
theorem cX7_fault_c {l : Launch} {D : va_G} {cI cS : ClassId} {a : Nat → Nat} (hap : kAp a 15) {v : kV} {ar : kR} {r : Int32} (hf : fX7_fault v ar = some r) : kMet l D cI cS (mW cI a) (kA a 15) yX7_fault cX7_fault 1 (some .int) 0 0 [.ref (a 0)] v ar (some (.int r)) v ar := by
  refine kstart (by decide) (Nat.le_of_ble_eq_true rfl) ?_
  intro p e s m args below meth c ls C0 hr hlk hl hP hS
  have C0 : kC p s m c args cX7_fault 1 RX7 D cI cS := C0
  have hx := C0.1.1
  have hb := C0.1.2.1
  have hl : lv_has ls 1 [(0, .ref (a 0))] := hl
  unfold fX7_fault at hf
  refine lv_aload_n hx hb dX7_fault_0 rfl (lv_at hl 0 rfl) ?_
  refine xg_M_0 C0 hP q_597 dX7_fault_1 ?_
  obtain rfl := Option.some.inj hf
  exact kret_i C0 hr hlk hP hS dX7_fault_4
set_option maxHeartbeats 4000000 in
set_option maxRecDepth 100000 in
theorem cX7_many_c {l : Launch} {D : va_G} {cI cS : ClassId} {a : Nat → Nat} (hap : kAp a 15) {v : kV} {ar : kR} {p1 : Int32} {r : Int32} (hf : fX7_many v ar p1 = some r) : kMet l D cI cS (mW cI a) (kA a 15) yX7_many cX7_many 2 (some .int) 2 46 [.ref (a 0), .int p1] v ar (some (.int r)) v ar := by
  refine kstart (by decide) (Nat.le_of_ble_eq_true rfl) ?_
  intro p e s m args below meth c ls C0 hr hlk hl hP hS
  have C0 : kC p s m c args cX7_many 2 RX7 D cI cS := C0
  have hx := C0.1.1
  have hb := C0.1.2.1
  have hl : lv_has ls 2 [(0, .ref (a 0)), (1, .int p1)] := hl
  unfold fX7_many at hf
  refine lv_iload_n hx hb dX7_many_0 rfl (lv_at hl 1 rfl) ?_
  by_cases c1 : p1 = (0 : Int32)
  · have hf := kif_t c1 hf
    refine lv_tableIn (tgt := 36) (off := (35 : Int)) hx hb dX7_many_1 (by rw [c1]; decide) (by rw [c1]; decide) (by rw [c1]; decide) (by decide) ?_
    refine lv_aload_n hx hb dX7_many_36 rfl (lv_at hl 0 rfl) ?_
    refine xg_M_5 C0 hP q_602 dX7_many_37 ?_
    obtain rfl := Option.some.inj hf
    exact kret_i C0 hr hlk hP hS dX7_many_40
  · have hf := kif_f c1 hf
    by_cases c2 : p1 = (1 : Int32)
    · have hf := kif_t c2 hf
      refine lv_tableIn (tgt := 41) (off := (40 : Int)) hx hb dX7_many_1 (by rw [c2]; decide) (by rw [c2]; decide) (by rw [c2]; decide) (by decide) ?_
      refine lv_aload_n hx hb dX7_many_41 rfl (lv_at hl 0 rfl) ?_
      refine xg_M_6 C0 hP q_603 dX7_many_42 ?_
      obtain rfl := Option.some.inj hf
      exact kret_i C0 hr hlk hP hS dX7_many_45
    · have hf := kif_f c2 hf
      by_cases c3 : p1 = (2 : Int32)
      · have hf := kif_t c3 hf
        refine lv_tableIn (tgt := 46) (off := (45 : Int)) hx hb dX7_many_1 (by rw [c3]; decide) (by rw [c3]; decide) (by rw [c3]; decide) (by decide) ?_
        refine lv_aload_n hx hb dX7_many_46 rfl (lv_at hl 0 rfl) ?_
        refine lv_aload_n hx hb dX7_many_47 rfl (lv_at hl 0 rfl) ?_
        refine xg_M_7 C0 hP q_604 dX7_many_48 ?_
        obtain ⟨r5, e4, hf⟩ := kb1_s hf
        refine kcallV (As := [.int (v (7))]) (rest := []) C0 (cX7_cutsBy_c hap e4) q_757 kw_X7_cutsBy (xv_M C0.2 hP) hP hS ⟨Nat.le_of_ble_eq_true rfl, Nat.le_of_ble_eq_true rfl⟩ rfl hl.1 rfl (Nat.le_of_ble_eq_true rfl) dX7_many_51 (fun H locs hP hS => ?_)
        obtain rfl := Option.some.inj hf
        exact kret_i C0 hr hlk hP hS dX7_many_54
      · have hf := kif_f c3 hf
        by_cases c6 : p1 = (3 : Int32)
        · have hf := kif_t c6 hf
          refine lv_tableIn (tgt := 55) (off := (54 : Int)) hx hb dX7_many_1 (by rw [c6]; decide) (by rw [c6]; decide) (by rw [c6]; decide) (by decide) ?_
          refine lv_aload_n hx hb dX7_many_55 rfl (lv_at hl 0 rfl) ?_
          refine xg_M_11 C0 hP q_608 dX7_many_56 ?_
          obtain rfl := Option.some.inj hf
          exact kret_i C0 hr hlk hP hS dX7_many_59
        · have hf := kif_f c6 hf
          by_cases c7 : p1 = (4 : Int32)
          · have hf := kif_t c7 hf
            refine lv_tableIn (tgt := 60) (off := (59 : Int)) hx hb dX7_many_1 (by rw [c7]; decide) (by rw [c7]; decide) (by rw [c7]; decide) (by decide) ?_
            refine lv_aload_n hx hb dX7_many_60 rfl (lv_at hl 0 rfl) ?_
            refine xg_M_29 C0 hP q_626 dX7_many_61 ?_
            obtain rfl := Option.some.inj hf
            exact kret_i C0 hr hlk hP hS dX7_many_64
          · have hf := kif_f c7 hf
            refine lv_tableOut (tgt := 65) hx hb dX7_many_1 (kswO 5 (by decide) (fun k hk => match k, hk with | 0, _ => lv_neT c1 (by decide) | 1, _ => lv_neT c2 (by decide) | 2, _ => lv_neT c3 (by decide) | 3, _ => lv_neT c6 (by decide) | 4, _ => lv_neT c7 (by decide) | n + 5, hk => absurd hk (by omega))) (by decide) ?_
            refine lv_bipush (v := (-2 : Int32)) hx hb dX7_many_65 (by decide) ?_
            obtain rfl := Option.some.inj hf
            exact kret_i C0 hr hlk hP hS dX7_many_67
