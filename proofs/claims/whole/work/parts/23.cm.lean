set_option maxHeartbeats 4000000 in
set_option maxRecDepth 100000 in
theorem cX7_closest_c {l : Launch} {D : va_G} {cI cS : ClassId} {a : Nat → Nat} (hap : kAp a 15) {v : kV} {ar : kR} {p1 : Int32} {r : Int32} (hf : fX7_closest v ar p1 = some r) : kMet l D cI cS (mW cI a) (kA a 15) yX7_closest cX7_closest 8 (some .int) 2 44 [.ref (a 0), .int p1] v ar (some (.int r)) v ar := by
  refine kstart (by decide) (Nat.le_of_ble_eq_true rfl) ?_
  intro p e s m args below meth c ls C0 hr hlk hl hP hS
  have C0 : kC p s m c args cX7_closest 8 RX7 D cI cS := C0
  have hx := C0.1.1
  have hb := C0.1.2.1
  have hl : lv_has ls 8 [(0, .ref (a 0)), (1, .int p1)] := hl
  have hB92 : ∀ (rec34 : Int32 → Int32 → Int32 → Int32 → Option Int32) (hrec34 : ∀ (x2 : Int32) (x3 : Int32) (x4 : Int32) (x5 : Int32) (H : Heap) (locs : List Loc) (ls : Array Slot), rec34 x2 x3 x4 x5 = some r → va_P D vwCl (mW cI a v ar) H → va_S (kA a 15) s.heap H locs → lv_has ls 8 [(0, .ref (a 0)), (1, .int p1), (2, .int x2), (3, .int x3), (4, .int x4), (5, .int x5)] → kGo p l e 2 44 s m args below meth c D (mW cI a) (kA a 15) (some (.int r)) v ar H locs (F0 m 34 ls [])) (rec49 : Int32 → Int32 → Int32 → Int32 → Int32 → Option Int32) (hrec49 : ∀ (x2 : Int32) (x3 : Int32) (x4 : Int32) (x5 : Int32) (x6 : Int32) (H : Heap) (locs : List Loc) (ls : Array Slot), rec49 x2 x3 x4 x5 x6 = some r → va_P D vwCl (mW cI a v ar) H → va_S (kA a 15) s.heap H locs → lv_has ls 8 [(0, .ref (a 0)), (1, .int p1), (2, .int x2), (3, .int x3), (4, .int x4), (5, .int x5), (6, .int x6)] → kGo p l e 2 44 s m args below meth c D (mW cI a) (kA a 15) (some (.int r)) v ar H locs (F0 m 49 ls [])) , ∀ (x2 : Int32) (x3 : Int32) (x4 : Int32) (x5 : Int32) (x6 : Int32) (H : Heap) (locs : List Loc) (ls : Array Slot), fX7_closest_92 v ar p1 rec34 rec49 x2 x3 x4 x5 x6 = some r → va_P D vwCl (mW cI a v ar) H → va_S (kA a 15) s.heap H locs → lv_has ls 8 [(0, .ref (a 0)), (1, .int p1), (2, .int x2), (3, .int x3), (4, .int x4), (5, .int x5), (6, .int x6)] → kGo p l e 2 44 s m args below meth c D (mW cI a) (kA a 15) (some (.int r)) v ar H locs (F0 m 92 ls []) := by
    intro rec34 hrec34 rec49 hrec49 x2 x3 x4 x5 x6 H locs ls hf hP hS hl
    unfold fX7_closest_92 at hf
    refine lv_iinc (v := (x6 + (1 : Int32))) (lv' := [(6, .int (x6 + (1 : Int32))), (0, .ref (a 0)), (1, .int p1), (2, .int x2), (3, .int x3), (4, .int x4), (5, .int x5)]) hx hb dX7_closest_92 hl (k := 6) rfl rfl (by decide) rfl (fun ls hl => ?_)
    refine lv_goto (tgt := 49) hx hb dX7_closest_95 (by decide) ?_
    exact hrec49 _ _ _ _ _ _ _ _ hf hP hS (lv_sub hl [1, 2, 3, 4, 5, 6, 0] rfl)
  have hB49 : ∀ (rec34 : Int32 → Int32 → Int32 → Int32 → Option Int32) (hrec34 : ∀ (x2 : Int32) (x3 : Int32) (x4 : Int32) (x5 : Int32) (H : Heap) (locs : List Loc) (ls : Array Slot), rec34 x2 x3 x4 x5 = some r → va_P D vwCl (mW cI a v ar) H → va_S (kA a 15) s.heap H locs → lv_has ls 8 [(0, .ref (a 0)), (1, .int p1), (2, .int x2), (3, .int x3), (4, .int x4), (5, .int x5)] → kGo p l e 2 44 s m args below meth c D (mW cI a) (kA a 15) (some (.int r)) v ar H locs (F0 m 34 ls [])) (n : Nat), ∀ (x2 : Int32) (x3 : Int32) (x4 : Int32) (x5 : Int32) (x6 : Int32) (H : Heap) (locs : List Loc) (ls : Array Slot), fX7_closest_49 v ar p1 rec34 n x2 x3 x4 x5 x6 = some r → va_P D vwCl (mW cI a v ar) H → va_S (kA a 15) s.heap H locs → lv_has ls 8 [(0, .ref (a 0)), (1, .int p1), (2, .int x2), (3, .int x3), (4, .int x4), (5, .int x5), (6, .int x6)] → kGo p l e 2 44 s m args below meth c D (mW cI a) (kA a 15) (some (.int r)) v ar H locs (F0 m 49 ls []) := by
    intro rec34 hrec34 n
    induction n with
    | zero =>
      intro x2 x3 x4 x5 x6 H locs ls hf
      have hf : (none : Option Int32) = some r := hf
      cases hf
    | succ n ih =>
      intro x2 x3 x4 x5 x6 H locs ls hf hP hS hl
      have hf : fX7_closest_49b v ar p1 rec34 (fX7_closest_49 v ar p1 rec34 n) x2 x3 x4 x5 x6 = some r := hf
      unfold fX7_closest_49b at hf
      refine lv_iload hx hb dX7_closest_49 (lv_at hl 6 rfl) ?_
      refine lv_aload_n hx hb dX7_closest_51 rfl (lv_at hl 0 rfl) ?_
      refine xg_M_5 C0 hP q_602 dX7_closest_52 ?_
      refine lv_icmp_ge (tgt := 98) hx hb dX7_closest_55 (by decide) (fun c8 => ?_) (fun c8 => ?_)
      · have hf := kif_t c8 hf
        refine lv_iinc (v := (x5 + (1 : Int32))) (lv' := [(5, .int (x5 + (1 : Int32))), (0, .ref (a 0)), (1, .int p1), (2, .int x2), (3, .int x3), (4, .int x4), (6, .int x6)]) hx hb dX7_closest_98 hl (k := 5) rfl rfl (by decide) rfl (fun ls hl => ?_)
        refine lv_goto (tgt := 34) hx hb dX7_closest_101 (by decide) ?_
        exact hrec34 _ _ _ _ _ _ _ hf hP hS (lv_sub hl [1, 2, 3, 4, 5, 0] rfl)
      · have hf := kif_f c8 hf
        refine lv_aload_n hx hb dX7_closest_58 rfl (lv_at hl 0 rfl) ?_
        refine lv_iload hx hb dX7_closest_59 (lv_at hl 5 rfl) ?_
        obtain ⟨r10, e9, hf⟩ := kb1_s hf
        refine kcallV (As := [.int x5]) (rest := []) C0 (cX7_netsOf_c hap e9) q_749 kw_X7_netsOf (xv_M C0.2 hP) hP hS ⟨Nat.le_of_ble_eq_true rfl, Nat.le_of_ble_eq_true rfl⟩ rfl hl.1 rfl (Nat.le_of_ble_eq_true rfl) dX7_closest_61 (fun H locs hP hS => ?_)
        refine lv_aload_n hx hb dX7_closest_64 rfl (lv_at hl 0 rfl) ?_
        refine lv_iload hx hb dX7_closest_65 (lv_at hl 6 rfl) ?_
        obtain ⟨r12, e11, hf⟩ := kb1_s hf
        refine kcallV (As := [.int x6]) (rest := [.int r10]) C0 (cX7_netsOf_c hap e11) q_749 kw_X7_netsOf (xv_M C0.2 hP) hP hS ⟨Nat.le_of_ble_eq_true rfl, Nat.le_of_ble_eq_true rfl⟩ rfl hl.1 rfl (Nat.le_of_ble_eq_true rfl) dX7_closest_67 (fun H locs hP hS => ?_)
        refine lv_iand hx hb dX7_closest_70 ?_
        obtain ⟨r14, e13, hf⟩ := kb1_s hf
        refine kcallT (As := [.int (r10 &&& r12)]) (rest := []) C0 (cX7_size_c hap e13) q_731 kw_X7_size hP hS ⟨Nat.le_of_ble_eq_true rfl, Nat.le_of_ble_eq_true rfl⟩ rfl hl.1 rfl (Nat.le_of_ble_eq_true rfl) dX7_closest_71 (fun H locs hP hS => ?_)
        refine lv_istore (lv' := [(7, .int r14), (0, .ref (a 0)), (1, .int p1), (2, .int x2), (3, .int x3), (4, .int x4), (5, .int x5), (6, .int x6)]) hx hb dX7_closest_74 hl (by decide) rfl (fun ls hl => ?_)
        refine lv_iload hx hb dX7_closest_76 (lv_at hl 0 rfl) ?_
        refine lv_iload_n hx hb dX7_closest_78 rfl (lv_at hl 3 rfl) ?_
        refine lv_icmp_le (tgt := 92) hx hb dX7_closest_79 (by decide) (fun c15 => ?_) (fun c15 => ?_)
        · have hf := kif_t c15 hf
          exact hB92 _ hrec34 _ ih _ _ _ _ _ _ _ _ hf hP hS (lv_sub hl [1, 2, 3, 4, 5, 6, 7] rfl)
        · have hf := kif_f c15 hf
          refine lv_iload hx hb dX7_closest_82 (lv_at hl 0 rfl) ?_
          refine lv_istore_n (lv' := [(2, .int r14), (7, .int r14), (0, .ref (a 0)), (1, .int p1), (3, .int x3), (4, .int x4), (5, .int x5), (6, .int x6)]) hx hb dX7_closest_84 rfl hl (by decide) rfl (fun ls hl => ?_)
          refine lv_iload hx hb dX7_closest_85 (lv_at hl 6 rfl) ?_
          refine lv_istore_n (lv' := [(3, .int x5), (2, .int r14), (7, .int r14), (0, .ref (a 0)), (1, .int p1), (4, .int x4), (5, .int x5), (6, .int x6)]) hx hb dX7_closest_87 rfl hl (by decide) rfl (fun ls hl => ?_)
          refine lv_iload hx hb dX7_closest_88 (lv_at hl 7 rfl) ?_
          refine lv_istore (lv' := [(4, .int x6), (3, .int x5), (2, .int r14), (7, .int r14), (0, .ref (a 0)), (1, .int p1), (5, .int x5), (6, .int x6)]) hx hb dX7_closest_90 hl (by decide) rfl (fun ls hl => ?_)
          exact hB92 _ hrec34 _ ih _ _ _ _ _ _ _ _ hf hP hS (lv_sub hl [4, 5, 2, 1, 0, 6, 7] rfl)
  have hB34 : ∀ (n : Nat), ∀ (x2 : Int32) (x3 : Int32) (x4 : Int32) (x5 : Int32) (H : Heap) (locs : List Loc) (ls : Array Slot), fX7_closest_34 v ar p1 n x2 x3 x4 x5 = some r → va_P D vwCl (mW cI a v ar) H → va_S (kA a 15) s.heap H locs → lv_has ls 8 [(0, .ref (a 0)), (1, .int p1), (2, .int x2), (3, .int x3), (4, .int x4), (5, .int x5)] → kGo p l e 2 44 s m args below meth c D (mW cI a) (kA a 15) (some (.int r)) v ar H locs (F0 m 34 ls []) := by
    intro  n
    induction n with
    | zero =>
      intro x2 x3 x4 x5 H locs ls hf
      have hf : (none : Option Int32) = some r := hf
      cases hf
    | succ n ih =>
      intro x2 x3 x4 x5 H locs ls hf hP hS hl
      have hf : fX7_closest_34b v ar p1 (fX7_closest_34 v ar p1 n) x2 x3 x4 x5 = some r := hf
      unfold fX7_closest_34b at hf
      refine lv_iload hx hb dX7_closest_34 (lv_at hl 5 rfl) ?_
      refine lv_aload_n hx hb dX7_closest_36 rfl (lv_at hl 0 rfl) ?_
      refine xg_M_5 C0 hP q_602 dX7_closest_37 ?_
      refine lv_icmp_ge (tgt := 104) hx hb dX7_closest_40 (by decide) (fun c5 => ?_) (fun c5 => ?_)
      · have hf := kif_t c5 hf
        refine lv_iload_n hx hb dX7_closest_104 rfl (lv_at hl 1 rfl) ?_
        refine lv_if_ne (tgt := 112) hx hb dX7_closest_105 (by decide) (fun c6 => ?_) (fun c6 => ?_)
        · have hf := kif_f c6 hf
          refine lv_iload_n hx hb dX7_closest_112 rfl (lv_at hl 1 rfl) ?_
          refine lv_iconst (v := (1 : Int32)) hx hb dX7_closest_113 (by decide) ?_
          refine lv_icmp_ne (tgt := 121) hx hb dX7_closest_114 (by decide) (fun c7 => ?_) (fun c7 => ?_)
          · have hf := kif_f c7 hf
            refine lv_iload hx hb dX7_closest_121 (lv_at hl 4 rfl) ?_
            obtain rfl := Option.some.inj hf
            exact kret_i C0 hr hlk hP hS dX7_closest_123
          · have hf := kif_t c7 hf
            refine lv_iload_n hx hb dX7_closest_117 rfl (lv_at hl 3 rfl) ?_
            refine lv_goto (tgt := 123) hx hb dX7_closest_118 (by decide) ?_
            obtain rfl := Option.some.inj hf
            exact kret_i C0 hr hlk hP hS dX7_closest_123
        · have hf := kif_t c6 hf
          refine lv_iload_n hx hb dX7_closest_108 rfl (lv_at hl 2 rfl) ?_
          refine lv_goto (tgt := 123) hx hb dX7_closest_109 (by decide) ?_
          obtain rfl := Option.some.inj hf
          exact kret_i C0 hr hlk hP hS dX7_closest_123
      · have hf := kif_f c5 hf
        refine lv_iload hx hb dX7_closest_43 (lv_at hl 5 rfl) ?_
        refine lv_iconst (v := (1 : Int32)) hx hb dX7_closest_45 (by decide) ?_
        refine lv_iadd hx hb dX7_closest_46 ?_
        refine lv_istore (lv' := [(6, .int (x5 + (1 : Int32))), (0, .ref (a 0)), (1, .int p1), (2, .int x2), (3, .int x3), (4, .int x4), (5, .int x5)]) hx hb dX7_closest_47 hl (by decide) rfl (fun ls hl => ?_)
        exact hB49 _ ih _ _ _ _ _ _ _ _ _ hf hP hS (lv_sub hl [1, 2, 3, 4, 5, 6, 0] rfl)
  unfold fX7_closest at hf
  refine lv_aload_n hx hb dX7_closest_0 rfl (lv_at hl 0 rfl) ?_
  refine xg_M_5 C0 hP q_602 dX7_closest_1 ?_
  refine lv_iconst (v := (2 : Int32)) hx hb dX7_closest_4 (by decide) ?_
  refine lv_icmp_ge (tgt := 11) hx hb dX7_closest_5 (by decide) (fun c1 => ?_) (fun c1 => ?_)
  · have hf := kif_t c1 hf
    refine lv_iload_n hx hb dX7_closest_11 rfl (lv_at hl 1 rfl) ?_
    refine lv_iconst (v := (0 : Int32)) hx hb dX7_closest_12 (by decide) ?_
    refine lv_iconst (v := (2 : Int32)) hx hb dX7_closest_13 (by decide) ?_
    obtain ⟨r3, e2, hf⟩ := kb1_s hf
    refine kcallT (As := [.int p1, .int (0 : Int32), .int (2 : Int32)]) (rest := []) C0 (cX7_within_c hap e2) q_701 kw_X7_within hP hS ⟨Nat.le_of_ble_eq_true rfl, Nat.le_of_ble_eq_true rfl⟩ rfl hl.1 rfl (Nat.le_of_ble_eq_true rfl) dX7_closest_14 (fun H locs hP hS => ?_)
    refine lv_if_ne (tgt := 23) hx hb dX7_closest_17 (by decide) (fun c4 => ?_) (fun c4 => ?_)
    · have hf := kif_f c4 hf
      refine lv_bipush (v := (-9 : Int32)) hx hb dX7_closest_23 (by decide) ?_
      refine lv_istore_n (lv' := [(2, .int (-9 : Int32)), (0, .ref (a 0)), (1, .int p1)]) hx hb dX7_closest_25 rfl hl (by decide) rfl (fun ls hl => ?_)
      refine lv_iconst (v := (0 : Int32)) hx hb dX7_closest_26 (by decide) ?_
      refine lv_istore_n (lv' := [(3, .int (0 : Int32)), (2, .int (-9 : Int32)), (0, .ref (a 0)), (1, .int p1)]) hx hb dX7_closest_27 rfl hl (by decide) rfl (fun ls hl => ?_)
      refine lv_iconst (v := (0 : Int32)) hx hb dX7_closest_28 (by decide) ?_
      refine lv_istore (lv' := [(4, .int (0 : Int32)), (3, .int (0 : Int32)), (2, .int (-9 : Int32)), (0, .ref (a 0)), (1, .int p1)]) hx hb dX7_closest_29 hl (by decide) rfl (fun ls hl => ?_)
      refine lv_iconst (v := (0 : Int32)) hx hb dX7_closest_31 (by decide) ?_
      refine lv_istore (lv' := [(5, .int (0 : Int32)), (4, .int (0 : Int32)), (3, .int (0 : Int32)), (2, .int (-9 : Int32)), (0, .ref (a 0)), (1, .int p1)]) hx hb dX7_closest_32 hl (by decide) rfl (fun ls hl => ?_)
      exact hB34 _ _ _ _ _ _ _ _ hf hP hS (lv_sub hl [4, 5, 3, 2, 1, 0] rfl)
    · have hf := kif_t c4 hf
      refine lv_bipush (v := (-2 : Int32)) hx hb dX7_closest_20 (by decide) ?_
      obtain rfl := Option.some.inj hf
      exact kret_i C0 hr hlk hP hS dX7_closest_22
  · have hf := kif_f c1 hf
    refine lv_bipush (v := (-3 : Int32)) hx hb dX7_closest_8 (by decide) ?_
    obtain rfl := Option.some.inj hf
    exact kret_i C0 hr hlk hP hS dX7_closest_10
set_option maxHeartbeats 4000000 in
set_option maxRecDepth 100000 in
theorem cX7_rack_c {l : Launch} {D : va_G} {cI cS : ClassId} {a : Nat → Nat} (hap : kAp a 15) {v : kV} {ar : kR} {p1 : Int32} {p2 : Int32} {r : Int32} {v2 : kV} {ar2 : kR} (hf : fX7_rack v ar p1 p2 = some (r, v2, ar2)) : kMet l D cI cS (mW cI a) (kA a 15) yX7_rack cX7_rack 4 (some .int) 1 22 [.ref (a 0), .int p1, .int p2] v ar (some (.int r)) v2 ar2 := by
  refine kstart (by decide) (Nat.le_of_ble_eq_true rfl) ?_
  intro p e s m args below meth c ls C0 hr hlk hl hP hS
  have C0 : kC p s m c args cX7_rack 4 RX7 D cI cS := C0
  have hx := C0.1.1
  have hb := C0.1.2.1
  have hl : lv_has ls 4 [(0, .ref (a 0)), (1, .int p1), (2, .int p2)] := hl
  have hB55 : ∀ (n : Nat), ∀ (x3 : Int32) (v : kV) (ar : kR) (H : Heap) (locs : List Loc) (ls : Array Slot), fX7_rack_55 p1 p2 n x3 v ar = some (r, v2, ar2) → va_P D vwCl (mW cI a v ar) H → va_S (kA a 15) s.heap H locs → lv_has ls 4 [(0, .ref (a 0)), (2, .int p2), (3, .int x3)] → kGo p l e 1 22 s m args below meth c D (mW cI a) (kA a 15) (some (.int r)) v2 ar2 H locs (F0 m 55 ls []) := by
    intro  n
    induction n with
    | zero =>
      intro x3 v ar H locs ls hf
      have hf : (none : Option (Int32 × kV × kR)) = some (r, v2, ar2) := hf
      cases hf
    | succ n ih =>
      intro x3 v ar H locs ls hf hP hS hl
      have hf : fX7_rack_55b p1 p2 (fX7_rack_55 p1 p2 n) x3 v ar = some (r, v2, ar2) := hf
      unfold fX7_rack_55b at hf
      refine lv_iload_n hx hb dX7_rack_55 rfl (lv_at hl 2 rfl) ?_
      refine lv_bipush (v := (9 : Int32)) hx hb dX7_rack_56 (by decide) ?_
      refine lv_icmp_ge (tgt := 75) hx hb dX7_rack_58 (by decide) (fun c7 => ?_) (fun c7 => ?_)
      · have hf := kif_t c7 hf
        refine lv_iload_n hx hb dX7_rack_75 rfl (lv_at hl 1 rfl) ?_
        obtain ⟨rfl, rfl, rfl⟩ := kinj3 hf
        exact kret_i C0 hr hlk hP hS dX7_rack_76
      · have hf := kif_f c7 hf
        refine lv_aload_n hx hb dX7_rack_61 rfl (lv_at hl 0 rfl) ?_
        refine xg_M_12 C0 hP q_609 dX7_rack_62 ?_
        refine lv_iload_n hx hb dX7_rack_65 rfl (lv_at hl 2 rfl) ?_
        refine lv_bipush (v := (-9 : Int32)) hx hb dX7_rack_66 (by decide) ?_
        obtain ⟨g8, hf⟩ := kgd hf
        refine mt_rack C0 hap hP hS g8 dX7_rack_68 (fun H locs hP hS => ?_)
        refine lv_iinc (v := (x3 + (1 : Int32))) (lv' := [(3, .int (x3 + (1 : Int32))), (0, .ref (a 0)), (2, .int p2)]) hx hb dX7_rack_69 hl (k := 2) rfl rfl (by decide) rfl (fun ls hl => ?_)
        refine lv_goto (tgt := 55) hx hb dX7_rack_72 (by decide) ?_
        exact ih _ _ _ _ _ _ hf hP hS (lv_sub hl [1, 2, 0] rfl)
  unfold fX7_rack at hf
  refine lv_aload_n hx hb dX7_rack_0 rfl (lv_at hl 0 rfl) ?_
  refine lv_iconst (v := (0 : Int32)) hx hb dX7_rack_1 (by decide) ?_
  refine xp_M_0 C0 hap hP hS q_597 dX7_rack_2 (fun H locs hP hS => ?_)
  refine lv_aload_n hx hb dX7_rack_5 rfl (lv_at hl 0 rfl) ?_
  refine xg_M_5 C0 hP q_602 dX7_rack_6 ?_
  refine lv_if_ne (tgt := 15) hx hb dX7_rack_9 (by decide) (fun c1 => ?_) (fun c1 => ?_)
  · have hf := kif_f c1 hf
    refine lv_iload_n hx hb dX7_rack_15 rfl (lv_at hl 1 rfl) ?_
    refine lv_iconst (v := (0 : Int32)) hx hb dX7_rack_16 (by decide) ?_
    refine lv_iconst (v := (2 : Int32)) hx hb dX7_rack_17 (by decide) ?_
    obtain ⟨r3, e2, hf⟩ := kb1_s hf
    refine kcallT (As := [.int p1, .int (0 : Int32), .int (2 : Int32)]) (rest := []) C0 (cX7_within_c hap e2) q_701 kw_X7_within hP hS ⟨Nat.le_of_ble_eq_true rfl, Nat.le_of_ble_eq_true rfl⟩ rfl hl.1 rfl (Nat.le_of_ble_eq_true rfl) dX7_rack_18 (fun H locs hP hS => ?_)
    refine lv_if_eq (tgt := 30) hx hb dX7_rack_21 (by decide) (fun c4 => ?_) (fun c4 => ?_)
    · have hf := kif_t c4 hf
      refine lv_bipush (v := (-2 : Int32)) hx hb dX7_rack_30 (by decide) ?_
      obtain ⟨rfl, rfl, rfl⟩ := kinj3 hf
      exact kret_i C0 hr hlk hP hS dX7_rack_32
    · have hf := kif_f c4 hf
      refine lv_iload_n hx hb dX7_rack_24 rfl (lv_at hl 2 rfl) ?_
      refine lv_bipush (v := (9 : Int32)) hx hb dX7_rack_25 (by decide) ?_
      refine lv_icmp_le (tgt := 33) hx hb dX7_rack_27 (by decide) (fun c5 => ?_) (fun c5 => ?_)
      · have hf := kif_t c5 hf
        refine lv_iload_n hx hb dX7_rack_33 rfl (lv_at hl 2 rfl) ?_
        refine lv_if_ge (tgt := 43) hx hb dX7_rack_34 (by decide) (fun c6 => ?_) (fun c6 => ?_)
        · have hf := kif_t c6 hf
          refine lv_aload_n hx hb dX7_rack_43 rfl (lv_at hl 0 rfl) ?_
          refine lv_iload_n hx hb dX7_rack_44 rfl (lv_at hl 1 rfl) ?_
          refine xp_M_10 C0 hap hP hS q_607 dX7_rack_45 (fun H locs hP hS => ?_)
          refine lv_aload_n hx hb dX7_rack_48 rfl (lv_at hl 0 rfl) ?_
          refine lv_iload_n hx hb dX7_rack_49 rfl (lv_at hl 2 rfl) ?_
          refine xp_M_11 C0 hap hP hS q_608 dX7_rack_50 (fun H locs hP hS => ?_)
          refine lv_iconst (v := (0 : Int32)) hx hb dX7_rack_53 (by decide) ?_
          refine lv_istore_n (lv' := [(3, .int (0 : Int32)), (0, .ref (a 0)), (1, .int p1), (2, .int p2)]) hx hb dX7_rack_54 rfl hl (by decide) rfl (fun ls hl => ?_)
          exact hB55 _ _ _ _ _ _ _ hf hP hS (lv_sub hl [1, 3, 0] rfl)
        · have hf := kif_f c6 hf
          refine lv_aload_n hx hb dX7_rack_37 rfl (lv_at hl 0 rfl) ?_
          refine lv_iconst (v := (4 : Int32)) hx hb dX7_rack_38 (by decide) ?_
          obtain ⟨r10, v11, ar12, e9, hf⟩ := kb3_s hf
          refine kcallV (As := [.int (4 : Int32)]) (rest := []) C0 (cX7_fails_c hap e9) q_711 kw_X7_fails (xv_M C0.2 hP) hP hS ⟨Nat.le_of_ble_eq_true rfl, Nat.le_of_ble_eq_true rfl⟩ rfl hl.1 rfl (Nat.le_of_ble_eq_true rfl) dX7_rack_39 (fun H locs hP hS => ?_)
          obtain ⟨rfl, rfl, rfl⟩ := kinj3 hf
          exact kret_i C0 hr hlk hP hS dX7_rack_42
      · have hf := kif_f c5 hf
        refine lv_bipush (v := (-2 : Int32)) hx hb dX7_rack_30 (by decide) ?_
        obtain ⟨rfl, rfl, rfl⟩ := kinj3 hf
        exact kret_i C0 hr hlk hP hS dX7_rack_32
  · have hf := kif_t c1 hf
    refine lv_bipush (v := (-3 : Int32)) hx hb dX7_rack_12 (by decide) ?_
    obtain ⟨rfl, rfl, rfl⟩ := kinj3 hf
    exact kret_i C0 hr hlk hP hS dX7_rack_14
set_option maxHeartbeats 4000000 in
set_option maxRecDepth 100000 in
theorem cX7_stow_c {l : Launch} {D : va_G} {cI cS : ClassId} {a : Nat → Nat} (hap : kAp a 15) {v : kV} {ar : kR} {p1 : Int32} {p2 : Int32} {r : Int32} {v2 : kV} {ar2 : kR} (hf : fX7_stow v ar p1 p2 = some (r, v2, ar2)) : kMet l D cI cS (mW cI a) (kA a 15) yX7_stow cX7_stow 3 (some .int) 1 21 [.ref (a 0), .int p1, .int p2] v ar (some (.int r)) v2 ar2 := by
  refine kstart (by decide) (Nat.le_of_ble_eq_true rfl) ?_
  intro p e s m args below meth c ls C0 hr hlk hl hP hS
  have C0 : kC p s m c args cX7_stow 3 RX7 D cI cS := C0
  have hx := C0.1.1
  have hb := C0.1.2.1
  have hl : lv_has ls 3 [(0, .ref (a 0)), (1, .int p1), (2, .int p2)] := hl
  have hB42 : ∀ (v : kV) (ar : kR) (H : Heap) (locs : List Loc) (ls : Array Slot), fX7_stow_42 p1 p2 v ar = some (r, v2, ar2) → va_P D vwCl (mW cI a v ar) H → va_S (kA a 15) s.heap H locs → lv_has ls 3 [(0, .ref (a 0))] → kGo p l e 1 21 s m args below meth c D (mW cI a) (kA a 15) (some (.int r)) v2 ar2 H locs (F0 m 42 ls []) := by
    intro  v ar H locs ls hf hP hS hl
    unfold fX7_stow_42 at hf
    refine lv_aload_n hx hb dX7_stow_42 rfl (lv_at hl 0 rfl) ?_
    refine lv_iconst (v := (3 : Int32)) hx hb dX7_stow_43 (by decide) ?_
    obtain ⟨r7, v8, ar9, e6, hf⟩ := kb3_s hf
    refine kcallV (As := [.int (3 : Int32)]) (rest := []) C0 (cX7_fails_c hap e6) q_711 kw_X7_fails (xv_M C0.2 hP) hP hS ⟨Nat.le_of_ble_eq_true rfl, Nat.le_of_ble_eq_true rfl⟩ rfl hl.1 rfl (Nat.le_of_ble_eq_true rfl) dX7_stow_44 (fun H locs hP hS => ?_)
    obtain ⟨rfl, rfl, rfl⟩ := kinj3 hf
    exact kret_i C0 hr hlk hP hS dX7_stow_47
  unfold fX7_stow at hf
  refine lv_aload_n hx hb dX7_stow_0 rfl (lv_at hl 0 rfl) ?_
  refine lv_iconst (v := (0 : Int32)) hx hb dX7_stow_1 (by decide) ?_
  refine xp_M_0 C0 hap hP hS q_597 dX7_stow_2 (fun H locs hP hS => ?_)
  refine lv_aload_n hx hb dX7_stow_5 rfl (lv_at hl 0 rfl) ?_
  refine lv_iload_n hx hb dX7_stow_6 rfl (lv_at hl 2 rfl) ?_
  obtain ⟨r2, e1, hf⟩ := kb1_s hf
  refine kcallV (As := [.int p2]) (rest := []) C0 (cX7_isCell_c hap e1) q_741 kw_X7_isCell (xv_M C0.2 hP) hP hS ⟨Nat.le_of_ble_eq_true rfl, Nat.le_of_ble_eq_true rfl⟩ rfl hl.1 rfl (Nat.le_of_ble_eq_true rfl) dX7_stow_7 (fun H locs hP hS => ?_)
  refine lv_if_ne (tgt := 15) hx hb dX7_stow_10 (by decide) (fun c3 => ?_) (fun c3 => ?_)
  · have hf := kif_f c3 hf
    refine lv_aload_n hx hb dX7_stow_15 rfl (lv_at hl 0 rfl) ?_
    refine xg_M_10 C0 hP q_607 dX7_stow_16 ?_
    refine lv_bipush (v := (-9 : Int32)) hx hb dX7_stow_19 (by decide) ?_
    refine lv_icmp_ne (tgt := 30) hx hb dX7_stow_21 (by decide) (fun c4 => ?_) (fun c4 => ?_)
    · have hf := kif_f c4 hf
      refine lv_iload_n hx hb dX7_stow_30 rfl (lv_at hl 1 rfl) ?_
      refine lv_if_lt (tgt := 42) hx hb dX7_stow_31 (by decide) (fun c5 => ?_) (fun c5 => ?_)
      · have hf := kif_t c5 hf
        exact hB42 _ _ _ _ _ hf hP hS (lv_sub hl [0] rfl)
      · have hf := kif_f c5 hf
        refine lv_iload_n hx hb dX7_stow_34 rfl (lv_at hl 1 rfl) ?_
        refine lv_aload_n hx hb dX7_stow_35 rfl (lv_at hl 0 rfl) ?_
        refine xg_M_11 C0 hP q_608 dX7_stow_36 ?_
        refine lv_icmp_lt (tgt := 48) hx hb dX7_stow_39 (by decide) (fun c10 => ?_) (fun c10 => ?_)
        · have hf := kif_t c10 hf
          refine lv_aload_n hx hb dX7_stow_48 rfl (lv_at hl 0 rfl) ?_
          refine xg_M_13 C0 hP q_610 dX7_stow_49 ?_
          refine lv_iload_n hx hb dX7_stow_52 rfl (lv_at hl 2 rfl) ?_
          obtain ⟨g11, hf⟩ := kgd hf
          refine ml_kind C0 hP g11 dX7_stow_53 ?_
          refine lv_aload_n hx hb dX7_stow_54 rfl (lv_at hl 0 rfl) ?_
          refine xg_M_10 C0 hP q_607 dX7_stow_55 ?_
          refine lv_icmp_ge (tgt := 67) hx hb dX7_stow_58 (by decide) (fun c12 => ?_) (fun c12 => ?_)
          · have hf := kif_t c12 hf
            refine lv_aload_n hx hb dX7_stow_67 rfl (lv_at hl 0 rfl) ?_
            refine xg_M_12 C0 hP q_609 dX7_stow_68 ?_
            refine lv_iload_n hx hb dX7_stow_71 rfl (lv_at hl 1 rfl) ?_
            refine lv_iload_n hx hb dX7_stow_72 rfl (lv_at hl 2 rfl) ?_
            obtain ⟨g13, hf⟩ := kgd hf
            refine mt_rack C0 hap hP hS g13 dX7_stow_73 (fun H locs hP hS => ?_)
            refine lv_iconst (v := (1 : Int32)) hx hb dX7_stow_74 (by decide) ?_
            obtain ⟨rfl, rfl, rfl⟩ := kinj3 hf
            exact kret_i C0 hr hlk hP hS dX7_stow_75
          · have hf := kif_f c12 hf
            refine lv_aload_n hx hb dX7_stow_61 rfl (lv_at hl 0 rfl) ?_
            refine lv_iconst (v := (5 : Int32)) hx hb dX7_stow_62 (by decide) ?_
            obtain ⟨r15, v16, ar17, e14, hf⟩ := kb3_s hf
            refine kcallV (As := [.int (5 : Int32)]) (rest := []) C0 (cX7_fails_c hap e14) q_711 kw_X7_fails (xv_M C0.2 hP) hP hS ⟨Nat.le_of_ble_eq_true rfl, Nat.le_of_ble_eq_true rfl⟩ rfl hl.1 rfl (Nat.le_of_ble_eq_true rfl) dX7_stow_63 (fun H locs hP hS => ?_)
            obtain ⟨rfl, rfl, rfl⟩ := kinj3 hf
            exact kret_i C0 hr hlk hP hS dX7_stow_66
        · have hf := kif_f c10 hf
          exact hB42 _ _ _ _ _ hf hP hS (lv_sub hl [0] rfl)
    · have hf := kif_t c4 hf
      refine lv_aload_n hx hb dX7_stow_24 rfl (lv_at hl 0 rfl) ?_
      refine lv_iconst (v := (1 : Int32)) hx hb dX7_stow_25 (by decide) ?_
      obtain ⟨r19, v20, ar21, e18, hf⟩ := kb3_s hf
      refine kcallV (As := [.int (1 : Int32)]) (rest := []) C0 (cX7_fails_c hap e18) q_711 kw_X7_fails (xv_M C0.2 hP) hP hS ⟨Nat.le_of_ble_eq_true rfl, Nat.le_of_ble_eq_true rfl⟩ rfl hl.1 rfl (Nat.le_of_ble_eq_true rfl) dX7_stow_26 (fun H locs hP hS => ?_)
      obtain ⟨rfl, rfl, rfl⟩ := kinj3 hf
      exact kret_i C0 hr hlk hP hS dX7_stow_29
  · have hf := kif_t c3 hf
    refine lv_iconst (v := (-1 : Int32)) hx hb dX7_stow_13 (by decide) ?_
    obtain ⟨rfl, rfl, rfl⟩ := kinj3 hf
    exact kret_i C0 hr hlk hP hS dX7_stow_14
set_option maxHeartbeats 4000000 in
set_option maxRecDepth 100000 in
theorem cX7_stowed_c {l : Launch} {D : va_G} {cI cS : ClassId} {a : Nat → Nat} (hap : kAp a 15) {v : kV} {ar : kR} {p1 : Int32} {r : Int32} {v2 : kV} {ar2 : kR} (hf : fX7_stowed v ar p1 = some (r, v2, ar2)) : kMet l D cI cS (mW cI a) (kA a 15) yX7_stowed cX7_stowed 2 (some .int) 1 21 [.ref (a 0), .int p1] v ar (some (.int r)) v2 ar2 := by
  refine kstart (by decide) (Nat.le_of_ble_eq_true rfl) ?_
  intro p e s m args below meth c ls C0 hr hlk hl hP hS
  have C0 : kC p s m c args cX7_stowed 2 RX7 D cI cS := C0
  have hx := C0.1.1
  have hb := C0.1.2.1
  have hl : lv_has ls 2 [(0, .ref (a 0)), (1, .int p1)] := hl
  have hB32 : ∀ (v : kV) (ar : kR) (H : Heap) (locs : List Loc) (ls : Array Slot), fX7_stowed_32 p1 v ar = some (r, v2, ar2) → va_P D vwCl (mW cI a v ar) H → va_S (kA a 15) s.heap H locs → lv_has ls 2 [(0, .ref (a 0))] → kGo p l e 1 21 s m args below meth c D (mW cI a) (kA a 15) (some (.int r)) v2 ar2 H locs (F0 m 32 ls []) := by
    intro  v ar H locs ls hf hP hS hl
    unfold fX7_stowed_32 at hf
    refine lv_aload_n hx hb dX7_stowed_32 rfl (lv_at hl 0 rfl) ?_
    refine lv_iconst (v := (3 : Int32)) hx hb dX7_stowed_33 (by decide) ?_
    obtain ⟨r4, v5, ar6, e3, hf⟩ := kb3_s hf
    refine kcallV (As := [.int (3 : Int32)]) (rest := []) C0 (cX7_fails_c hap e3) q_711 kw_X7_fails (xv_M C0.2 hP) hP hS ⟨Nat.le_of_ble_eq_true rfl, Nat.le_of_ble_eq_true rfl⟩ rfl hl.1 rfl (Nat.le_of_ble_eq_true rfl) dX7_stowed_34 (fun H locs hP hS => ?_)
    refine lv_goto (tgt := 46) hx hb dX7_stowed_37 (by decide) ?_
    obtain ⟨rfl, rfl, rfl⟩ := kinj3 hf
    exact kret_i C0 hr hlk hP hS dX7_stowed_46
  unfold fX7_stowed at hf
  refine lv_aload_n hx hb dX7_stowed_0 rfl (lv_at hl 0 rfl) ?_
  refine lv_iconst (v := (0 : Int32)) hx hb dX7_stowed_1 (by decide) ?_
  refine xp_M_0 C0 hap hP hS q_597 dX7_stowed_2 (fun H locs hP hS => ?_)
  refine lv_aload_n hx hb dX7_stowed_5 rfl (lv_at hl 0 rfl) ?_
  refine xg_M_10 C0 hP q_607 dX7_stowed_6 ?_
  refine lv_bipush (v := (-9 : Int32)) hx hb dX7_stowed_9 (by decide) ?_
  refine lv_icmp_ne (tgt := 20) hx hb dX7_stowed_11 (by decide) (fun c1 => ?_) (fun c1 => ?_)
  · have hf := kif_f c1 hf
    refine lv_iload_n hx hb dX7_stowed_20 rfl (lv_at hl 1 rfl) ?_
    refine lv_if_lt (tgt := 32) hx hb dX7_stowed_21 (by decide) (fun c2 => ?_) (fun c2 => ?_)
    · have hf := kif_t c2 hf
      exact hB32 _ _ _ _ _ hf hP hS (lv_sub hl [0] rfl)
    · have hf := kif_f c2 hf
      refine lv_iload_n hx hb dX7_stowed_24 rfl (lv_at hl 1 rfl) ?_
      refine lv_aload_n hx hb dX7_stowed_25 rfl (lv_at hl 0 rfl) ?_
      refine xg_M_11 C0 hP q_608 dX7_stowed_26 ?_
      refine lv_icmp_lt (tgt := 40) hx hb dX7_stowed_29 (by decide) (fun c7 => ?_) (fun c7 => ?_)
      · have hf := kif_t c7 hf
        refine lv_aload_n hx hb dX7_stowed_40 rfl (lv_at hl 0 rfl) ?_
        refine xg_M_12 C0 hP q_609 dX7_stowed_41 ?_
        refine lv_iload_n hx hb dX7_stowed_44 rfl (lv_at hl 1 rfl) ?_
        obtain ⟨g8, hf⟩ := kgd hf
        refine ml_rack C0 hP g8 dX7_stowed_45 ?_
        obtain ⟨rfl, rfl, rfl⟩ := kinj3 hf
        exact kret_i C0 hr hlk hP hS dX7_stowed_46
      · have hf := kif_f c7 hf
        exact hB32 _ _ _ _ _ hf hP hS (lv_sub hl [0] rfl)
  · have hf := kif_t c1 hf
    refine lv_aload_n hx hb dX7_stowed_14 rfl (lv_at hl 0 rfl) ?_
    refine lv_iconst (v := (1 : Int32)) hx hb dX7_stowed_15 (by decide) ?_
    obtain ⟨r10, v11, ar12, e9, hf⟩ := kb3_s hf
    refine kcallV (As := [.int (1 : Int32)]) (rest := []) C0 (cX7_fails_c hap e9) q_711 kw_X7_fails (xv_M C0.2 hP) hP hS ⟨Nat.le_of_ble_eq_true rfl, Nat.le_of_ble_eq_true rfl⟩ rfl hl.1 rfl (Nat.le_of_ble_eq_true rfl) dX7_stowed_16 (fun H locs hP hS => ?_)
    obtain ⟨rfl, rfl, rfl⟩ := kinj3 hf
    exact kret_i C0 hr hlk hP hS dX7_stowed_19
set_option maxHeartbeats 4000000 in
set_option maxRecDepth 100000 in
theorem cX7_reading_c {l : Launch} {D : va_G} {cI cS : ClassId} {a : Nat → Nat} (hap : kAp a 15) {v : kV} {ar : kR} {p1 : Int32} {p2 : Int32} {r : Int32} {v2 : kV} {ar2 : kR} (hf : fX7_reading v ar p1 p2 = some (r, v2, ar2)) : kMet l D cI cS (mW cI a) (kA a 15) yX7_reading cX7_reading 3 (some .int) 1 22 [.ref (a 0), .int p1, .int p2] v ar (some (.int r)) v2 ar2 := by
  refine kstart (by decide) (Nat.le_of_ble_eq_true rfl) ?_
  intro p e s m args below meth c ls C0 hr hlk hl hP hS
  have C0 : kC p s m c args cX7_reading 3 RX7 D cI cS := C0
  have hx := C0.1.1
  have hb := C0.1.2.1
  have hl : lv_has ls 3 [(0, .ref (a 0)), (1, .int p1), (2, .int p2)] := hl
  unfold fX7_reading at hf
  refine lv_aload_n hx hb dX7_reading_0 rfl (lv_at hl 0 rfl) ?_
  refine lv_iload_n hx hb dX7_reading_1 rfl (lv_at hl 1 rfl) ?_
  obtain ⟨r2, e1, hf⟩ := kb1_s hf
  refine kcallV (As := [.int p1]) (rest := []) C0 (cX7_isCell_c hap e1) q_741 kw_X7_isCell (xv_M C0.2 hP) hP hS ⟨Nat.le_of_ble_eq_true rfl, Nat.le_of_ble_eq_true rfl⟩ rfl hl.1 rfl (Nat.le_of_ble_eq_true rfl) dX7_reading_2 (fun H locs hP hS => ?_)
  refine lv_if_ne (tgt := 10) hx hb dX7_reading_5 (by decide) (fun c3 => ?_) (fun c3 => ?_)
  · have hf := kif_f c3 hf
    refine lv_iload_n hx hb dX7_reading_10 rfl (lv_at hl 2 rfl) ?_
    refine lv_iconst (v := (0 : Int32)) hx hb dX7_reading_11 (by decide) ?_
    refine lv_ldc (v := (1065353216 : Int32)) hx hb C0.1.2.2.2.1 (C0.1.2.2.2.2 _ q_596) dX7_reading_12 ?_
    obtain ⟨r5, e4, hf⟩ := kb1_s hf
    refine kcallT (As := [.int p2, .int (0 : Int32), .int (1065353216 : Int32)]) (rest := []) C0 (cX7_within_c hap e4) q_701 kw_X7_within hP hS ⟨Nat.le_of_ble_eq_true rfl, Nat.le_of_ble_eq_true rfl⟩ rfl hl.1 rfl (Nat.le_of_ble_eq_true rfl) dX7_reading_14 (fun H locs hP hS => ?_)
    refine lv_if_ne (tgt := 23) hx hb dX7_reading_17 (by decide) (fun c6 => ?_) (fun c6 => ?_)
    · have hf := kif_f c6 hf
      refine lv_aload_n hx hb dX7_reading_23 rfl (lv_at hl 0 rfl) ?_
      refine xg_M_29 C0 hP q_626 dX7_reading_24 ?_
      refine lv_bipush (v := (8 : Int32)) hx hb dX7_reading_27 (by decide) ?_
      refine lv_icmp_ne (tgt := 35) hx hb dX7_reading_29 (by decide) (fun c7 => ?_) (fun c7 => ?_)
      · have hf := kif_f c7 hf
        refine lv_aload_n hx hb dX7_reading_35 rfl (lv_at hl 0 rfl) ?_
        refine xg_M_30 C0 hP q_627 dX7_reading_36 ?_
        refine lv_aload_n hx hb dX7_reading_39 rfl (lv_at hl 0 rfl) ?_
        refine xg_M_29 C0 hP q_626 dX7_reading_40 ?_
        refine lv_iload_n hx hb dX7_reading_43 rfl (lv_at hl 1 rfl) ?_
        obtain ⟨g8, hf⟩ := kgd hf
        refine mt_readOf C0 hap hP hS g8 dX7_reading_44 (fun H locs hP hS => ?_)
        refine lv_aload_n hx hb dX7_reading_45 rfl (lv_at hl 0 rfl) ?_
        refine xg_M_31 C0 hP q_628 dX7_reading_46 ?_
        refine lv_aload_n hx hb dX7_reading_49 rfl (lv_at hl 0 rfl) ?_
        refine xg_M_29 C0 hP q_626 dX7_reading_50 ?_
        refine lv_iload_n hx hb dX7_reading_53 rfl (lv_at hl 2 rfl) ?_
        obtain ⟨g9, hf⟩ := kgd hf
        refine mt_readBits C0 hap hP hS g9 dX7_reading_54 (fun H locs hP hS => ?_)
        refine lv_aload_n hx hb dX7_reading_55 rfl (lv_at hl 0 rfl) ?_
        refine lv_dup hx hb dX7_reading_56 rfl ?_
        refine xg_M_29 C0 hP q_626 dX7_reading_57 ?_
        refine lv_iconst (v := (1 : Int32)) hx hb dX7_reading_60 (by decide) ?_
        refine lv_iadd hx hb dX7_reading_61 ?_
        refine xp_M_29 C0 hap hP hS q_626 dX7_reading_62 (fun H locs hP hS => ?_)
        refine lv_aload_n hx hb dX7_reading_65 rfl (lv_at hl 0 rfl) ?_
        refine xg_M_29 C0 hP q_626 dX7_reading_66 ?_
        refine lv_iconst (v := (1 : Int32)) hx hb dX7_reading_69 (by decide) ?_
        refine lv_isub hx hb dX7_reading_70 ?_
        obtain ⟨rfl, rfl, rfl⟩ := kinj3 hf
        exact kret_i C0 hr hlk hP hS dX7_reading_71
      · have hf := kif_t c7 hf
        refine lv_bipush (v := (-4 : Int32)) hx hb dX7_reading_32 (by decide) ?_
        obtain ⟨rfl, rfl, rfl⟩ := kinj3 hf
        exact kret_i C0 hr hlk hP hS dX7_reading_34
    · have hf := kif_t c6 hf
      refine lv_bipush (v := (-2 : Int32)) hx hb dX7_reading_20 (by decide) ?_
      obtain ⟨rfl, rfl, rfl⟩ := kinj3 hf
      exact kret_i C0 hr hlk hP hS dX7_reading_22
  · have hf := kif_t c3 hf
    refine lv_iconst (v := (-1 : Int32)) hx hb dX7_reading_8 (by decide) ?_
    obtain ⟨rfl, rfl, rfl⟩ := kinj3 hf
    exact kret_i C0 hr hlk hP hS dX7_reading_9
set_option maxHeartbeats 4000000 in
set_option maxRecDepth 100000 in
theorem cX7_back_c {l : Launch} {D : va_G} {cI cS : ClassId} {a : Nat → Nat} (hap : kAp a 15) {v : kV} {ar : kR} {p1 : Int32} {r : Int32} {v2 : kV} {ar2 : kR} (hf : fX7_back v ar p1 = some (r, v2, ar2)) : kMet l D cI cS (mW cI a) (kA a 15) yX7_back cX7_back 2 (some .int) 1 22 [.ref (a 0), .int p1] v ar (some (.int r)) v2 ar2 := by
  refine kstart (by decide) (Nat.le_of_ble_eq_true rfl) ?_
  intro p e s m args below meth c ls C0 hr hlk hl hP hS
  have C0 : kC p s m c args cX7_back 2 RX7 D cI cS := C0
  have hx := C0.1.1
  have hb := C0.1.2.1
  have hl : lv_has ls 2 [(0, .ref (a 0)), (1, .int p1)] := hl
  unfold fX7_back at hf
  refine lv_iload_n hx hb dX7_back_0 rfl (lv_at hl 1 rfl) ?_
  refine lv_iconst (v := (0 : Int32)) hx hb dX7_back_1 (by decide) ?_
  refine lv_aload_n hx hb dX7_back_2 rfl (lv_at hl 0 rfl) ?_
  refine xg_M_29 C0 hP q_626 dX7_back_3 ?_
  obtain ⟨r2, e1, hf⟩ := kb1_s hf
  refine kcallT (As := [.int p1, .int (0 : Int32), .int (v (29))]) (rest := []) C0 (cX7_within_c hap e1) q_701 kw_X7_within hP hS ⟨Nat.le_of_ble_eq_true rfl, Nat.le_of_ble_eq_true rfl⟩ rfl hl.1 rfl (Nat.le_of_ble_eq_true rfl) dX7_back_6 (fun H locs hP hS => ?_)
  refine lv_if_ne (tgt := 15) hx hb dX7_back_9 (by decide) (fun c3 => ?_) (fun c3 => ?_)
  · have hf := kif_f c3 hf
    refine lv_aload_n hx hb dX7_back_15 rfl (lv_at hl 0 rfl) ?_
    refine lv_dup hx hb dX7_back_16 rfl ?_
    refine xg_M_29 C0 hP q_626 dX7_back_17 ?_
    refine lv_iload_n hx hb dX7_back_20 rfl (lv_at hl 1 rfl) ?_
    refine lv_isub hx hb dX7_back_21 ?_
    refine xp_M_29 C0 hap hP hS q_626 dX7_back_22 (fun H locs hP hS => ?_)
    refine lv_aload_n hx hb dX7_back_25 rfl (lv_at hl 0 rfl) ?_
    refine xg_M_29 C0 hP q_626 dX7_back_26 ?_
    obtain ⟨rfl, rfl, rfl⟩ := kinj3 hf
    exact kret_i C0 hr hlk hP hS dX7_back_29
  · have hf := kif_t c3 hf
    refine lv_bipush (v := (-2 : Int32)) hx hb dX7_back_12 (by decide) ?_
    obtain ⟨rfl, rfl, rfl⟩ := kinj3 hf
    exact kret_i C0 hr hlk hP hS dX7_back_14
set_option maxHeartbeats 4000000 in
set_option maxRecDepth 100000 in
theorem cX7_areSo_c {l : Launch} {D : va_G} {cI cS : ClassId} {a : Nat → Nat} (hap : kAp a 15) {v : kV} {ar : kR} {r : Bool} (hf : fX7_areSo v ar = some r) : kMet l D cI cS (mW cI a) (kA a 15) yX7_areSo cX7_areSo 3 (some .boolean) 2 44 [.ref (a 0)] v ar (some (.int (bI r))) v ar := by
  refine kstart (by decide) (Nat.le_of_ble_eq_true rfl) ?_
  intro p e s m args below meth c ls C0 hr hlk hl hP hS
  have C0 : kC p s m c args cX7_areSo 3 RX7 D cI cS := C0
  have hx := C0.1.1
  have hb := C0.1.2.1
  have hl : lv_has ls 3 [(0, .ref (a 0))] := hl
  have hB11 : ∀ (n : Nat), ∀ (x1 : Int32) (x2 : Int32) (H : Heap) (locs : List Loc) (ls : Array Slot), fX7_areSo_11 v ar n x1 x2 = some r → va_P D vwCl (mW cI a v ar) H → va_S (kA a 15) s.heap H locs → lv_has ls 3 [(0, .ref (a 0)), (1, .int x1), (2, .int x2)] → kGo p l e 2 44 s m args below meth c D (mW cI a) (kA a 15) (some (.int (bI r))) v ar H locs (F0 m 11 ls []) := by
    intro  n
    induction n with
    | zero =>
      intro x1 x2 H locs ls hf
      have hf : (none : Option Bool) = some r := hf
      cases hf
    | succ n ih =>
      intro x1 x2 H locs ls hf hP hS hl
      have hf : fX7_areSo_11b v ar (fX7_areSo_11 v ar n) x1 x2 = some r := hf
      unfold fX7_areSo_11b at hf
      refine lv_iload_n hx hb dX7_areSo_11 rfl (lv_at hl 2 rfl) ?_
      refine lv_aload_n hx hb dX7_areSo_12 rfl (lv_at hl 0 rfl) ?_
      refine xg_M_29 C0 hP q_626 dX7_areSo_13 ?_
      refine lv_icmp_ge (tgt := 50) hx hb dX7_areSo_16 (by decide) (fun c5 => ?_) (fun c5 => ?_)
      · have hf := kif_t c5 hf
        refine lv_iconst (v := (1 : Int32)) hx hb dX7_areSo_50 (by decide) ?_
        obtain rfl := Option.some.inj hf
        exact kret_z true rfl C0 hr hlk hP hS dX7_areSo_51
      · have hf := kif_f c5 hf
        refine lv_aload_n hx hb dX7_areSo_19 rfl (lv_at hl 0 rfl) ?_
        refine lv_aload_n hx hb dX7_areSo_20 rfl (lv_at hl 0 rfl) ?_
        refine xg_M_30 C0 hP q_627 dX7_areSo_21 ?_
        refine lv_iload_n hx hb dX7_areSo_24 rfl (lv_at hl 2 rfl) ?_
        obtain ⟨g6, hf⟩ := kgd hf
        refine ml_readOf C0 hP g6 dX7_areSo_25 ?_
        obtain ⟨r8, e7, hf⟩ := kb1_s hf
        refine kcallV (As := [.int (ar (12) x2.toNatClampNeg)]) (rest := []) C0 (cX7_weightOf_c hap e7) q_745 kw_X7_weightOf (xv_M C0.2 hP) hP hS ⟨Nat.le_of_ble_eq_true rfl, Nat.le_of_ble_eq_true rfl⟩ rfl hl.1 rfl (Nat.le_of_ble_eq_true rfl) dX7_areSo_26 (fun H locs hP hS => ?_)
        refine lv_iload_n hx hb dX7_areSo_29 rfl (lv_at hl 1 rfl) ?_
        obtain ⟨r10, e9, hf⟩ := kb1_s hf
        refine kcallT (As := [.int r8, .int x1]) (rest := []) C0 (cX7_floatOf_c hap e9) q_773 kw_X7_floatOf hP hS ⟨Nat.le_of_ble_eq_true rfl, Nat.le_of_ble_eq_true rfl⟩ rfl hl.1 rfl (Nat.le_of_ble_eq_true rfl) dX7_areSo_30 (fun H locs hP hS => ?_)
        refine lv_aload_n hx hb dX7_areSo_33 rfl (lv_at hl 0 rfl) ?_
        refine xg_M_31 C0 hP q_628 dX7_areSo_34 ?_
        refine lv_iload_n hx hb dX7_areSo_37 rfl (lv_at hl 2 rfl) ?_
        obtain ⟨g11, hf⟩ := kgd hf
        refine ml_readBits C0 hP g11 dX7_areSo_38 ?_
        refine lv_icmp_eq (tgt := 44) hx hb dX7_areSo_39 (by decide) (fun c12 => ?_) (fun c12 => ?_)
        · have hf := kif_t c12 hf
          refine lv_iinc (v := (x2 + (1 : Int32))) (lv' := [(2, .int (x2 + (1 : Int32))), (0, .ref (a 0)), (1, .int x1)]) hx hb dX7_areSo_44 hl (k := 2) rfl rfl (by decide) rfl (fun ls hl => ?_)
          refine lv_goto (tgt := 11) hx hb dX7_areSo_47 (by decide) ?_
          exact ih _ _ _ _ _ hf hP hS (lv_sub hl [1, 2, 0] rfl)
        · have hf := kif_f c12 hf
          refine lv_iconst (v := (0 : Int32)) hx hb dX7_areSo_42 (by decide) ?_
          obtain rfl := Option.some.inj hf
          exact kret_z false rfl C0 hr hlk hP hS dX7_areSo_43
  unfold fX7_areSo at hf
  refine lv_aload_n hx hb dX7_areSo_0 rfl (lv_at hl 0 rfl) ?_
  refine lv_aload_n hx hb dX7_areSo_1 rfl (lv_at hl 0 rfl) ?_
  obtain ⟨r2, e1, hf⟩ := kb1_s hf
  refine kcallV (As := []) (rest := [.ref (a 0)]) C0 (cX7_all_c hap e1) q_765 kw_X7_all (xv_M C0.2 hP) hP hS ⟨Nat.le_of_ble_eq_true rfl, Nat.le_of_ble_eq_true rfl⟩ rfl hl.1 rfl (Nat.le_of_ble_eq_true rfl) dX7_areSo_2 (fun H locs hP hS => ?_)
  obtain ⟨r4, e3, hf⟩ := kb1_s hf
  refine kcallV (As := [.int r2]) (rest := []) C0 (cX7_weightOfSet_c hap e3) q_769 kw_X7_weightOfSet (xv_M C0.2 hP) hP hS ⟨Nat.le_of_ble_eq_true rfl, Nat.le_of_ble_eq_true rfl⟩ rfl hl.1 rfl (Nat.le_of_ble_eq_true rfl) dX7_areSo_5 (fun H locs hP hS => ?_)
  refine lv_istore_n (lv' := [(1, .int r4), (0, .ref (a 0))]) hx hb dX7_areSo_8 rfl hl (by decide) rfl (fun ls hl => ?_)
  refine lv_iconst (v := (0 : Int32)) hx hb dX7_areSo_9 (by decide) ?_
  refine lv_istore_n (lv' := [(2, .int (0 : Int32)), (1, .int r4), (0, .ref (a 0))]) hx hb dX7_areSo_10 rfl hl (by decide) rfl (fun ls hl => ?_)
  exact hB11 _ _ _ _ _ _ hf hP hS (lv_sub hl [2, 1, 0] rfl)
set_option maxHeartbeats 4000000 in
set_option maxRecDepth 100000 in
theorem cX7_kinds_c {l : Launch} {D : va_G} {cI cS : ClassId} {a : Nat → Nat} (hap : kAp a 15) {v : kV} {ar : kR} {p1 : Int32} {r : Int32} {v2 : kV} {ar2 : kR} (hf : fX7_kinds v ar p1 = some (r, v2, ar2)) : kMet l D cI cS (mW cI a) (kA a 15) yX7_kinds cX7_kinds 5 (some .int) 3 66 [.ref (a 0), .int p1] v ar (some (.int r)) v2 ar2 := by
  refine kstart (by decide) (Nat.le_of_ble_eq_true rfl) ?_
  intro p e s m args below meth c ls C0 hr hlk hl hP hS
  have C0 : kC p s m c args cX7_kinds 5 RX7 D cI cS := C0
  have hx := C0.1.1
  have hb := C0.1.2.1
  have hl : lv_has ls 5 [(0, .ref (a 0)), (1, .int p1)] := hl
  have hB52 : ∀ (rec22 : Int32 → Int32 → Int32 → kV → kR → Option (Int32 × kV × kR)) (hrec22 : ∀ (x2 : Int32) (x3 : Int32) (x4 : Int32) (v : kV) (ar : kR) (H : Heap) (locs : List Loc) (ls : Array Slot), rec22 x2 x3 x4 v ar = some (r, v2, ar2) → va_P D vwCl (mW cI a v ar) H → va_S (kA a 15) s.heap H locs → lv_has ls 5 [(0, .ref (a 0)), (1, .int p1), (2, .int x2), (3, .int x3), (4, .int x4)] → kGo p l e 3 66 s m args below meth c D (mW cI a) (kA a 15) (some (.int r)) v2 ar2 H locs (F0 m 22 ls [])) , ∀ (x2 : Int32) (x4 : Int32) (s0 : Int32) (s1 : Int32) (v : kV) (ar : kR) (H : Heap) (locs : List Loc) (ls : Array Slot), fX7_kinds_52 p1 rec22 x2 x4 s0 s1 v ar = some (r, v2, ar2) → va_P D vwCl (mW cI a v ar) H → va_S (kA a 15) s.heap H locs → lv_has ls 5 [(0, .ref (a 0)), (1, .int p1), (2, .int x2), (4, .int x4)] → kGo p l e 3 66 s m args below meth c D (mW cI a) (kA a 15) (some (.int r)) v2 ar2 H locs (F0 m 52 ls [.int s0, .int s1]) := by
    intro rec22 hrec22 x2 x4 s0 s1 v ar H locs ls hf hP hS hl
    unfold fX7_kinds_52 at hf
    refine lv_ior hx hb dX7_kinds_52 ?_
    refine lv_istore_n (lv' := [(3, .int (s1 ||| s0)), (0, .ref (a 0)), (1, .int p1), (2, .int x2), (4, .int x4)]) hx hb dX7_kinds_53 rfl hl (by decide) rfl (fun ls hl => ?_)
    refine lv_iinc (v := (x4 + (1 : Int32))) (lv' := [(4, .int (x4 + (1 : Int32))), (3, .int (s1 ||| s0)), (0, .ref (a 0)), (1, .int p1), (2, .int x2)]) hx hb dX7_kinds_54 hl (k := 4) rfl rfl (by decide) rfl (fun ls hl => ?_)
    refine lv_goto (tgt := 22) hx hb dX7_kinds_57 (by decide) ?_
    exact hrec22 _ _ _ _ _ _ _ _ hf hP hS (lv_sub hl [2, 3, 4, 1, 0] rfl)
  have hB22 : ∀ (n : Nat), ∀ (x2 : Int32) (x3 : Int32) (x4 : Int32) (v : kV) (ar : kR) (H : Heap) (locs : List Loc) (ls : Array Slot), fX7_kinds_22 p1 n x2 x3 x4 v ar = some (r, v2, ar2) → va_P D vwCl (mW cI a v ar) H → va_S (kA a 15) s.heap H locs → lv_has ls 5 [(0, .ref (a 0)), (1, .int p1), (2, .int x2), (3, .int x3), (4, .int x4)] → kGo p l e 3 66 s m args below meth c D (mW cI a) (kA a 15) (some (.int r)) v2 ar2 H locs (F0 m 22 ls []) := by
    intro  n
    induction n with
    | zero =>
      intro x2 x3 x4 v ar H locs ls hf
      have hf : (none : Option (Int32 × kV × kR)) = some (r, v2, ar2) := hf
      cases hf
    | succ n ih =>
      intro x2 x3 x4 v ar H locs ls hf hP hS hl
      have hf : fX7_kinds_22b p1 (fX7_kinds_22 p1 n) x2 x3 x4 v ar = some (r, v2, ar2) := hf
      unfold fX7_kinds_22b at hf
      refine lv_iload hx hb dX7_kinds_22 (lv_at hl 4 rfl) ?_
      refine lv_iconst (v := (3 : Int32)) hx hb dX7_kinds_24 (by decide) ?_
      refine lv_icmp_ge (tgt := 60) hx hb dX7_kinds_25 (by decide) (fun c5 => ?_) (fun c5 => ?_)
      · have hf := kif_t c5 hf
        refine lv_aload_n hx hb dX7_kinds_60 rfl (lv_at hl 0 rfl) ?_
        refine xg_M_13 C0 hP q_610 dX7_kinds_61 ?_
        refine lv_iload_n hx hb dX7_kinds_64 rfl (lv_at hl 1 rfl) ?_
        refine lv_iload_n hx hb dX7_kinds_65 rfl (lv_at hl 2 rfl) ?_
        obtain ⟨g6, hf⟩ := kgd hf
        refine mt_kind C0 hap hP hS g6 dX7_kinds_66 (fun H locs hP hS => ?_)
        refine lv_iload_n hx hb dX7_kinds_67 rfl (lv_at hl 3 rfl) ?_
        obtain ⟨rfl, rfl, rfl⟩ := kinj3 hf
        exact kret_i C0 hr hlk hP hS dX7_kinds_68
      · have hf := kif_f c5 hf
        refine lv_aload_n hx hb dX7_kinds_28 rfl (lv_at hl 0 rfl) ?_
        refine xg_M_13 C0 hP q_610 dX7_kinds_29 ?_
        refine lv_iload_n hx hb dX7_kinds_32 rfl (lv_at hl 1 rfl) ?_
        refine lv_iload hx hb dX7_kinds_33 (lv_at hl 4 rfl) ?_
        obtain ⟨g7, hf⟩ := kgd hf
        refine mt_kind C0 hap hP hS g7 dX7_kinds_35 (fun H locs hP hS => ?_)
        refine lv_iload_n hx hb dX7_kinds_36 rfl (lv_at hl 3 rfl) ?_
        refine lv_aload_n hx hb dX7_kinds_37 rfl (lv_at hl 0 rfl) ?_
        obtain ⟨r9, e8, hf⟩ := kb1_s hf
        refine kcallV (As := []) (rest := [.int x3]) C0 (cX7_areSo_c hap e8) q_886 kw_X7_areSo (xv_M C0.2 hP) hP hS ⟨Nat.le_of_ble_eq_true rfl, Nat.le_of_ble_eq_true rfl⟩ rfl hl.1 rfl (Nat.le_of_ble_eq_true rfl) dX7_kinds_38 (fun H locs hP hS => ?_)
        refine lv_if_eq (tgt := 51) hx hb dX7_kinds_41 (by decide) (fun c10 => ?_) (fun c10 => ?_)
        · have hf := kif_t c10 hf
          refine lv_iconst (v := (0 : Int32)) hx hb dX7_kinds_51 (by decide) ?_
          exact hB52 _ ih _ _ _ _ _ _ _ _ _ hf hP hS (lv_sub hl [0, 1, 2, 4] rfl)
        · have hf := kif_f c10 hf
          refine lv_iconst (v := (1 : Int32)) hx hb dX7_kinds_44 (by decide) ?_
          refine lv_iload hx hb dX7_kinds_45 (lv_at hl 4 rfl) ?_
          refine lv_ishl hx hb dX7_kinds_47 ?_
          refine lv_goto (tgt := 52) hx hb dX7_kinds_48 (by decide) ?_
          exact hB52 _ ih _ _ _ _ _ _ _ _ _ hf hP hS (lv_sub hl [0, 1, 2, 4] rfl)
  unfold fX7_kinds at hf
  refine lv_aload_n hx hb dX7_kinds_0 rfl (lv_at hl 0 rfl) ?_
  refine lv_iload_n hx hb dX7_kinds_1 rfl (lv_at hl 1 rfl) ?_
  obtain ⟨r2, e1, hf⟩ := kb1_s hf
  refine kcallV (As := [.int p1]) (rest := []) C0 (cX7_isCell_c hap e1) q_741 kw_X7_isCell (xv_M C0.2 hP) hP hS ⟨Nat.le_of_ble_eq_true rfl, Nat.le_of_ble_eq_true rfl⟩ rfl hl.1 rfl (Nat.le_of_ble_eq_true rfl) dX7_kinds_2 (fun H locs hP hS => ?_)
  refine lv_if_ne (tgt := 10) hx hb dX7_kinds_5 (by decide) (fun c3 => ?_) (fun c3 => ?_)
  · have hf := kif_f c3 hf
    refine lv_aload_n hx hb dX7_kinds_10 rfl (lv_at hl 0 rfl) ?_
    refine xg_M_13 C0 hP q_610 dX7_kinds_11 ?_
    refine lv_iload_n hx hb dX7_kinds_14 rfl (lv_at hl 1 rfl) ?_
    obtain ⟨g4, hf⟩ := kgd hf
    refine ml_kind C0 hP g4 dX7_kinds_15 ?_
    refine lv_istore_n (lv' := [(2, .int (ar (4) p1.toNatClampNeg)), (0, .ref (a 0)), (1, .int p1)]) hx hb dX7_kinds_16 rfl hl (by decide) rfl (fun ls hl => ?_)
    refine lv_iconst (v := (0 : Int32)) hx hb dX7_kinds_17 (by decide) ?_
    refine lv_istore_n (lv' := [(3, .int (0 : Int32)), (2, .int (ar (4) p1.toNatClampNeg)), (0, .ref (a 0)), (1, .int p1)]) hx hb dX7_kinds_18 rfl hl (by decide) rfl (fun ls hl => ?_)
    refine lv_iconst (v := (0 : Int32)) hx hb dX7_kinds_19 (by decide) ?_
    refine lv_istore (lv' := [(4, .int (0 : Int32)), (3, .int (0 : Int32)), (2, .int (ar (4) p1.toNatClampNeg)), (0, .ref (a 0)), (1, .int p1)]) hx hb dX7_kinds_20 hl (by decide) rfl (fun ls hl => ?_)
    exact hB22 _ _ _ _ _ _ _ _ _ hf hP hS (lv_sub hl [3, 4, 2, 1, 0] rfl)
  · have hf := kif_t c3 hf
    refine lv_iconst (v := (-1 : Int32)) hx hb dX7_kinds_8 (by decide) ?_
    obtain ⟨rfl, rfl, rfl⟩ := kinj3 hf
    exact kret_i C0 hr hlk hP hS dX7_kinds_9
set_option maxHeartbeats 4000000 in
set_option maxRecDepth 100000 in
theorem cX7_bulks_c {l : Launch} {D : va_G} {cI cS : ClassId} {a : Nat → Nat} (hap : kAp a 15) {v : kV} {ar : kR} {p1 : Int32} {r : Int32} {v2 : kV} {ar2 : kR} (hf : fX7_bulks v ar p1 = some (r, v2, ar2)) : kMet l D cI cS (mW cI a) (kA a 15) yX7_bulks cX7_bulks 5 (some .int) 3 66 [.ref (a 0), .int p1] v ar (some (.int r)) v2 ar2 := by
  refine kstart (by decide) (Nat.le_of_ble_eq_true rfl) ?_
  intro p e s m args below meth c ls C0 hr hlk hl hP hS
  have C0 : kC p s m c args cX7_bulks 5 RX7 D cI cS := C0
  have hx := C0.1.1
  have hb := C0.1.2.1
  have hl : lv_has ls 5 [(0, .ref (a 0)), (1, .int p1)] := hl
  have hB53 : ∀ (rec22 : Int32 → Int32 → Int32 → kV → kR → Option (Int32 × kV × kR)) (hrec22 : ∀ (x2 : Int32) (x3 : Int32) (x4 : Int32) (v : kV) (ar : kR) (H : Heap) (locs : List Loc) (ls : Array Slot), rec22 x2 x3 x4 v ar = some (r, v2, ar2) → va_P D vwCl (mW cI a v ar) H → va_S (kA a 15) s.heap H locs → lv_has ls 5 [(0, .ref (a 0)), (1, .int p1), (2, .int x2), (3, .int x3), (4, .int x4)] → kGo p l e 3 66 s m args below meth c D (mW cI a) (kA a 15) (some (.int r)) v2 ar2 H locs (F0 m 22 ls [])) , ∀ (x2 : Int32) (x4 : Int32) (s0 : Int32) (s1 : Int32) (v : kV) (ar : kR) (H : Heap) (locs : List Loc) (ls : Array Slot), fX7_bulks_53 p1 rec22 x2 x4 s0 s1 v ar = some (r, v2, ar2) → va_P D vwCl (mW cI a v ar) H → va_S (kA a 15) s.heap H locs → lv_has ls 5 [(0, .ref (a 0)), (1, .int p1), (2, .int x2), (4, .int x4)] → kGo p l e 3 66 s m args below meth c D (mW cI a) (kA a 15) (some (.int r)) v2 ar2 H locs (F0 m 53 ls [.int s0, .int s1]) := by
    intro rec22 hrec22 x2 x4 s0 s1 v ar H locs ls hf hP hS hl
    unfold fX7_bulks_53 at hf
    refine lv_ior hx hb dX7_bulks_53 ?_
    refine lv_istore_n (lv' := [(3, .int (s1 ||| s0)), (0, .ref (a 0)), (1, .int p1), (2, .int x2), (4, .int x4)]) hx hb dX7_bulks_54 rfl hl (by decide) rfl (fun ls hl => ?_)
    refine lv_iinc (v := (x4 + (1 : Int32))) (lv' := [(4, .int (x4 + (1 : Int32))), (3, .int (s1 ||| s0)), (0, .ref (a 0)), (1, .int p1), (2, .int x2)]) hx hb dX7_bulks_55 hl (k := 4) rfl rfl (by decide) rfl (fun ls hl => ?_)
    refine lv_goto (tgt := 22) hx hb dX7_bulks_58 (by decide) ?_
    exact hrec22 _ _ _ _ _ _ _ _ hf hP hS (lv_sub hl [2, 3, 4, 1, 0] rfl)
  have hB22 : ∀ (n : Nat), ∀ (x2 : Int32) (x3 : Int32) (x4 : Int32) (v : kV) (ar : kR) (H : Heap) (locs : List Loc) (ls : Array Slot), fX7_bulks_22 p1 n x2 x3 x4 v ar = some (r, v2, ar2) → va_P D vwCl (mW cI a v ar) H → va_S (kA a 15) s.heap H locs → lv_has ls 5 [(0, .ref (a 0)), (1, .int p1), (2, .int x2), (3, .int x3), (4, .int x4)] → kGo p l e 3 66 s m args below meth c D (mW cI a) (kA a 15) (some (.int r)) v2 ar2 H locs (F0 m 22 ls []) := by
    intro  n
    induction n with
    | zero =>
      intro x2 x3 x4 v ar H locs ls hf
      have hf : (none : Option (Int32 × kV × kR)) = some (r, v2, ar2) := hf
      cases hf
    | succ n ih =>
      intro x2 x3 x4 v ar H locs ls hf hP hS hl
      have hf : fX7_bulks_22b p1 (fX7_bulks_22 p1 n) x2 x3 x4 v ar = some (r, v2, ar2) := hf
      unfold fX7_bulks_22b at hf
      refine lv_iload hx hb dX7_bulks_22 (lv_at hl 4 rfl) ?_
      refine lv_bipush (v := (9 : Int32)) hx hb dX7_bulks_24 (by decide) ?_
      refine lv_icmp_gt (tgt := 61) hx hb dX7_bulks_26 (by decide) (fun c5 => ?_) (fun c5 => ?_)
      · have hf := kif_t c5 hf
        refine lv_aload_n hx hb dX7_bulks_61 rfl (lv_at hl 0 rfl) ?_
        refine xg_M_14 C0 hP q_611 dX7_bulks_62 ?_
        refine lv_iload_n hx hb dX7_bulks_65 rfl (lv_at hl 1 rfl) ?_
        refine lv_iload_n hx hb dX7_bulks_66 rfl (lv_at hl 2 rfl) ?_
        obtain ⟨g6, hf⟩ := kgd hf
        refine mt_bulk C0 hap hP hS g6 dX7_bulks_67 (fun H locs hP hS => ?_)
        refine lv_iload_n hx hb dX7_bulks_68 rfl (lv_at hl 3 rfl) ?_
        obtain ⟨rfl, rfl, rfl⟩ := kinj3 hf
        exact kret_i C0 hr hlk hP hS dX7_bulks_69
      · have hf := kif_f c5 hf
        refine lv_aload_n hx hb dX7_bulks_29 rfl (lv_at hl 0 rfl) ?_
        refine xg_M_14 C0 hP q_611 dX7_bulks_30 ?_
        refine lv_iload_n hx hb dX7_bulks_33 rfl (lv_at hl 1 rfl) ?_
        refine lv_iload hx hb dX7_bulks_34 (lv_at hl 4 rfl) ?_
        obtain ⟨g7, hf⟩ := kgd hf
        refine mt_bulk C0 hap hP hS g7 dX7_bulks_36 (fun H locs hP hS => ?_)
        refine lv_iload_n hx hb dX7_bulks_37 rfl (lv_at hl 3 rfl) ?_
        refine lv_aload_n hx hb dX7_bulks_38 rfl (lv_at hl 0 rfl) ?_
        obtain ⟨r9, e8, hf⟩ := kb1_s hf
        refine kcallV (As := []) (rest := [.int x3]) C0 (cX7_areSo_c hap e8) q_886 kw_X7_areSo (xv_M C0.2 hP) hP hS ⟨Nat.le_of_ble_eq_true rfl, Nat.le_of_ble_eq_true rfl⟩ rfl hl.1 rfl (Nat.le_of_ble_eq_true rfl) dX7_bulks_39 (fun H locs hP hS => ?_)
        refine lv_if_eq (tgt := 52) hx hb dX7_bulks_42 (by decide) (fun c10 => ?_) (fun c10 => ?_)
        · have hf := kif_t c10 hf
          refine lv_iconst (v := (0 : Int32)) hx hb dX7_bulks_52 (by decide) ?_
          exact hB53 _ ih _ _ _ _ _ _ _ _ _ hf hP hS (lv_sub hl [0, 1, 2, 4] rfl)
        · have hf := kif_f c10 hf
          refine lv_iconst (v := (1 : Int32)) hx hb dX7_bulks_45 (by decide) ?_
          refine lv_iload hx hb dX7_bulks_46 (lv_at hl 4 rfl) ?_
          refine lv_ishl hx hb dX7_bulks_48 ?_
          refine lv_goto (tgt := 53) hx hb dX7_bulks_49 (by decide) ?_
          exact hB53 _ ih _ _ _ _ _ _ _ _ _ hf hP hS (lv_sub hl [0, 1, 2, 4] rfl)
  unfold fX7_bulks at hf
  refine lv_aload_n hx hb dX7_bulks_0 rfl (lv_at hl 0 rfl) ?_
  refine lv_iload_n hx hb dX7_bulks_1 rfl (lv_at hl 1 rfl) ?_
  obtain ⟨r2, e1, hf⟩ := kb1_s hf
  refine kcallV (As := [.int p1]) (rest := []) C0 (cX7_isCell_c hap e1) q_741 kw_X7_isCell (xv_M C0.2 hP) hP hS ⟨Nat.le_of_ble_eq_true rfl, Nat.le_of_ble_eq_true rfl⟩ rfl hl.1 rfl (Nat.le_of_ble_eq_true rfl) dX7_bulks_2 (fun H locs hP hS => ?_)
  refine lv_if_ne (tgt := 10) hx hb dX7_bulks_5 (by decide) (fun c3 => ?_) (fun c3 => ?_)
  · have hf := kif_f c3 hf
    refine lv_aload_n hx hb dX7_bulks_10 rfl (lv_at hl 0 rfl) ?_
    refine xg_M_14 C0 hP q_611 dX7_bulks_11 ?_
    refine lv_iload_n hx hb dX7_bulks_14 rfl (lv_at hl 1 rfl) ?_
    obtain ⟨g4, hf⟩ := kgd hf
    refine ml_bulk C0 hP g4 dX7_bulks_15 ?_
    refine lv_istore_n (lv' := [(2, .int (ar (5) p1.toNatClampNeg)), (0, .ref (a 0)), (1, .int p1)]) hx hb dX7_bulks_16 rfl hl (by decide) rfl (fun ls hl => ?_)
    refine lv_iconst (v := (0 : Int32)) hx hb dX7_bulks_17 (by decide) ?_
    refine lv_istore_n (lv' := [(3, .int (0 : Int32)), (2, .int (ar (5) p1.toNatClampNeg)), (0, .ref (a 0)), (1, .int p1)]) hx hb dX7_bulks_18 rfl hl (by decide) rfl (fun ls hl => ?_)
    refine lv_iconst (v := (1 : Int32)) hx hb dX7_bulks_19 (by decide) ?_
    refine lv_istore (lv' := [(4, .int (1 : Int32)), (3, .int (0 : Int32)), (2, .int (ar (5) p1.toNatClampNeg)), (0, .ref (a 0)), (1, .int p1)]) hx hb dX7_bulks_20 hl (by decide) rfl (fun ls hl => ?_)
    exact hB22 _ _ _ _ _ _ _ _ _ hf hP hS (lv_sub hl [3, 4, 2, 1, 0] rfl)
  · have hf := kif_t c3 hf
    refine lv_iconst (v := (-1 : Int32)) hx hb dX7_bulks_8 (by decide) ?_
    obtain ⟨rfl, rfl, rfl⟩ := kinj3 hf
    exact kret_i C0 hr hlk hP hS dX7_bulks_9
set_option maxHeartbeats 4000000 in
set_option maxRecDepth 100000 in
theorem cX7_inLeastTerms_c {l : Launch} {D : va_G} {cI cS : ClassId} {a : Nat → Nat} (hap : kAp a 15) {v : kV} {ar : kR} {p0 : Int64} {p2 : Int64} {p4 : Int32} {r : Int64} (hf : fX7_inLeastTerms p0 p2 p4 = some r) : kMet l D cI cS (mW cI a) (kA a 15) yX7_inLeastTerms cX7_inLeastTerms 11 (some .long) 0 0 [.long p0, .long p2, .int p4] v ar (some (.long r)) v ar := by
  refine kstart (by decide) (Nat.le_of_ble_eq_true rfl) ?_
  intro p e s m args below meth c ls C0 hr hlk hl hP hS
  have C0 : kC p s m c args cX7_inLeastTerms 11 RX7 D cI cS := C0
  have hx := C0.1.1
  have hb := C0.1.2.1
  have hl : lv_has ls 11 [(0, .long p0), (2, .long p2), (4, .int p4)] := hl
  have hB6 : ∀ (n : Nat), ∀ (x5 : Int64) (x7 : Int64) (H : Heap) (locs : List Loc) (ls : Array Slot), fX7_inLeastTerms_6 p0 p2 p4 n x5 x7 = some r → va_P D vwCl (mW cI a v ar) H → va_S (kA a 15) s.heap H locs → lv_has ls 11 [(0, .long p0), (2, .long p2), (4, .int p4), (5, .long x5), (7, .long x7)] → kGo p l e 0 0 s m args below meth c D (mW cI a) (kA a 15) (some (.long r)) v ar H locs (F0 m 6 ls []) := by
    intro  n
    induction n with
    | zero =>
      intro x5 x7 H locs ls hf
      have hf : (none : Option Int64) = some r := hf
      cases hf
    | succ n ih =>
      intro x5 x7 H locs ls hf hP hS hl
      have hf : fX7_inLeastTerms_6b p0 p2 p4 (fX7_inLeastTerms_6 p0 p2 p4 n) x5 x7 = some r := hf
      unfold fX7_inLeastTerms_6b at hf
      refine lv_lload hx hb dX7_inLeastTerms_6 (lv_at hl 4 rfl) ?_
      refine lv_lconst (v := (0 : Int64)) hx hb dX7_inLeastTerms_8 (by decide) ?_
      refine W.lcmp hx hb dX7_inLeastTerms_9 ?_
      refine lv_if_eq (tgt := 31) hx hb dX7_inLeastTerms_10 (by decide) (fun c1 => ?_) (fun c1 => ?_)
      · have hf := kif_t c1 hf
        refine lv_iload hx hb dX7_inLeastTerms_31 (lv_at hl 2 rfl) ?_
        refine lv_if_ne (tgt := 43) hx hb dX7_inLeastTerms_33 (by decide) (fun c2 => ?_) (fun c2 => ?_)
        · have hf := kif_f c2 hf
          refine lv_lload_n hx hb dX7_inLeastTerms_43 rfl (lv_at hl 1 rfl) ?_
          refine lv_lload hx hb dX7_inLeastTerms_44 (lv_at hl 3 rfl) ?_
          obtain ⟨g3, hf⟩ := kgd hf
          refine lv_ldiv hx hb dX7_inLeastTerms_46 g3 ?_
          obtain rfl := Option.some.inj hf
          exact kret_l C0 hr hlk hP hS dX7_inLeastTerms_47
        · have hf := kif_t c2 hf
          refine lv_lload_n hx hb dX7_inLeastTerms_36 rfl (lv_at hl 0 rfl) ?_
          refine lv_lload hx hb dX7_inLeastTerms_37 (lv_at hl 3 rfl) ?_
          obtain ⟨g4, hf⟩ := kgd hf
          refine lv_ldiv hx hb dX7_inLeastTerms_39 g4 ?_
          refine lv_goto (tgt := 47) hx hb dX7_inLeastTerms_40 (by decide) ?_
          obtain rfl := Option.some.inj hf
          exact kret_l C0 hr hlk hP hS dX7_inLeastTerms_47
      · have hf := kif_f c1 hf
        refine lv_lload hx hb dX7_inLeastTerms_13 (lv_at hl 3 rfl) ?_
        refine lv_lload hx hb dX7_inLeastTerms_15 (lv_at hl 4 rfl) ?_
        obtain ⟨g5, hf⟩ := kgd hf
        refine lv_lrem hx hb dX7_inLeastTerms_17 g5 ?_
        refine lv_lstore (lv' := [(9, .long (x5 - x5 / x7 * x7)), (0, .long p0), (2, .long p2), (4, .int p4), (5, .long x5), (7, .long x7)]) hx hb dX7_inLeastTerms_18 hl (by decide) rfl (fun ls hl => ?_)
        refine lv_lload hx hb dX7_inLeastTerms_20 (lv_at hl 5 rfl) ?_
        refine lv_lstore (lv' := [(5, .long x7), (9, .long (x5 - x5 / x7 * x7)), (0, .long p0), (2, .long p2), (4, .int p4), (7, .long x7)]) hx hb dX7_inLeastTerms_22 hl (by decide) rfl (fun ls hl => ?_)
        refine lv_lload hx hb dX7_inLeastTerms_24 (lv_at hl 1 rfl) ?_
        refine lv_lstore (lv' := [(7, .long (x5 - x5 / x7 * x7)), (5, .long x7), (9, .long (x5 - x5 / x7 * x7)), (0, .long p0), (2, .long p2), (4, .int p4)]) hx hb dX7_inLeastTerms_26 hl (by decide) rfl (fun ls hl => ?_)
        refine lv_goto (tgt := 6) hx hb dX7_inLeastTerms_28 (by decide) ?_
        exact ih _ _ _ _ _ hf hP hS (lv_sub hl [3, 4, 5, 1, 0] rfl)
  unfold fX7_inLeastTerms at hf
  refine lv_lload_n hx hb dX7_inLeastTerms_0 rfl (lv_at hl 0 rfl) ?_
  refine lv_lstore (lv' := [(5, .long p0), (0, .long p0), (2, .long p2), (4, .int p4)]) hx hb dX7_inLeastTerms_1 hl (by decide) rfl (fun ls hl => ?_)
  refine lv_lload_n hx hb dX7_inLeastTerms_3 rfl (lv_at hl 2 rfl) ?_
  refine lv_lstore (lv' := [(7, .long p2), (5, .long p0), (0, .long p0), (2, .long p2), (4, .int p4)]) hx hb dX7_inLeastTerms_4 hl (by decide) rfl (fun ls hl => ?_)
  exact hB6 _ _ _ _ _ _ hf hP hS (lv_sub hl [2, 3, 4, 1, 0] rfl)
set_option maxHeartbeats 4000000 in
set_option maxRecDepth 100000 in
theorem cX7_odds_c {l : Launch} {D : va_G} {cI cS : ClassId} {a : Nat → Nat} (hap : kAp a 15) {v : kV} {ar : kR} {p1 : Int32} {p2 : Int32} {r : Int64} (hf : fX7_odds v ar p1 p2 = some r) : kMet l D cI cS (mW cI a) (kA a 15) yX7_odds cX7_odds 6 (some .long) 2 46 [.ref (a 0), .int p1, .int p2] v ar (some (.long r)) v ar := by
  refine kstart (by decide) (Nat.le_of_ble_eq_true rfl) ?_
  intro p e s m args below meth c ls C0 hr hlk hl hP hS
  have C0 : kC p s m c args cX7_odds 6 RX7 D cI cS := C0
  have hx := C0.1.1
  have hb := C0.1.2.1
  have hl : lv_has ls 6 [(0, .ref (a 0)), (1, .int p1), (2, .int p2)] := hl
  have hB26 : ∀ (H : Heap) (locs : List Loc) (ls : Array Slot), fX7_odds_26 v ar p1 p2 = some r → va_P D vwCl (mW cI a v ar) H → va_S (kA a 15) s.heap H locs → lv_has ls 6 [] → kGo p l e 2 46 s m args below meth c D (mW cI a) (kA a 15) (some (.long r)) v ar H locs (F0 m 26 ls []) := by
    intro   H locs ls hf hP hS hl
    unfold fX7_odds_26 at hf
    refine lv_ldc2 (v := (-9223372036854775808 : Int64)) hx hb C0.1.2.2.2.1 (C0.1.2.2.2.2 _ q_898) dX7_odds_26 ?_
    obtain rfl := Option.some.inj hf
    exact kret_l C0 hr hlk hP hS dX7_odds_29
  have hB87 : ∀ (rec38 : Int32 → Int32 → Int32 → Option Int64) (hrec38 : ∀ (x3 : Int32) (x4 : Int32) (x5 : Int32) (H : Heap) (locs : List Loc) (ls : Array Slot), rec38 x3 x4 x5 = some r → va_P D vwCl (mW cI a v ar) H → va_S (kA a 15) s.heap H locs → lv_has ls 6 [(0, .ref (a 0)), (1, .int p1), (2, .int p2), (3, .int x3), (4, .int x4), (5, .int x5)] → kGo p l e 2 46 s m args below meth c D (mW cI a) (kA a 15) (some (.long r)) v ar H locs (F0 m 38 ls [])) , ∀ (x3 : Int32) (x4 : Int32) (x5 : Int32) (H : Heap) (locs : List Loc) (ls : Array Slot), fX7_odds_87 v ar p1 p2 rec38 x3 x4 x5 = some r → va_P D vwCl (mW cI a v ar) H → va_S (kA a 15) s.heap H locs → lv_has ls 6 [(0, .ref (a 0)), (1, .int p1), (2, .int p2), (3, .int x3), (4, .int x4), (5, .int x5)] → kGo p l e 2 46 s m args below meth c D (mW cI a) (kA a 15) (some (.long r)) v ar H locs (F0 m 87 ls []) := by
    intro rec38 hrec38 x3 x4 x5 H locs ls hf hP hS hl
    unfold fX7_odds_87 at hf
    refine lv_iinc (v := (x5 + (1 : Int32))) (lv' := [(5, .int (x5 + (1 : Int32))), (0, .ref (a 0)), (1, .int p1), (2, .int p2), (3, .int x3), (4, .int x4)]) hx hb dX7_odds_87 hl (k := 5) rfl rfl (by decide) rfl (fun ls hl => ?_)
    refine lv_goto (tgt := 38) hx hb dX7_odds_90 (by decide) ?_
    exact hrec38 _ _ _ _ _ _ hf hP hS (lv_sub hl [1, 2, 3, 4, 5, 0] rfl)
  have hB85 : ∀ (rec38 : Int32 → Int32 → Int32 → Option Int64) (hrec38 : ∀ (x3 : Int32) (x4 : Int32) (x5 : Int32) (H : Heap) (locs : List Loc) (ls : Array Slot), rec38 x3 x4 x5 = some r → va_P D vwCl (mW cI a v ar) H → va_S (kA a 15) s.heap H locs → lv_has ls 6 [(0, .ref (a 0)), (1, .int p1), (2, .int p2), (3, .int x3), (4, .int x4), (5, .int x5)] → kGo p l e 2 46 s m args below meth c D (mW cI a) (kA a 15) (some (.long r)) v ar H locs (F0 m 38 ls [])) , ∀ (x4 : Int32) (x5 : Int32) (s0 : Int32) (s1 : Int32) (H : Heap) (locs : List Loc) (ls : Array Slot), fX7_odds_85 v ar p1 p2 rec38 x4 x5 s0 s1 = some r → va_P D vwCl (mW cI a v ar) H → va_S (kA a 15) s.heap H locs → lv_has ls 6 [(0, .ref (a 0)), (1, .int p1), (2, .int p2), (4, .int x4), (5, .int x5)] → kGo p l e 2 46 s m args below meth c D (mW cI a) (kA a 15) (some (.long r)) v ar H locs (F0 m 85 ls [.int s0, .int s1]) := by
    intro rec38 hrec38 x4 x5 s0 s1 H locs ls hf hP hS hl
    unfold fX7_odds_85 at hf
    refine lv_iadd hx hb dX7_odds_85 ?_
    refine lv_istore_n (lv' := [(3, .int (s1 + s0)), (0, .ref (a 0)), (1, .int p1), (2, .int p2), (4, .int x4), (5, .int x5)]) hx hb dX7_odds_86 rfl hl (by decide) rfl (fun ls hl => ?_)
    exact hB87 _ hrec38 _ _ _ _ _ _ hf hP hS (lv_sub hl [1, 2, 3, 0, 4, 5] rfl)
  have hB38 : ∀ (n : Nat), ∀ (x3 : Int32) (x4 : Int32) (x5 : Int32) (H : Heap) (locs : List Loc) (ls : Array Slot), fX7_odds_38 v ar p1 p2 n x3 x4 x5 = some r → va_P D vwCl (mW cI a v ar) H → va_S (kA a 15) s.heap H locs → lv_has ls 6 [(0, .ref (a 0)), (1, .int p1), (2, .int p2), (3, .int x3), (4, .int x4), (5, .int x5)] → kGo p l e 2 46 s m args below meth c D (mW cI a) (kA a 15) (some (.long r)) v ar H locs (F0 m 38 ls []) := by
    intro  n
    induction n with
    | zero =>
      intro x3 x4 x5 H locs ls hf
      have hf : (none : Option Int64) = some r := hf
      cases hf
    | succ n ih =>
      intro x3 x4 x5 H locs ls hf hP hS hl
      have hf : fX7_odds_38b v ar p1 p2 (fX7_odds_38 v ar p1 p2 n) x3 x4 x5 = some r := hf
      unfold fX7_odds_38b at hf
      refine lv_iload hx hb dX7_odds_38 (lv_at hl 5 rfl) ?_
      refine lv_aload_n hx hb dX7_odds_40 rfl (lv_at hl 0 rfl) ?_
      obtain ⟨r9, e8, hf⟩ := kb1_s hf
      refine kcallV (As := []) (rest := [.int x5]) C0 (cX7_all_c hap e8) q_765 kw_X7_all (xv_M C0.2 hP) hP hS ⟨Nat.le_of_ble_eq_true rfl, Nat.le_of_ble_eq_true rfl⟩ rfl hl.1 rfl (Nat.le_of_ble_eq_true rfl) dX7_odds_41 (fun H locs hP hS => ?_)
      refine lv_icmp_gt (tgt := 93) hx hb dX7_odds_44 (by decide) (fun c10 => ?_) (fun c10 => ?_)
      · have hf := kif_t c10 hf
        refine lv_iload_n hx hb dX7_odds_93 rfl (lv_at hl 3 rfl) ?_
        refine lv_i2l (v := (x3.toInt64)) hx hb dX7_odds_94 rfl ?_
        refine lv_iload hx hb dX7_odds_95 (lv_at hl 4 rfl) ?_
        refine lv_i2l (v := (x4.toInt64)) hx hb dX7_odds_97 rfl ?_
        refine lv_iload_n hx hb dX7_odds_98 rfl (lv_at hl 2 rfl) ?_
        obtain ⟨r12, e11, hf⟩ := kb1_s hf
        refine kcallT (As := [.long (x3.toInt64), .long (x4.toInt64), .int p2]) (rest := []) C0 (cX7_inLeastTerms_c hap e11) q_899 kw_X7_inLeastTerms hP hS ⟨Nat.le_of_ble_eq_true rfl, Nat.le_of_ble_eq_true rfl⟩ rfl hl.1 rfl (Nat.le_of_ble_eq_true rfl) dX7_odds_99 (fun H locs hP hS => ?_)
        obtain rfl := Option.some.inj hf
        exact kret_l C0 hr hlk hP hS dX7_odds_102
      · have hf := kif_f c10 hf
        refine lv_iload hx hb dX7_odds_47 (lv_at hl 5 rfl) ?_
        refine lv_aload_n hx hb dX7_odds_49 rfl (lv_at hl 0 rfl) ?_
        refine xg_M_8 C0 hP q_605 dX7_odds_50 ?_
        refine lv_iand hx hb dX7_odds_53 ?_
        refine lv_aload_n hx hb dX7_odds_54 rfl (lv_at hl 0 rfl) ?_
        refine xg_M_7 C0 hP q_604 dX7_odds_55 ?_
        refine lv_aload_n hx hb dX7_odds_58 rfl (lv_at hl 0 rfl) ?_
        refine xg_M_8 C0 hP q_605 dX7_odds_59 ?_
        refine lv_iand hx hb dX7_odds_62 ?_
        refine lv_icmp_ne (tgt := 87) hx hb dX7_odds_63 (by decide) (fun c13 => ?_) (fun c13 => ?_)
        · have hf := kif_f c13 hf
          exact hB87 _ ih _ _ _ _ _ _ hf hP hS (lv_sub hl [0, 1, 2, 3, 4, 5] rfl)
        · have hf := kif_t c13 hf
          refine lv_iinc (v := (x4 + (1 : Int32))) (lv' := [(4, .int (x4 + (1 : Int32))), (0, .ref (a 0)), (1, .int p1), (2, .int p2), (3, .int x3), (5, .int x5)]) hx hb dX7_odds_66 hl (k := 4) rfl rfl (by decide) rfl (fun ls hl => ?_)
          refine lv_iload_n hx hb dX7_odds_69 rfl (lv_at hl 4 rfl) ?_
          refine lv_aload_n hx hb dX7_odds_70 rfl (lv_at hl 1 rfl) ?_
          refine lv_iload hx hb dX7_odds_71 (lv_at hl 5 rfl) ?_
          obtain ⟨r15, e14, hf⟩ := kb1_s hf
          refine kcallV (As := [.int x5]) (rest := [.int x3]) C0 (cX7_cutsBy_c hap e14) q_757 kw_X7_cutsBy (xv_M C0.2 hP) hP hS ⟨Nat.le_of_ble_eq_true rfl, Nat.le_of_ble_eq_true rfl⟩ rfl hl.1 rfl (Nat.le_of_ble_eq_true rfl) dX7_odds_73 (fun H locs hP hS => ?_)
          refine lv_iload_n hx hb dX7_odds_76 rfl (lv_at hl 2 rfl) ?_
          refine lv_icmp_gt (tgt := 84) hx hb dX7_odds_77 (by decide) (fun c16 => ?_) (fun c16 => ?_)
          · have hf := kif_t c16 hf
            refine lv_iconst (v := (0 : Int32)) hx hb dX7_odds_84 (by decide) ?_
            exact hB85 _ ih _ _ _ _ _ _ _ hf hP hS (lv_sub hl [1, 2, 3, 0, 5] rfl)
          · have hf := kif_f c16 hf
            refine lv_iconst (v := (1 : Int32)) hx hb dX7_odds_80 (by decide) ?_
            refine lv_goto (tgt := 85) hx hb dX7_odds_81 (by decide) ?_
            exact hB85 _ ih _ _ _ _ _ _ _ hf hP hS (lv_sub hl [1, 2, 3, 0, 5] rfl)
  unfold fX7_odds at hf
  refine lv_aload_n hx hb dX7_odds_0 rfl (lv_at hl 0 rfl) ?_
  refine xg_M_5 C0 hP q_602 dX7_odds_1 ?_
  refine lv_if_eq (tgt := 26) hx hb dX7_odds_4 (by decide) (fun c1 => ?_) (fun c1 => ?_)
  · have hf := kif_t c1 hf
    exact hB26 _ _ _ hf hP hS (lv_sub hl [] rfl)
  · have hf := kif_f c1 hf
    refine lv_iload_n hx hb dX7_odds_7 rfl (lv_at hl 1 rfl) ?_
    refine lv_iconst (v := (0 : Int32)) hx hb dX7_odds_8 (by decide) ?_
    refine lv_bipush (v := (6 : Int32)) hx hb dX7_odds_9 (by decide) ?_
    obtain ⟨r3, e2, hf⟩ := kb1_s hf
    refine kcallT (As := [.int p1, .int (0 : Int32), .int (6 : Int32)]) (rest := []) C0 (cX7_within_c hap e2) q_701 kw_X7_within hP hS ⟨Nat.le_of_ble_eq_true rfl, Nat.le_of_ble_eq_true rfl⟩ rfl hl.1 rfl (Nat.le_of_ble_eq_true rfl) dX7_odds_11 (fun H locs hP hS => ?_)
    refine lv_if_eq (tgt := 26) hx hb dX7_odds_14 (by decide) (fun c4 => ?_) (fun c4 => ?_)
    · have hf := kif_t c4 hf
      exact hB26 _ _ _ hf hP hS (lv_sub hl [] rfl)
    · have hf := kif_f c4 hf
      refine lv_iload_n hx hb dX7_odds_17 rfl (lv_at hl 2 rfl) ?_
      refine lv_iconst (v := (0 : Int32)) hx hb dX7_odds_18 (by decide) ?_
      refine lv_iconst (v := (1 : Int32)) hx hb dX7_odds_19 (by decide) ?_
      obtain ⟨r6, e5, hf⟩ := kb1_s hf
      refine kcallT (As := [.int p2, .int (0 : Int32), .int (1 : Int32)]) (rest := []) C0 (cX7_within_c hap e5) q_701 kw_X7_within hP hS ⟨Nat.le_of_ble_eq_true rfl, Nat.le_of_ble_eq_true rfl⟩ rfl hl.1 rfl (Nat.le_of_ble_eq_true rfl) dX7_odds_20 (fun H locs hP hS => ?_)
      refine lv_if_ne (tgt := 30) hx hb dX7_odds_23 (by decide) (fun c7 => ?_) (fun c7 => ?_)
      · have hf := kif_f c7 hf
        refine lv_iconst (v := (0 : Int32)) hx hb dX7_odds_30 (by decide) ?_
        refine lv_istore_n (lv' := [(3, .int (0 : Int32)), (0, .ref (a 0)), (1, .int p1), (2, .int p2)]) hx hb dX7_odds_31 rfl hl (by decide) rfl (fun ls hl => ?_)
        refine lv_iconst (v := (0 : Int32)) hx hb dX7_odds_32 (by decide) ?_
        refine lv_istore (lv' := [(4, .int (0 : Int32)), (3, .int (0 : Int32)), (0, .ref (a 0)), (1, .int p1), (2, .int p2)]) hx hb dX7_odds_33 hl (by decide) rfl (fun ls hl => ?_)
        refine lv_iconst (v := (0 : Int32)) hx hb dX7_odds_35 (by decide) ?_
        refine lv_istore (lv' := [(5, .int (0 : Int32)), (4, .int (0 : Int32)), (3, .int (0 : Int32)), (0, .ref (a 0)), (1, .int p1), (2, .int p2)]) hx hb dX7_odds_36 hl (by decide) rfl (fun ls hl => ?_)
        exact hB38 _ _ _ _ _ _ _ hf hP hS (lv_sub hl [3, 4, 5, 2, 1, 0] rfl)
      · have hf := kif_t c7 hf
        exact hB26 _ _ _ hf hP hS (lv_sub hl [] rfl)
