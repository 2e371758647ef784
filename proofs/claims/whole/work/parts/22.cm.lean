set_option maxHeartbeats 4000000 in
set_option maxRecDepth 100000 in
theorem cX7_does_c {l : Launch} {D : va_G} {cI cS : ClassId} {a : Nat → Nat} (hap : kAp a 15) {v : kV} {ar : kR} {p1 : Int32} {p2 : Int32} {r : Bool} {v2 : kV} {ar2 : kR} (hf : fX7_does v ar p1 p2 = some (r, v2, ar2)) : kMet l D cI cS (mW cI a) (kA a 15) yX7_does cX7_does 4 (some .boolean) 6 146 [.ref (a 0), .int p1, .int p2] v ar (some (.int (bI r))) v2 ar2 := by
  refine kstart (by decide) (Nat.le_of_ble_eq_true rfl) ?_
  intro p e s m args below meth c ls C0 hr hlk hl hP hS
  have C0 : kC p s m c args cX7_does 4 RX7 D cI cS := C0
  have hx := C0.1.1
  have hb := C0.1.2.1
  have hl : lv_has ls 4 [(0, .ref (a 0)), (1, .int p1), (2, .int p2)] := hl
  have hB63 : ∀ (x3 : Int32) (v : kV) (ar : kR) (H : Heap) (locs : List Loc) (ls : Array Slot), fX7_does_63 p1 p2 x3 v ar = some (r, v2, ar2) → va_P D vwCl (mW cI a v ar) H → va_S (kA a 15) s.heap H locs → lv_has ls 4 [(0, .ref (a 0)), (1, .int p1), (2, .int p2), (3, .int x3)] → kGo p l e 6 146 s m args below meth c D (mW cI a) (kA a 15) (some (.int (bI r))) v2 ar2 H locs (F0 m 63 ls []) := by
    intro  x3 v ar H locs ls hf hP hS hl
    unfold fX7_does_63 at hf
    refine lv_iload_n hx hb dX7_does_63 rfl (lv_at hl 2 rfl) ?_
    refine lv_bipush (v := (10 : Int32)) hx hb dX7_does_64 (by decide) ?_
    refine lv_icmp_lt (tgt := 79) hx hb dX7_does_66 (by decide) (fun c7 => ?_) (fun c7 => ?_)
    · have hf := kif_t c7 hf
      refine lv_aload_n hx hb dX7_does_79 rfl (lv_at hl 0 rfl) ?_
      refine lv_dup hx hb dX7_does_80 rfl ?_
      refine xg_M_7 C0 hP q_604 dX7_does_81 ?_
      refine lv_iconst (v := (1 : Int32)) hx hb dX7_does_84 (by decide) ?_
      refine lv_iload_n hx hb dX7_does_85 rfl (lv_at hl 3 rfl) ?_
      refine lv_ishl hx hb dX7_does_86 ?_
      refine lv_ixor hx hb dX7_does_87 ?_
      refine xp_M_7 C0 hap hP hS q_604 dX7_does_88 (fun H locs hP hS => ?_)
      refine lv_iconst (v := (1 : Int32)) hx hb dX7_does_91 (by decide) ?_
      obtain ⟨rfl, rfl, rfl⟩ := kinj3 hf
      exact kret_z true rfl C0 hr hlk hP hS dX7_does_92
    · have hf := kif_f c7 hf
      refine lv_aload_n hx hb dX7_does_69 rfl (lv_at hl 0 rfl) ?_
      refine xg_M_14 C0 hP q_611 dX7_does_70 ?_
      refine lv_iload_n hx hb dX7_does_73 rfl (lv_at hl 3 rfl) ?_
      refine lv_iload_n hx hb dX7_does_74 rfl (lv_at hl 1 rfl) ?_
      obtain ⟨g8, hf⟩ := kgd hf
      refine mt_bulk C0 hap hP hS g8 dX7_does_75 (fun H locs hP hS => ?_)
      refine lv_goto (tgt := 91) hx hb dX7_does_76 (by decide) ?_
      refine lv_iconst (v := (1 : Int32)) hx hb dX7_does_91 (by decide) ?_
      obtain ⟨rfl, rfl, rfl⟩ := kinj3 hf
      exact kret_z true rfl C0 hr hlk hP hS dX7_does_92
  have hB35 : ∀ (s0 : Int32) (v : kV) (ar : kR) (H : Heap) (locs : List Loc) (ls : Array Slot), fX7_does_35 p1 p2 s0 v ar = some (r, v2, ar2) → va_P D vwCl (mW cI a v ar) H → va_S (kA a 15) s.heap H locs → lv_has ls 4 [(0, .ref (a 0)), (1, .int p1), (2, .int p2)] → kGo p l e 6 146 s m args below meth c D (mW cI a) (kA a 15) (some (.int (bI r))) v2 ar2 H locs (F0 m 35 ls [.int s0]) := by
    intro  s0 v ar H locs ls hf hP hS hl
    unfold fX7_does_35 at hf
    refine lv_istore_n (lv' := [(3, .int s0), (0, .ref (a 0)), (1, .int p1), (2, .int p2)]) hx hb dX7_does_35 rfl hl (by decide) rfl (fun ls hl => ?_)
    refine lv_aload_n hx hb dX7_does_36 rfl (lv_at hl 1 rfl) ?_
    refine lv_iload_n hx hb dX7_does_37 rfl (lv_at hl 0 rfl) ?_
    obtain ⟨r4, e3, hf⟩ := kb1_s hf
    refine kcallV (As := [.int s0]) (rest := []) C0 (cX7_isCell_c hap e3) q_741 kw_X7_isCell (xv_M C0.2 hP) hP hS ⟨Nat.le_of_ble_eq_true rfl, Nat.le_of_ble_eq_true rfl⟩ rfl hl.1 rfl (Nat.le_of_ble_eq_true rfl) dX7_does_38 (fun H locs hP hS => ?_)
    refine lv_if_eq (tgt := 61) hx hb dX7_does_41 (by decide) (fun c5 => ?_) (fun c5 => ?_)
    · have hf := kif_t c5 hf
      refine lv_iconst (v := (0 : Int32)) hx hb dX7_does_61 (by decide) ?_
      obtain ⟨rfl, rfl, rfl⟩ := kinj3 hf
      exact kret_z false rfl C0 hr hlk hP hS dX7_does_62
    · have hf := kif_f c5 hf
      refine lv_iload_n hx hb dX7_does_44 rfl (lv_at hl 3 rfl) ?_
      refine lv_bipush (v := (10 : Int32)) hx hb dX7_does_45 (by decide) ?_
      refine lv_icmp_ge (tgt := 63) hx hb dX7_does_47 (by decide) (fun c6 => ?_) (fun c6 => ?_)
      · have hf := kif_t c6 hf
        exact hB63 _ _ _ _ _ _ hf hP hS (lv_sub hl [1, 2, 3, 0] rfl)
      · have hf := kif_f c6 hf
        refine lv_aload_n hx hb dX7_does_50 rfl (lv_at hl 1 rfl) ?_
        refine xg_M_8 C0 hP q_605 dX7_does_51 ?_
        refine lv_iload_n hx hb dX7_does_54 rfl (lv_at hl 0 rfl) ?_
        obtain ⟨r10, e9, hf⟩ := kb1_s hf
        refine kcallT (As := [.int (v (8)), .int s0]) (rest := []) C0 (cX7_isOf_c hap e9) q_734 kw_X7_isOf hP hS ⟨Nat.le_of_ble_eq_true rfl, Nat.le_of_ble_eq_true rfl⟩ rfl hl.1 rfl (Nat.le_of_ble_eq_true rfl) dX7_does_55 (fun H locs hP hS => ?_)
        refine lv_if_eq (tgt := 63) hx hb dX7_does_58 (by decide) (fun c11 => ?_) (fun c11 => ?_)
        · have hf := kif_t c11 hf
          exact hB63 _ _ _ _ _ _ hf hP hS (lv_sub hl [1, 2, 3, 0] rfl)
        · have hf := kif_f c11 hf
          refine lv_iconst (v := (0 : Int32)) hx hb dX7_does_61 (by decide) ?_
          obtain ⟨rfl, rfl, rfl⟩ := kinj3 hf
          exact kret_z false rfl C0 hr hlk hP hS dX7_does_62
  unfold fX7_does at hf
  refine lv_iload_n hx hb dX7_does_0 rfl (lv_at hl 2 rfl) ?_
  refine lv_bipush (v := (20 : Int32)) hx hb dX7_does_1 (by decide) ?_
  refine lv_icmp_ne (tgt := 21) hx hb dX7_does_3 (by decide) (fun c1 => ?_) (fun c1 => ?_)
  · have hf := kif_f c1 hf
    refine lv_iload_n hx hb dX7_does_21 rfl (lv_at hl 2 rfl) ?_
    refine lv_bipush (v := (10 : Int32)) hx hb dX7_does_22 (by decide) ?_
    refine lv_icmp_lt (tgt := 34) hx hb dX7_does_24 (by decide) (fun c2 => ?_) (fun c2 => ?_)
    · have hf := kif_t c2 hf
      refine lv_iload_n hx hb dX7_does_34 rfl (lv_at hl 2 rfl) ?_
      exact hB35 _ _ _ _ _ _ hf hP hS (lv_sub hl [0, 1, 2] rfl)
    · have hf := kif_f c2 hf
      refine lv_iload_n hx hb dX7_does_27 rfl (lv_at hl 2 rfl) ?_
      refine lv_bipush (v := (10 : Int32)) hx hb dX7_does_28 (by decide) ?_
      refine lv_isub hx hb dX7_does_30 ?_
      refine lv_goto (tgt := 35) hx hb dX7_does_31 (by decide) ?_
      exact hB35 _ _ _ _ _ _ hf hP hS (lv_sub hl [0, 1, 2] rfl)
  · have hf := kif_t c1 hf
    refine lv_aload_n hx hb dX7_does_6 rfl (lv_at hl 0 rfl) ?_
    refine lv_iload_n hx hb dX7_does_7 rfl (lv_at hl 1 rfl) ?_
    obtain ⟨v14, ar15, e12, hf⟩ := kb2_s hf
    refine kcallV (As := [.int p1]) (rest := []) C0 (cX7_findPass_c hap e12) q_811 kw_X7_findPass (xv_M C0.2 hP) hP hS ⟨Nat.le_of_ble_eq_true rfl, Nat.le_of_ble_eq_true rfl⟩ rfl hl.1 rfl (Nat.le_of_ble_eq_true rfl) dX7_does_8 (fun H locs hP hS => ?_)
    refine lv_aload_n hx hb dX7_does_11 rfl (lv_at hl 0 rfl) ?_
    refine lv_aload_n hx hb dX7_does_12 rfl (lv_at hl 0 rfl) ?_
    refine xg_M_27 C0 hP q_624 dX7_does_13 ?_
    refine xp_M_7 C0 hap hP hS q_604 dX7_does_16 (fun H locs hP hS => ?_)
    refine lv_iconst (v := (1 : Int32)) hx hb dX7_does_19 (by decide) ?_
    obtain ⟨rfl, rfl, rfl⟩ := kinj3 hf
    exact kret_z true rfl C0 hr hlk hP hS dX7_does_20
set_option maxHeartbeats 4000000 in
set_option maxRecDepth 100000 in
theorem cX7_goDay_c {l : Launch} {D : va_G} {cI cS : ClassId} {a : Nat → Nat} (hap : kAp a 15) {v : kV} {ar : kR} {p1 : Int32} {p2 : Int32} {r : Int32} {v2 : kV} {ar2 : kR} (hf : fX7_goDay v ar p1 p2 = some (r, v2, ar2)) : kMet l D cI cS (mW cI a) (kA a 15) yX7_goDay cX7_goDay 4 (some .int) 7 169 [.ref (a 0), .int p1, .int p2] v ar (some (.int r)) v2 ar2 := by
  refine kstart (by decide) (Nat.le_of_ble_eq_true rfl) ?_
  intro p e s m args below meth c ls C0 hr hlk hl hP hS
  have C0 : kC p s m c args cX7_goDay 4 RX7 D cI cS := C0
  have hx := C0.1.1
  have hb := C0.1.2.1
  have hl : lv_has ls 4 [(0, .ref (a 0)), (1, .int p1), (2, .int p2)] := hl
  have hB2 : ∀ (n : Nat), ∀ (x3 : Int32) (v : kV) (ar : kR) (H : Heap) (locs : List Loc) (ls : Array Slot), fX7_goDay_2 p1 p2 n x3 v ar = some (r, v2, ar2) → va_P D vwCl (mW cI a v ar) H → va_S (kA a 15) s.heap H locs → lv_has ls 4 [(0, .ref (a 0)), (1, .int p1), (2, .int p2), (3, .int x3)] → kGo p l e 7 169 s m args below meth c D (mW cI a) (kA a 15) (some (.int r)) v2 ar2 H locs (F0 m 2 ls []) := by
    intro  n
    induction n with
    | zero =>
      intro x3 v ar H locs ls hf
      have hf : (none : Option (Int32 × kV × kR)) = some (r, v2, ar2) := hf
      cases hf
    | succ n ih =>
      intro x3 v ar H locs ls hf hP hS hl
      have hf : fX7_goDay_2b p1 p2 (fX7_goDay_2 p1 p2 n) x3 v ar = some (r, v2, ar2) := hf
      unfold fX7_goDay_2b at hf
      refine lv_iload_n hx hb dX7_goDay_2 rfl (lv_at hl 3 rfl) ?_
      refine lv_iload_n hx hb dX7_goDay_3 rfl (lv_at hl 2 rfl) ?_
      refine lv_icmp_ge (tgt := 44) hx hb dX7_goDay_4 (by decide) (fun c1 => ?_) (fun c1 => ?_)
      · have hf := kif_t c1 hf
        refine lv_bipush (v := (-9 : Int32)) hx hb dX7_goDay_44 (by decide) ?_
        obtain ⟨rfl, rfl, rfl⟩ := kinj3 hf
        exact kret_i C0 hr hlk hP hS dX7_goDay_46
      · have hf := kif_f c1 hf
        refine lv_aload_n hx hb dX7_goDay_7 rfl (lv_at hl 0 rfl) ?_
        refine lv_aload_n hx hb dX7_goDay_8 rfl (lv_at hl 0 rfl) ?_
        refine xg_M_4 C0 hP q_601 dX7_goDay_9 ?_
        refine lv_iload_n hx hb dX7_goDay_12 rfl (lv_at hl 1 rfl) ?_
        refine lv_iconst (v := (2 : Int32)) hx hb dX7_goDay_13 (by decide) ?_
        refine lv_iload_n hx hb dX7_goDay_14 rfl (lv_at hl 3 rfl) ?_
        refine lv_imul hx hb dX7_goDay_15 ?_
        refine lv_iadd hx hb dX7_goDay_16 ?_
        obtain ⟨g2, hf⟩ := kgd hf
        refine ml_cells C0 hP g2 dX7_goDay_17 ?_
        refine lv_aload_n hx hb dX7_goDay_18 rfl (lv_at hl 0 rfl) ?_
        refine xg_M_4 C0 hP q_601 dX7_goDay_19 ?_
        refine lv_iload_n hx hb dX7_goDay_22 rfl (lv_at hl 1 rfl) ?_
        refine lv_iconst (v := (2 : Int32)) hx hb dX7_goDay_23 (by decide) ?_
        refine lv_iload_n hx hb dX7_goDay_24 rfl (lv_at hl 3 rfl) ?_
        refine lv_imul hx hb dX7_goDay_25 ?_
        refine lv_iadd hx hb dX7_goDay_26 ?_
        refine lv_iconst (v := (1 : Int32)) hx hb dX7_goDay_27 (by decide) ?_
        refine lv_iadd hx hb dX7_goDay_28 ?_
        obtain ⟨g3, hf⟩ := kgd hf
        refine ml_cells C0 hP g3 dX7_goDay_29 ?_
        obtain ⟨r5, v6, ar7, e4, hf⟩ := kb3_s hf
        refine kcallV (As := [.int (ar (2) (p1 + ((2 : Int32) * x3)).toNatClampNeg), .int (ar (2) ((p1 + ((2 : Int32) * x3)) + (1 : Int32)).toNatClampNeg)]) (rest := []) C0 (cX7_does_c hap e4) q_842 kw_X7_does (xv_M C0.2 hP) hP hS ⟨Nat.le_of_ble_eq_true rfl, Nat.le_of_ble_eq_true rfl⟩ rfl hl.1 rfl (Nat.le_of_ble_eq_true rfl) dX7_goDay_30 (fun H locs hP hS => ?_)
        refine lv_if_ne (tgt := 38) hx hb dX7_goDay_33 (by decide) (fun c8 => ?_) (fun c8 => ?_)
        · have hf := kif_f c8 hf
          refine lv_iinc (v := (x3 + (1 : Int32))) (lv' := [(3, .int (x3 + (1 : Int32))), (0, .ref (a 0)), (1, .int p1), (2, .int p2)]) hx hb dX7_goDay_38 hl (k := 3) rfl rfl (by decide) rfl (fun ls hl => ?_)
          refine lv_goto (tgt := 2) hx hb dX7_goDay_41 (by decide) ?_
          exact ih _ _ _ _ _ _ hf hP hS (lv_sub hl [1, 2, 3, 0] rfl)
        · have hf := kif_t c8 hf
          refine lv_iload_n hx hb dX7_goDay_36 rfl (lv_at hl 3 rfl) ?_
          obtain ⟨rfl, rfl, rfl⟩ := kinj3 hf
          exact kret_i C0 hr hlk hP hS dX7_goDay_37
  unfold fX7_goDay at hf
  refine lv_iconst (v := (0 : Int32)) hx hb dX7_goDay_0 (by decide) ?_
  refine lv_istore_n (lv' := [(3, .int (0 : Int32)), (0, .ref (a 0)), (1, .int p1), (2, .int p2)]) hx hb dX7_goDay_1 rfl hl (by decide) rfl (fun ls hl => ?_)
  exact hB2 _ _ _ _ _ _ _ hf hP hS (lv_sub hl [1, 2, 3, 0] rfl)
set_option maxHeartbeats 4000000 in
set_option maxRecDepth 100000 in
theorem cX7_tellDay_c {l : Launch} {D : va_G} {cI cS : ClassId} {a : Nat → Nat} (hap : kAp a 15) {v : kV} {ar : kR} {p1 : Int32} {r : Int32} (hf : fX7_tellDay v ar p1 = some r) : kMet l D cI cS (mW cI a) (kA a 15) yX7_tellDay cX7_tellDay 2 (some .int) 3 68 [.ref (a 0), .int p1] v ar (some (.int r)) v ar := by
  refine kstart (by decide) (Nat.le_of_ble_eq_true rfl) ?_
  intro p e s m args below meth c ls C0 hr hlk hl hP hS
  have C0 : kC p s m c args cX7_tellDay 2 RX7 D cI cS := C0
  have hx := C0.1.1
  have hb := C0.1.2.1
  have hl : lv_has ls 2 [(0, .ref (a 0)), (1, .int p1)] := hl
  unfold fX7_tellDay at hf
  refine lv_iload_n hx hb dX7_tellDay_0 rfl (lv_at hl 1 rfl) ?_
  refine lv_bipush (v := (10 : Int32)) hx hb dX7_tellDay_1 (by decide) ?_
  refine lv_icmp_lt (tgt := 38) hx hb dX7_tellDay_3 (by decide) (fun c1 => ?_) (fun c1 => ?_)
  · have hf := kif_t c1 hf
    refine lv_iload_n hx hb dX7_tellDay_38 rfl (lv_at hl 1 rfl) ?_
    refine lv_if_ne (tgt := 53) hx hb dX7_tellDay_39 (by decide) (fun c2 => ?_) (fun c2 => ?_)
    · have hf := kif_f c2 hf
      refine lv_iload_n hx hb dX7_tellDay_53 rfl (lv_at hl 1 rfl) ?_
      refine lv_iconst (v := (2 : Int32)) hx hb dX7_tellDay_54 (by decide) ?_
      refine lv_icmp_ne (tgt := 65) hx hb dX7_tellDay_55 (by decide) (fun c3 => ?_) (fun c3 => ?_)
      · have hf := kif_f c3 hf
        refine lv_iload_n hx hb dX7_tellDay_65 rfl (lv_at hl 1 rfl) ?_
        refine lv_iconst (v := (3 : Int32)) hx hb dX7_tellDay_66 (by decide) ?_
        refine lv_icmp_ne (tgt := 88) hx hb dX7_tellDay_67 (by decide) (fun c4 => ?_) (fun c4 => ?_)
        · have hf := kif_f c4 hf
          refine lv_aload_n hx hb dX7_tellDay_88 rfl (lv_at hl 0 rfl) ?_
          refine lv_iconst (v := (0 : Int32)) hx hb dX7_tellDay_89 (by decide) ?_
          refine lv_aload_n hx hb dX7_tellDay_90 rfl (lv_at hl 0 rfl) ?_
          refine xg_M_7 C0 hP q_604 dX7_tellDay_91 ?_
          obtain ⟨r6, e5, hf⟩ := kb1_s hf
          refine kcallV (As := [.int (0 : Int32), .int (v (7))]) (rest := []) C0 (cX7_shareOf_c hap e5) q_786 kw_X7_shareOf (xv_M C0.2 hP) hP hS ⟨Nat.le_of_ble_eq_true rfl, Nat.le_of_ble_eq_true rfl⟩ rfl hl.1 rfl (Nat.le_of_ble_eq_true rfl) dX7_tellDay_94 (fun H locs hP hS => ?_)
          obtain rfl := Option.some.inj hf
          exact kret_i C0 hr hlk hP hS dX7_tellDay_97
        · have hf := kif_t c4 hf
          refine lv_aload_n hx hb dX7_tellDay_70 rfl (lv_at hl 0 rfl) ?_
          refine lv_aload_n hx hb dX7_tellDay_71 rfl (lv_at hl 0 rfl) ?_
          obtain ⟨r8, e7, hf⟩ := kb1_s hf
          refine kcallV (As := []) (rest := [.ref (a 0)]) C0 (cX7_all_c hap e7) q_765 kw_X7_all (xv_M C0.2 hP) hP hS ⟨Nat.le_of_ble_eq_true rfl, Nat.le_of_ble_eq_true rfl⟩ rfl hl.1 rfl (Nat.le_of_ble_eq_true rfl) dX7_tellDay_72 (fun H locs hP hS => ?_)
          refine lv_aload_n hx hb dX7_tellDay_75 rfl (lv_at hl 0 rfl) ?_
          refine xg_M_7 C0 hP q_604 dX7_tellDay_76 ?_
          refine lv_iconst (v := (-1 : Int32)) hx hb dX7_tellDay_79 (by decide) ?_
          refine lv_ixor hx hb dX7_tellDay_80 ?_
          refine lv_iand hx hb dX7_tellDay_81 ?_
          obtain ⟨r10, e9, hf⟩ := kb1_s hf
          refine kcallV (As := [.int (r8 &&& ((v (7)) ^^^ (-1 : Int32)))]) (rest := []) C0 (cX7_weightOfSet_c hap e9) q_769 kw_X7_weightOfSet (xv_M C0.2 hP) hP hS ⟨Nat.le_of_ble_eq_true rfl, Nat.le_of_ble_eq_true rfl⟩ rfl hl.1 rfl (Nat.le_of_ble_eq_true rfl) dX7_tellDay_82 (fun H locs hP hS => ?_)
          refine lv_goto (tgt := 97) hx hb dX7_tellDay_85 (by decide) ?_
          obtain rfl := Option.some.inj hf
          exact kret_i C0 hr hlk hP hS dX7_tellDay_97
      · have hf := kif_t c3 hf
        refine lv_aload_n hx hb dX7_tellDay_58 rfl (lv_at hl 0 rfl) ?_
        refine xg_M_7 C0 hP q_604 dX7_tellDay_59 ?_
        refine lv_goto (tgt := 97) hx hb dX7_tellDay_62 (by decide) ?_
        obtain rfl := Option.some.inj hf
        exact kret_i C0 hr hlk hP hS dX7_tellDay_97
    · have hf := kif_t c2 hf
      refine lv_aload_n hx hb dX7_tellDay_42 rfl (lv_at hl 0 rfl) ?_
      refine lv_aload_n hx hb dX7_tellDay_43 rfl (lv_at hl 0 rfl) ?_
      refine xg_M_7 C0 hP q_604 dX7_tellDay_44 ?_
      obtain ⟨r12, e11, hf⟩ := kb1_s hf
      refine kcallV (As := [.int (v (7))]) (rest := []) C0 (cX7_cutsBy_c hap e11) q_757 kw_X7_cutsBy (xv_M C0.2 hP) hP hS ⟨Nat.le_of_ble_eq_true rfl, Nat.le_of_ble_eq_true rfl⟩ rfl hl.1 rfl (Nat.le_of_ble_eq_true rfl) dX7_tellDay_47 (fun H locs hP hS => ?_)
      refine lv_goto (tgt := 97) hx hb dX7_tellDay_50 (by decide) ?_
      obtain rfl := Option.some.inj hf
      exact kret_i C0 hr hlk hP hS dX7_tellDay_97
  · have hf := kif_f c1 hf
    refine lv_aload_n hx hb dX7_tellDay_6 rfl (lv_at hl 0 rfl) ?_
    refine lv_iload_n hx hb dX7_tellDay_7 rfl (lv_at hl 1 rfl) ?_
    refine lv_bipush (v := (10 : Int32)) hx hb dX7_tellDay_8 (by decide) ?_
    refine lv_isub hx hb dX7_tellDay_10 ?_
    obtain ⟨r14, e13, hf⟩ := kb1_s hf
    refine kcallV (As := [.int (p1 - (10 : Int32))]) (rest := []) C0 (cX7_isCell_c hap e13) q_741 kw_X7_isCell (xv_M C0.2 hP) hP hS ⟨Nat.le_of_ble_eq_true rfl, Nat.le_of_ble_eq_true rfl⟩ rfl hl.1 rfl (Nat.le_of_ble_eq_true rfl) dX7_tellDay_11 (fun H locs hP hS => ?_)
    refine lv_if_eq (tgt := 35) hx hb dX7_tellDay_14 (by decide) (fun c15 => ?_) (fun c15 => ?_)
    · have hf := kif_t c15 hf
      refine lv_bipush (v := (-9 : Int32)) hx hb dX7_tellDay_35 (by decide) ?_
      obtain rfl := Option.some.inj hf
      exact kret_i C0 hr hlk hP hS dX7_tellDay_37
    · have hf := kif_f c15 hf
      refine lv_aload_n hx hb dX7_tellDay_17 rfl (lv_at hl 0 rfl) ?_
      refine lv_iload_n hx hb dX7_tellDay_18 rfl (lv_at hl 1 rfl) ?_
      refine lv_bipush (v := (10 : Int32)) hx hb dX7_tellDay_19 (by decide) ?_
      refine lv_isub hx hb dX7_tellDay_21 ?_
      refine lv_aload_n hx hb dX7_tellDay_22 rfl (lv_at hl 0 rfl) ?_
      refine xg_M_7 C0 hP q_604 dX7_tellDay_23 ?_
      obtain ⟨r17, e16, hf⟩ := kb1_s hf
      refine kcallV (As := [.int (p1 - (10 : Int32)), .int (v (7))]) (rest := []) C0 (cX7_gainOf_c hap e16) q_753 kw_X7_gainOf (xv_M C0.2 hP) hP hS ⟨Nat.le_of_ble_eq_true rfl, Nat.le_of_ble_eq_true rfl⟩ rfl hl.1 rfl (Nat.le_of_ble_eq_true rfl) dX7_tellDay_26 (fun H locs hP hS => ?_)
      refine lv_bipush (v := (10 : Int32)) hx hb dX7_tellDay_29 (by decide) ?_
      refine lv_iadd hx hb dX7_tellDay_31 ?_
      refine lv_goto (tgt := 37) hx hb dX7_tellDay_32 (by decide) ?_
      obtain rfl := Option.some.inj hf
      exact kret_i C0 hr hlk hP hS dX7_tellDay_37
set_option maxHeartbeats 4000000 in
set_option maxRecDepth 100000 in
theorem cX7_day_c {l : Launch} {D : va_G} {cI cS : ClassId} {a : Nat → Nat} (hap : kAp a 15) {v : kV} {ar : kR} {p1 : Int32} {p2 : Int32} {p3 : Int32} {p4 : Int32} {p5 : Int32} {r : Int32} {v2 : kV} {ar2 : kR} (hf : fX7_day v ar p1 p2 p3 p4 p5 = some (r, v2, ar2)) : kMet l D cI cS (mW cI a) (kA a 15) yX7_day cX7_day 12 (some .int) 8 192 [.ref (a 0), .int p1, .int p2, .int p3, .int p4, .int p5] v ar (some (.int r)) v2 ar2 := by
  refine kstart (by decide) (Nat.le_of_ble_eq_true rfl) ?_
  intro p e s m args below meth c ls C0 hr hlk hl hP hS
  have C0 : kC p s m c args cX7_day 12 RX7 D cI cS := C0
  have hx := C0.1.1
  have hb := C0.1.2.1
  have hl : lv_has ls 12 [(0, .ref (a 0)), (1, .int p1), (2, .int p2), (3, .int p3), (4, .int p4), (5, .int p5)] := hl
  have hB216 : ∀ (n : Nat), ∀ (x9 : Int32) (x10 : Int32) (x11 : Int32) (v : kV) (ar : kR) (H : Heap) (locs : List Loc) (ls : Array Slot), fX7_day_216 p1 p2 p3 p4 p5 n x9 x10 x11 v ar = some (r, v2, ar2) → va_P D vwCl (mW cI a v ar) H → va_S (kA a 15) s.heap H locs → lv_has ls 12 [(0, .ref (a 0)), (5, .int p5), (9, .int x9), (10, .int x10), (11, .int x11)] → kGo p l e 8 192 s m args below meth c D (mW cI a) (kA a 15) (some (.int r)) v2 ar2 H locs (F0 m 216 ls []) := by
    intro  n
    induction n with
    | zero =>
      intro x9 x10 x11 v ar H locs ls hf
      have hf : (none : Option (Int32 × kV × kR)) = some (r, v2, ar2) := hf
      cases hf
    | succ n ih =>
      intro x9 x10 x11 v ar H locs ls hf hP hS hl
      have hf : fX7_day_216b p1 p2 p3 p4 p5 (fX7_day_216 p1 p2 p3 p4 p5 n) x9 x10 x11 v ar = some (r, v2, ar2) := hf
      unfold fX7_day_216b at hf
      refine lv_iload hx hb dX7_day_216 (lv_at hl 4 rfl) ?_
      refine lv_aload_n hx hb dX7_day_218 rfl (lv_at hl 0 rfl) ?_
      refine xg_M_5 C0 hP q_602 dX7_day_219 ?_
      refine lv_icmp_ge (tgt := 245) hx hb dX7_day_222 (by decide) (fun c25 => ?_) (fun c25 => ?_)
      · have hf := kif_t c25 hf
        refine lv_iload hx hb dX7_day_245 (lv_at hl 1 rfl) ?_
        refine lv_iconst (v := (1 : Int32)) hx hb dX7_day_247 (by decide) ?_
        refine lv_icmp_ne (tgt := 256) hx hb dX7_day_248 (by decide) (fun c26 => ?_) (fun c26 => ?_)
        · have hf := kif_f c26 hf
          refine lv_iload hx hb dX7_day_256 (lv_at hl 2 rfl) ?_
          refine lv_bipush (v := (-9 : Int32)) hx hb dX7_day_258 (by decide) ?_
          refine lv_icmp_ne (tgt := 268) hx hb dX7_day_260 (by decide) (fun c27 => ?_) (fun c27 => ?_)
          · have hf := kif_f c27 hf
            refine lv_bipush (v := (-100 : Int32)) hx hb dX7_day_268 (by decide) ?_
            refine lv_iload hx hb dX7_day_270 (lv_at hl 2 rfl) ?_
            refine lv_isub hx hb dX7_day_272 ?_
            obtain ⟨rfl, rfl, rfl⟩ := kinj3 hf
            exact kret_i C0 hr hlk hP hS dX7_day_273
          · have hf := kif_t c27 hf
            refine lv_iload hx hb dX7_day_263 (lv_at hl 3 rfl) ?_
            refine lv_goto (tgt := 273) hx hb dX7_day_265 (by decide) ?_
            obtain ⟨rfl, rfl, rfl⟩ := kinj3 hf
            exact kret_i C0 hr hlk hP hS dX7_day_273
        · have hf := kif_t c26 hf
          refine lv_iload hx hb dX7_day_251 (lv_at hl 2 rfl) ?_
          refine lv_goto (tgt := 273) hx hb dX7_day_253 (by decide) ?_
          obtain ⟨rfl, rfl, rfl⟩ := kinj3 hf
          exact kret_i C0 hr hlk hP hS dX7_day_273
      · have hf := kif_f c25 hf
        refine lv_aload_n hx hb dX7_day_225 rfl (lv_at hl 0 rfl) ?_
        refine xg_M_14 C0 hP q_611 dX7_day_226 ?_
        refine lv_iload hx hb dX7_day_229 (lv_at hl 4 rfl) ?_
        refine lv_aload_n hx hb dX7_day_231 rfl (lv_at hl 0 rfl) ?_
        refine xg_M_28 C0 hP q_625 dX7_day_232 ?_
        refine lv_iload hx hb dX7_day_235 (lv_at hl 4 rfl) ?_
        obtain ⟨g28, hf⟩ := kgd hf
        refine ml_keptBulk C0 hP g28 dX7_day_237 ?_
        obtain ⟨g29, hf⟩ := kgd hf
        refine mt_bulk C0 hap hP hS g29 dX7_day_238 (fun H locs hP hS => ?_)
        refine lv_iinc (v := (x11 + (1 : Int32))) (lv' := [(11, .int (x11 + (1 : Int32))), (0, .ref (a 0)), (5, .int p5), (9, .int x9), (10, .int x10)]) hx hb dX7_day_239 hl (k := 4) rfl rfl (by decide) rfl (fun ls hl => ?_)
        refine lv_goto (tgt := 216) hx hb dX7_day_242 (by decide) ?_
        exact ih _ _ _ _ _ _ _ _ hf hP hS (lv_sub hl [1, 2, 3, 4, 0] rfl)
  have hB160 : ∀ (n : Nat), ∀ (x7 : Int32) (x8 : Int32) (x9 : Int32) (v : kV) (ar : kR) (H : Heap) (locs : List Loc) (ls : Array Slot), fX7_day_160 p1 p2 p3 p4 p5 n x7 x8 x9 v ar = some (r, v2, ar2) → va_P D vwCl (mW cI a v ar) H → va_S (kA a 15) s.heap H locs → lv_has ls 12 [(0, .ref (a 0)), (4, .int p4), (5, .int p5), (7, .int x7), (8, .int x8), (9, .int x9)] → kGo p l e 8 192 s m args below meth c D (mW cI a) (kA a 15) (some (.int r)) v2 ar2 H locs (F0 m 160 ls []) := by
    intro  n
    induction n with
    | zero =>
      intro x7 x8 x9 v ar H locs ls hf
      have hf : (none : Option (Int32 × kV × kR)) = some (r, v2, ar2) := hf
      cases hf
    | succ n ih =>
      intro x7 x8 x9 v ar H locs ls hf hP hS hl
      have hf : fX7_day_160b p1 p2 p3 p4 p5 (fX7_day_160 p1 p2 p3 p4 p5 n) x7 x8 x9 v ar = some (r, v2, ar2) := hf
      unfold fX7_day_160b at hf
      refine lv_iload hx hb dX7_day_160 (lv_at hl 5 rfl) ?_
      refine lv_aload_n hx hb dX7_day_162 rfl (lv_at hl 0 rfl) ?_
      refine xg_M_5 C0 hP q_602 dX7_day_163 ?_
      refine lv_icmp_ge (tgt := 189) hx hb dX7_day_166 (by decide) (fun c18 => ?_) (fun c18 => ?_)
      · have hf := kif_t c18 hf
        refine lv_aload_n hx hb dX7_day_189 rfl (lv_at hl 0 rfl) ?_
        refine lv_iload hx hb dX7_day_190 (lv_at hl 3 rfl) ?_
        refine lv_iload hx hb dX7_day_192 (lv_at hl 1 rfl) ?_
        obtain ⟨r20, v21, ar22, e19, hf⟩ := kb3_s hf
        refine kcallV (As := [.int x7, .int p4]) (rest := []) C0 (cX7_goDay_c hap e19) q_838 kw_X7_goDay (xv_M C0.2 hP) hP hS ⟨Nat.le_of_ble_eq_true rfl, Nat.le_of_ble_eq_true rfl⟩ rfl hl.1 rfl (Nat.le_of_ble_eq_true rfl) dX7_day_194 (fun H locs hP hS => ?_)
        refine lv_istore (lv' := [(9, .int r20), (0, .ref (a 0)), (4, .int p4), (5, .int p5), (7, .int x7), (8, .int x8)]) hx hb dX7_day_197 hl (by decide) rfl (fun ls hl => ?_)
        refine lv_aload_n hx hb dX7_day_199 rfl (lv_at hl 1 rfl) ?_
        refine lv_iload hx hb dX7_day_200 (lv_at hl 3 rfl) ?_
        obtain ⟨r24, e23, hf⟩ := kb1_s hf
        refine kcallV (As := [.int p5]) (rest := []) C0 (cX7_tellDay_c hap e23) q_846 kw_X7_tellDay (xv_M C0.2 hP) hP hS ⟨Nat.le_of_ble_eq_true rfl, Nat.le_of_ble_eq_true rfl⟩ rfl hl.1 rfl (Nat.le_of_ble_eq_true rfl) dX7_day_202 (fun H locs hP hS => ?_)
        refine lv_istore (lv' := [(10, .int r24), (9, .int r20), (0, .ref (a 0)), (4, .int p4), (5, .int p5), (7, .int x7), (8, .int x8)]) hx hb dX7_day_205 hl (by decide) rfl (fun ls hl => ?_)
        refine lv_aload_n hx hb dX7_day_207 rfl (lv_at hl 2 rfl) ?_
        refine lv_iload hx hb dX7_day_208 (lv_at hl 6 rfl) ?_
        refine xp_M_7 C0 hap hP hS q_604 dX7_day_210 (fun H locs hP hS => ?_)
        refine lv_iconst (v := (0 : Int32)) hx hb dX7_day_213 (by decide) ?_
        refine lv_istore (lv' := [(11, .int (0 : Int32)), (10, .int r24), (9, .int r20), (0, .ref (a 0)), (4, .int p4), (5, .int p5), (7, .int x7), (8, .int x8)]) hx hb dX7_day_214 hl (by decide) rfl (fun ls hl => ?_)
        exact hB216 _ _ _ _ _ _ _ _ _ hf hP hS (lv_sub hl [3, 5, 2, 1, 0] rfl)
      · have hf := kif_f c18 hf
        refine lv_aload_n hx hb dX7_day_169 rfl (lv_at hl 0 rfl) ?_
        refine xg_M_28 C0 hP q_625 dX7_day_170 ?_
        refine lv_iload hx hb dX7_day_173 (lv_at hl 5 rfl) ?_
        refine lv_aload_n hx hb dX7_day_175 rfl (lv_at hl 0 rfl) ?_
        refine xg_M_14 C0 hP q_611 dX7_day_176 ?_
        refine lv_iload hx hb dX7_day_179 (lv_at hl 5 rfl) ?_
        obtain ⟨g30, hf⟩ := kgd hf
        refine ml_bulk C0 hP g30 dX7_day_181 ?_
        obtain ⟨g31, hf⟩ := kgd hf
        refine mt_keptBulk C0 hap hP hS g31 dX7_day_182 (fun H locs hP hS => ?_)
        refine lv_iinc (v := (x9 + (1 : Int32))) (lv' := [(9, .int (x9 + (1 : Int32))), (0, .ref (a 0)), (4, .int p4), (5, .int p5), (7, .int x7), (8, .int x8)]) hx hb dX7_day_183 hl (k := 5) rfl rfl (by decide) rfl (fun ls hl => ?_)
        refine lv_goto (tgt := 160) hx hb dX7_day_186 (by decide) ?_
        exact ih _ _ _ _ _ _ _ _ hf hP hS (lv_sub hl [1, 2, 3, 4, 5, 0] rfl)
  have hB103 : ∀ (n : Nat), ∀ (x7 : Int32) (x8 : Int32) (v : kV) (ar : kR) (H : Heap) (locs : List Loc) (ls : Array Slot), fX7_day_103 p1 p2 p3 p4 p5 n x7 x8 v ar = some (r, v2, ar2) → va_P D vwCl (mW cI a v ar) H → va_S (kA a 15) s.heap H locs → lv_has ls 12 [(0, .ref (a 0)), (4, .int p4), (5, .int p5), (7, .int x7), (8, .int x8)] → kGo p l e 8 192 s m args below meth c D (mW cI a) (kA a 15) (some (.int r)) v2 ar2 H locs (F0 m 103 ls []) := by
    intro  n
    induction n with
    | zero =>
      intro x7 x8 v ar H locs ls hf
      have hf : (none : Option (Int32 × kV × kR)) = some (r, v2, ar2) := hf
      cases hf
    | succ n ih =>
      intro x7 x8 v ar H locs ls hf hP hS hl
      have hf : fX7_day_103b p1 p2 p3 p4 p5 (fX7_day_103 p1 p2 p3 p4 p5 n) x7 x8 v ar = some (r, v2, ar2) := hf
      unfold fX7_day_103b at hf
      refine lv_iload hx hb dX7_day_103 (lv_at hl 4 rfl) ?_
      refine lv_iload hx hb dX7_day_105 (lv_at hl 1 rfl) ?_
      refine lv_icmp_ge (tgt := 151) hx hb dX7_day_107 (by decide) (fun c17 => ?_) (fun c17 => ?_)
      · have hf := kif_t c17 hf
        refine lv_aload_n hx hb dX7_day_151 rfl (lv_at hl 0 rfl) ?_
        refine xg_M_7 C0 hP q_604 dX7_day_152 ?_
        refine lv_istore (lv' := [(8, .int (v (7))), (0, .ref (a 0)), (4, .int p4), (5, .int p5), (7, .int x7)]) hx hb dX7_day_155 hl (by decide) rfl (fun ls hl => ?_)
        refine lv_iconst (v := (0 : Int32)) hx hb dX7_day_157 (by decide) ?_
        refine lv_istore (lv' := [(9, .int (0 : Int32)), (8, .int (v (7))), (0, .ref (a 0)), (4, .int p4), (5, .int p5), (7, .int x7)]) hx hb dX7_day_158 hl (by decide) rfl (fun ls hl => ?_)
        exact hB160 _ _ _ _ _ _ _ _ _ hf hP hS (lv_sub hl [2, 3, 4, 5, 1, 0] rfl)
      · have hf := kif_f c17 hf
        refine lv_aload_n hx hb dX7_day_110 rfl (lv_at hl 0 rfl) ?_
        refine xg_M_4 C0 hP q_601 dX7_day_111 ?_
        refine lv_iload hx hb dX7_day_114 (lv_at hl 3 rfl) ?_
        refine lv_iconst (v := (2 : Int32)) hx hb dX7_day_116 (by decide) ?_
        refine lv_iload hx hb dX7_day_117 (lv_at hl 4 rfl) ?_
        refine lv_imul hx hb dX7_day_119 ?_
        refine lv_iadd hx hb dX7_day_120 ?_
        obtain ⟨g32, hf⟩ := kgd hf
        refine ml_cells C0 hP g32 dX7_day_121 ?_
        refine lv_aload_n hx hb dX7_day_122 rfl (lv_at hl 0 rfl) ?_
        refine xg_M_4 C0 hP q_601 dX7_day_123 ?_
        refine lv_iload hx hb dX7_day_126 (lv_at hl 3 rfl) ?_
        refine lv_iconst (v := (2 : Int32)) hx hb dX7_day_128 (by decide) ?_
        refine lv_iload hx hb dX7_day_129 (lv_at hl 4 rfl) ?_
        refine lv_imul hx hb dX7_day_131 ?_
        refine lv_iadd hx hb dX7_day_132 ?_
        refine lv_iconst (v := (1 : Int32)) hx hb dX7_day_133 (by decide) ?_
        refine lv_iadd hx hb dX7_day_134 ?_
        obtain ⟨g33, hf⟩ := kgd hf
        refine ml_cells C0 hP g33 dX7_day_135 ?_
        obtain ⟨r35, e34, hf⟩ := kb1_s hf
        refine kcallT (As := [.int (ar (2) (x7 + ((2 : Int32) * x8)).toNatClampNeg), .int (ar (2) ((x7 + ((2 : Int32) * x8)) + (1 : Int32)).toNatClampNeg)]) (rest := []) C0 (cX7_isPair_c hap e34) q_835 kw_X7_isPair hP hS ⟨Nat.le_of_ble_eq_true rfl, Nat.le_of_ble_eq_true rfl⟩ rfl hl.1 rfl (Nat.le_of_ble_eq_true rfl) dX7_day_136 (fun H locs hP hS => ?_)
        refine lv_if_ne (tgt := 145) hx hb dX7_day_139 (by decide) (fun c36 => ?_) (fun c36 => ?_)
        · have hf := kif_f c36 hf
          refine lv_iinc (v := (x8 + (1 : Int32))) (lv' := [(8, .int (x8 + (1 : Int32))), (0, .ref (a 0)), (4, .int p4), (5, .int p5), (7, .int x7)]) hx hb dX7_day_145 hl (k := 4) rfl rfl (by decide) rfl (fun ls hl => ?_)
          refine lv_goto (tgt := 103) hx hb dX7_day_148 (by decide) ?_
          exact ih _ _ _ _ _ _ _ hf hP hS (lv_sub hl [1, 2, 3, 4, 0] rfl)
        · have hf := kif_t c36 hf
          refine lv_bipush (v := (-2 : Int32)) hx hb dX7_day_142 (by decide) ?_
          obtain ⟨rfl, rfl, rfl⟩ := kinj3 hf
          exact kret_i C0 hr hlk hP hS dX7_day_144
  have hB57 : ∀ (v : kV) (ar : kR) (H : Heap) (locs : List Loc) (ls : Array Slot), fX7_day_57 p1 p2 p3 p4 p5 v ar = some (r, v2, ar2) → va_P D vwCl (mW cI a v ar) H → va_S (kA a 15) s.heap H locs → lv_has ls 12 [(0, .ref (a 0)), (1, .int p1), (2, .int p2), (3, .int p3), (4, .int p4), (5, .int p5)] → kGo p l e 8 192 s m args below meth c D (mW cI a) (kA a 15) (some (.int r)) v2 ar2 H locs (F0 m 57 ls []) := by
    intro  v ar H locs ls hf hP hS hl
    unfold fX7_day_57 at hf
    refine lv_aload_n hx hb dX7_day_57 rfl (lv_at hl 0 rfl) ?_
    refine lv_iload_n hx hb dX7_day_58 rfl (lv_at hl 1 rfl) ?_
    refine lv_iload_n hx hb dX7_day_59 rfl (lv_at hl 2 rfl) ?_
    refine lv_iload_n hx hb dX7_day_60 rfl (lv_at hl 3 rfl) ?_
    refine lv_iconst (v := (2 : Int32)) hx hb dX7_day_61 (by decide) ?_
    refine lv_iload hx hb dX7_day_62 (lv_at hl 4 rfl) ?_
    refine lv_imul hx hb dX7_day_64 ?_
    obtain ⟨r14, e13, hf⟩ := kb1_s hf
    refine kcallV (As := [.int p1, .int p2, .int p3, .int ((2 : Int32) * p4)]) (rest := []) C0 (cX7_against_c hap e13) q_707 kw_X7_against (xv_M C0.2 hP) hP hS ⟨Nat.le_of_ble_eq_true rfl, Nat.le_of_ble_eq_true rfl⟩ rfl hl.1 rfl (Nat.le_of_ble_eq_true rfl) dX7_day_65 (fun H locs hP hS => ?_)
    refine lv_istore (lv' := [(6, .int r14), (0, .ref (a 0)), (1, .int p1), (2, .int p2), (3, .int p3), (4, .int p4), (5, .int p5)]) hx hb dX7_day_68 hl (by decide) rfl (fun ls hl => ?_)
    refine lv_iload hx hb dX7_day_70 (lv_at hl 0 rfl) ?_
    refine lv_if_eq (tgt := 82) hx hb dX7_day_72 (by decide) (fun c15 => ?_) (fun c15 => ?_)
    · have hf := kif_t c15 hf
      refine lv_aload_n hx hb dX7_day_82 rfl (lv_at hl 1 rfl) ?_
      refine xg_M_5 C0 hP q_602 dX7_day_83 ?_
      refine lv_if_ne (tgt := 92) hx hb dX7_day_86 (by decide) (fun c16 => ?_) (fun c16 => ?_)
      · have hf := kif_f c16 hf
        refine lv_bipush (v := (60 : Int32)) hx hb dX7_day_92 (by decide) ?_
        refine lv_iload_n hx hb dX7_day_94 rfl (lv_at hl 2 rfl) ?_
        refine lv_imul hx hb dX7_day_95 ?_
        refine lv_iload_n hx hb dX7_day_96 rfl (lv_at hl 4 rfl) ?_
        refine lv_iadd hx hb dX7_day_97 ?_
        refine lv_istore (lv' := [(7, .int (((60 : Int32) * p1) + p3)), (6, .int r14), (0, .ref (a 0)), (1, .int p1), (2, .int p2), (3, .int p3), (4, .int p4), (5, .int p5)]) hx hb dX7_day_98 hl (by decide) rfl (fun ls hl => ?_)
        refine lv_iconst (v := (0 : Int32)) hx hb dX7_day_100 (by decide) ?_
        refine lv_istore (lv' := [(8, .int (0 : Int32)), (7, .int (((60 : Int32) * p1) + p3)), (6, .int r14), (0, .ref (a 0)), (1, .int p1), (2, .int p2), (3, .int p3), (4, .int p4), (5, .int p5)]) hx hb dX7_day_101 hl (by decide) rfl (fun ls hl => ?_)
        exact hB103 _ _ _ _ _ _ _ _ hf hP hS (lv_sub hl [3, 7, 8, 1, 0] rfl)
      · have hf := kif_t c16 hf
        refine lv_bipush (v := (-3 : Int32)) hx hb dX7_day_89 (by decide) ?_
        obtain ⟨rfl, rfl, rfl⟩ := kinj3 hf
        exact kret_i C0 hr hlk hP hS dX7_day_91
    · have hf := kif_f c15 hf
      refine lv_aload_n hx hb dX7_day_75 rfl (lv_at hl 1 rfl) ?_
      refine lv_iload hx hb dX7_day_76 (lv_at hl 0 rfl) ?_
      obtain ⟨r38, v39, ar40, e37, hf⟩ := kb3_s hf
      refine kcallV (As := [.int r14]) (rest := []) C0 (cX7_fails_c hap e37) q_711 kw_X7_fails (xv_M C0.2 hP) hP hS ⟨Nat.le_of_ble_eq_true rfl, Nat.le_of_ble_eq_true rfl⟩ rfl hl.1 rfl (Nat.le_of_ble_eq_true rfl) dX7_day_78 (fun H locs hP hS => ?_)
      obtain ⟨rfl, rfl, rfl⟩ := kinj3 hf
      exact kret_i C0 hr hlk hP hS dX7_day_81
  unfold fX7_day at hf
  refine lv_aload_n hx hb dX7_day_0 rfl (lv_at hl 0 rfl) ?_
  refine lv_iconst (v := (0 : Int32)) hx hb dX7_day_1 (by decide) ?_
  refine xp_M_0 C0 hap hP hS q_597 dX7_day_2 (fun H locs hP hS => ?_)
  refine lv_iload_n hx hb dX7_day_5 rfl (lv_at hl 1 rfl) ?_
  obtain ⟨r2, e1, hf⟩ := kb1_s hf
  refine kcallT (As := [.int p1]) (rest := []) C0 (cX7_isSheet_c hap e1) q_698 kw_X7_isSheet hP hS ⟨Nat.le_of_ble_eq_true rfl, Nat.le_of_ble_eq_true rfl⟩ rfl hl.1 rfl (Nat.le_of_ble_eq_true rfl) dX7_day_6 (fun H locs hP hS => ?_)
  refine lv_if_ne (tgt := 14) hx hb dX7_day_9 (by decide) (fun c3 => ?_) (fun c3 => ?_)
  · have hf := kif_f c3 hf
    refine lv_iload_n hx hb dX7_day_14 rfl (lv_at hl 2 rfl) ?_
    obtain ⟨r5, e4, hf⟩ := kb1_s hf
    refine kcallT (As := [.int p2]) (rest := []) C0 (cX7_isSort_c hap e4) q_704 kw_X7_isSort hP hS ⟨Nat.le_of_ble_eq_true rfl, Nat.le_of_ble_eq_true rfl⟩ rfl hl.1 rfl (Nat.le_of_ble_eq_true rfl) dX7_day_15 (fun H locs hP hS => ?_)
    refine lv_if_eq (tgt := 54) hx hb dX7_day_18 (by decide) (fun c6 => ?_) (fun c6 => ?_)
    · have hf := kif_t c6 hf
      refine lv_bipush (v := (-2 : Int32)) hx hb dX7_day_54 (by decide) ?_
      obtain ⟨rfl, rfl, rfl⟩ := kinj3 hf
      exact kret_i C0 hr hlk hP hS dX7_day_56
    · have hf := kif_f c6 hf
      refine lv_iload hx hb dX7_day_21 (lv_at hl 4 rfl) ?_
      refine lv_iconst (v := (0 : Int32)) hx hb dX7_day_23 (by decide) ?_
      refine lv_bipush (v := (20 : Int32)) hx hb dX7_day_24 (by decide) ?_
      obtain ⟨r8, e7, hf⟩ := kb1_s hf
      refine kcallT (As := [.int p4, .int (0 : Int32), .int (20 : Int32)]) (rest := []) C0 (cX7_within_c hap e7) q_701 kw_X7_within hP hS ⟨Nat.le_of_ble_eq_true rfl, Nat.le_of_ble_eq_true rfl⟩ rfl hl.1 rfl (Nat.le_of_ble_eq_true rfl) dX7_day_26 (fun H locs hP hS => ?_)
      refine lv_if_eq (tgt := 54) hx hb dX7_day_29 (by decide) (fun c9 => ?_) (fun c9 => ?_)
      · have hf := kif_t c9 hf
        refine lv_bipush (v := (-2 : Int32)) hx hb dX7_day_54 (by decide) ?_
        obtain ⟨rfl, rfl, rfl⟩ := kinj3 hf
        exact kret_i C0 hr hlk hP hS dX7_day_56
      · have hf := kif_f c9 hf
        refine lv_iload hx hb dX7_day_32 (lv_at hl 5 rfl) ?_
        refine lv_iconst (v := (0 : Int32)) hx hb dX7_day_34 (by decide) ?_
        refine lv_iconst (v := (4 : Int32)) hx hb dX7_day_35 (by decide) ?_
        obtain ⟨r11, e10, hf⟩ := kb1_s hf
        refine kcallT (As := [.int p5, .int (0 : Int32), .int (4 : Int32)]) (rest := []) C0 (cX7_within_c hap e10) q_701 kw_X7_within hP hS ⟨Nat.le_of_ble_eq_true rfl, Nat.le_of_ble_eq_true rfl⟩ rfl hl.1 rfl (Nat.le_of_ble_eq_true rfl) dX7_day_36 (fun H locs hP hS => ?_)
        refine lv_if_ne (tgt := 57) hx hb dX7_day_39 (by decide) (fun c12 => ?_) (fun c12 => ?_)
        · have hf := kif_f c12 hf
          exact hB57 _ _ _ _ _ hf hP hS (lv_sub hl [0, 1, 2, 3, 4, 5] rfl)
        · have hf := kif_t c12 hf
          refine lv_iload hx hb dX7_day_42 (lv_at hl 5 rfl) ?_
          refine lv_bipush (v := (10 : Int32)) hx hb dX7_day_44 (by decide) ?_
          refine lv_bipush (v := (16 : Int32)) hx hb dX7_day_46 (by decide) ?_
          obtain ⟨r42, e41, hf⟩ := kb1_s hf
          refine kcallT (As := [.int p5, .int (10 : Int32), .int (16 : Int32)]) (rest := []) C0 (cX7_within_c hap e41) q_701 kw_X7_within hP hS ⟨Nat.le_of_ble_eq_true rfl, Nat.le_of_ble_eq_true rfl⟩ rfl hl.1 rfl (Nat.le_of_ble_eq_true rfl) dX7_day_48 (fun H locs hP hS => ?_)
          refine lv_if_ne (tgt := 57) hx hb dX7_day_51 (by decide) (fun c43 => ?_) (fun c43 => ?_)
          · have hf := kif_f c43 hf
            exact hB57 _ _ _ _ _ hf hP hS (lv_sub hl [0, 1, 2, 3, 4, 5] rfl)
          · have hf := kif_t c43 hf
            refine lv_bipush (v := (-2 : Int32)) hx hb dX7_day_54 (by decide) ?_
            obtain ⟨rfl, rfl, rfl⟩ := kinj3 hf
            exact kret_i C0 hr hlk hP hS dX7_day_56
  · have hf := kif_t c3 hf
    refine lv_iconst (v := (-1 : Int32)) hx hb dX7_day_12 (by decide) ?_
    obtain ⟨rfl, rfl, rfl⟩ := kinj3 hf
    exact kret_i C0 hr hlk hP hS dX7_day_13
set_option maxHeartbeats 4000000 in
set_option maxRecDepth 100000 in
theorem cX7_least_c {l : Launch} {D : va_G} {cI cS : ClassId} {a : Nat → Nat} (hap : kAp a 15) {v : kV} {ar : kR} {p1 : Int32} {r : Int32} (hf : fX7_least v ar p1 = some r) : kMet l D cI cS (mW cI a) (kA a 15) yX7_least cX7_least 5 (some .int) 4 88 [.ref (a 0), .int p1] v ar (some (.int r)) v ar := by
  refine kstart (by decide) (Nat.le_of_ble_eq_true rfl) ?_
  intro p e s m args below meth c ls C0 hr hlk hl hP hS
  have C0 : kC p s m c args cX7_least 5 RX7 D cI cS := C0
  have hx := C0.1.1
  have hb := C0.1.2.1
  have hl : lv_has ls 5 [(0, .ref (a 0)), (1, .int p1)] := hl
  have hB107 : ∀ (rec27 : Int32 → Int32 → Option Int32) (hrec27 : ∀ (x2 : Int32) (x3 : Int32) (H : Heap) (locs : List Loc) (ls : Array Slot), rec27 x2 x3 = some r → va_P D vwCl (mW cI a v ar) H → va_S (kA a 15) s.heap H locs → lv_has ls 5 [(0, .ref (a 0)), (1, .int p1), (2, .int x2), (3, .int x3)] → kGo p l e 4 88 s m args below meth c D (mW cI a) (kA a 15) (some (.int r)) v ar H locs (F0 m 27 ls [])) , ∀ (x3 : Int32) (s0 : Int32) (H : Heap) (locs : List Loc) (ls : Array Slot), fX7_least_107 v ar p1 rec27 x3 s0 = some r → va_P D vwCl (mW cI a v ar) H → va_S (kA a 15) s.heap H locs → lv_has ls 5 [(0, .ref (a 0)), (1, .int p1), (3, .int x3)] → kGo p l e 4 88 s m args below meth c D (mW cI a) (kA a 15) (some (.int r)) v ar H locs (F0 m 107 ls [.int s0]) := by
    intro rec27 hrec27 x3 s0 H locs ls hf hP hS hl
    unfold fX7_least_107 at hf
    refine lv_istore_n (lv' := [(2, .int s0), (0, .ref (a 0)), (1, .int p1), (3, .int x3)]) hx hb dX7_least_107 rfl hl (by decide) rfl (fun ls hl => ?_)
    refine lv_iinc (v := (x3 + (1 : Int32))) (lv' := [(3, .int (x3 + (1 : Int32))), (2, .int s0), (0, .ref (a 0)), (1, .int p1)]) hx hb dX7_least_108 hl (k := 3) rfl rfl (by decide) rfl (fun ls hl => ?_)
    refine lv_goto (tgt := 27) hx hb dX7_least_111 (by decide) ?_
    exact hrec27 _ _ _ _ _ hf hP hS (lv_sub hl [2, 3, 1, 0] rfl)
  have hB106 : ∀ (rec27 : Int32 → Int32 → Option Int32) (hrec27 : ∀ (x2 : Int32) (x3 : Int32) (H : Heap) (locs : List Loc) (ls : Array Slot), rec27 x2 x3 = some r → va_P D vwCl (mW cI a v ar) H → va_S (kA a 15) s.heap H locs → lv_has ls 5 [(0, .ref (a 0)), (1, .int p1), (2, .int x2), (3, .int x3)] → kGo p l e 4 88 s m args below meth c D (mW cI a) (kA a 15) (some (.int r)) v ar H locs (F0 m 27 ls [])) , ∀ (x2 : Int32) (x3 : Int32) (H : Heap) (locs : List Loc) (ls : Array Slot), fX7_least_106 v ar p1 rec27 x2 x3 = some r → va_P D vwCl (mW cI a v ar) H → va_S (kA a 15) s.heap H locs → lv_has ls 5 [(0, .ref (a 0)), (1, .int p1), (2, .int x2), (3, .int x3)] → kGo p l e 4 88 s m args below meth c D (mW cI a) (kA a 15) (some (.int r)) v ar H locs (F0 m 106 ls []) := by
    intro rec27 hrec27 x2 x3 H locs ls hf hP hS hl
    unfold fX7_least_106 at hf
    refine lv_iload_n hx hb dX7_least_106 rfl (lv_at hl 2 rfl) ?_
    exact hB107 _ hrec27 _ _ _ _ _ hf hP hS (lv_sub hl [0, 1, 3] rfl)
  have hB102 : ∀ (rec27 : Int32 → Int32 → Option Int32) (hrec27 : ∀ (x2 : Int32) (x3 : Int32) (H : Heap) (locs : List Loc) (ls : Array Slot), rec27 x2 x3 = some r → va_P D vwCl (mW cI a v ar) H → va_S (kA a 15) s.heap H locs → lv_has ls 5 [(0, .ref (a 0)), (1, .int p1), (2, .int x2), (3, .int x3)] → kGo p l e 4 88 s m args below meth c D (mW cI a) (kA a 15) (some (.int r)) v ar H locs (F0 m 27 ls [])) , ∀ (x3 : Int32) (H : Heap) (locs : List Loc) (ls : Array Slot), fX7_least_102 v ar p1 rec27 x3 = some r → va_P D vwCl (mW cI a v ar) H → va_S (kA a 15) s.heap H locs → lv_has ls 5 [(0, .ref (a 0)), (1, .int p1), (3, .int x3)] → kGo p l e 4 88 s m args below meth c D (mW cI a) (kA a 15) (some (.int r)) v ar H locs (F0 m 102 ls []) := by
    intro rec27 hrec27 x3 H locs ls hf hP hS hl
    unfold fX7_least_102 at hf
    refine lv_iload_n hx hb dX7_least_102 rfl (lv_at hl 2 rfl) ?_
    refine lv_goto (tgt := 107) hx hb dX7_least_103 (by decide) ?_
    exact hB107 _ hrec27 _ _ _ _ _ hf hP hS (lv_sub hl [0, 1, 2] rfl)
  have hB76 : ∀ (rec27 : Int32 → Int32 → Option Int32) (hrec27 : ∀ (x2 : Int32) (x3 : Int32) (H : Heap) (locs : List Loc) (ls : Array Slot), rec27 x2 x3 = some r → va_P D vwCl (mW cI a v ar) H → va_S (kA a 15) s.heap H locs → lv_has ls 5 [(0, .ref (a 0)), (1, .int p1), (2, .int x2), (3, .int x3)] → kGo p l e 4 88 s m args below meth c D (mW cI a) (kA a 15) (some (.int r)) v ar H locs (F0 m 27 ls [])) , ∀ (x2 : Int32) (x3 : Int32) (s0 : Int32) (H : Heap) (locs : List Loc) (ls : Array Slot), fX7_least_76 v ar p1 rec27 x2 x3 s0 = some r → va_P D vwCl (mW cI a v ar) H → va_S (kA a 15) s.heap H locs → lv_has ls 5 [(0, .ref (a 0)), (1, .int p1), (2, .int x2), (3, .int x3)] → kGo p l e 4 88 s m args below meth c D (mW cI a) (kA a 15) (some (.int r)) v ar H locs (F0 m 76 ls [.int s0]) := by
    intro rec27 hrec27 x2 x3 s0 H locs ls hf hP hS hl
    unfold fX7_least_76 at hf
    refine lv_istore (lv' := [(4, .int s0), (0, .ref (a 0)), (1, .int p1), (2, .int x2), (3, .int x3)]) hx hb dX7_least_76 hl (by decide) rfl (fun ls hl => ?_)
    refine lv_iload hx hb dX7_least_78 (lv_at hl 0 rfl) ?_
    refine lv_if_eq (tgt := 106) hx hb dX7_least_80 (by decide) (fun c13 => ?_) (fun c13 => ?_)
    · have hf := kif_t c13 hf
      exact hB106 _ hrec27 _ _ _ _ _ hf hP hS (lv_sub hl [1, 2, 3, 4] rfl)
    · have hf := kif_f c13 hf
      refine lv_iload_n hx hb dX7_least_83 rfl (lv_at hl 3 rfl) ?_
      refine lv_bipush (v := (-9 : Int32)) hx hb dX7_least_84 (by decide) ?_
      refine lv_icmp_eq (tgt := 102) hx hb dX7_least_86 (by decide) (fun c14 => ?_) (fun c14 => ?_)
      · have hf := kif_t c14 hf
        exact hB102 _ hrec27 _ _ _ _ hf hP hS (lv_sub hl [1, 2, 4] rfl)
      · have hf := kif_f c14 hf
        refine lv_aload_n hx hb dX7_least_89 rfl (lv_at hl 1 rfl) ?_
        refine lv_iload_n hx hb dX7_least_90 rfl (lv_at hl 4 rfl) ?_
        obtain ⟨r16, e15, hf⟩ := kb1_s hf
        refine kcallV (As := [.int x3]) (rest := []) C0 (cX7_cutsBy_c hap e15) q_757 kw_X7_cutsBy (xv_M C0.2 hP) hP hS ⟨Nat.le_of_ble_eq_true rfl, Nat.le_of_ble_eq_true rfl⟩ rfl hl.1 rfl (Nat.le_of_ble_eq_true rfl) dX7_least_91 (fun H locs hP hS => ?_)
        refine lv_aload_n hx hb dX7_least_94 rfl (lv_at hl 1 rfl) ?_
        refine lv_iload_n hx hb dX7_least_95 rfl (lv_at hl 3 rfl) ?_
        obtain ⟨r18, e17, hf⟩ := kb1_s hf
        refine kcallV (As := [.int x2]) (rest := [.int r16]) C0 (cX7_cutsBy_c hap e17) q_757 kw_X7_cutsBy (xv_M C0.2 hP) hP hS ⟨Nat.le_of_ble_eq_true rfl, Nat.le_of_ble_eq_true rfl⟩ rfl hl.1 rfl (Nat.le_of_ble_eq_true rfl) dX7_least_96 (fun H locs hP hS => ?_)
        refine lv_icmp_ge (tgt := 106) hx hb dX7_least_99 (by decide) (fun c19 => ?_) (fun c19 => ?_)
        · have hf := kif_t c19 hf
          exact hB106 _ hrec27 _ _ _ _ _ hf hP hS (lv_sub hl [1, 2, 3, 4] rfl)
        · have hf := kif_f c19 hf
          exact hB102 _ hrec27 _ _ _ _ hf hP hS (lv_sub hl [1, 2, 4] rfl)
  have hB75 : ∀ (rec27 : Int32 → Int32 → Option Int32) (hrec27 : ∀ (x2 : Int32) (x3 : Int32) (H : Heap) (locs : List Loc) (ls : Array Slot), rec27 x2 x3 = some r → va_P D vwCl (mW cI a v ar) H → va_S (kA a 15) s.heap H locs → lv_has ls 5 [(0, .ref (a 0)), (1, .int p1), (2, .int x2), (3, .int x3)] → kGo p l e 4 88 s m args below meth c D (mW cI a) (kA a 15) (some (.int r)) v ar H locs (F0 m 27 ls [])) , ∀ (x2 : Int32) (x3 : Int32) (H : Heap) (locs : List Loc) (ls : Array Slot), fX7_least_75 v ar p1 rec27 x2 x3 = some r → va_P D vwCl (mW cI a v ar) H → va_S (kA a 15) s.heap H locs → lv_has ls 5 [(0, .ref (a 0)), (1, .int p1), (2, .int x2), (3, .int x3)] → kGo p l e 4 88 s m args below meth c D (mW cI a) (kA a 15) (some (.int r)) v ar H locs (F0 m 75 ls []) := by
    intro rec27 hrec27 x2 x3 H locs ls hf hP hS hl
    unfold fX7_least_75 at hf
    refine lv_iconst (v := (0 : Int32)) hx hb dX7_least_75 (by decide) ?_
    exact hB76 _ hrec27 _ _ _ _ _ _ hf hP hS (lv_sub hl [0, 1, 2, 3] rfl)
  have hB27 : ∀ (n : Nat), ∀ (x2 : Int32) (x3 : Int32) (H : Heap) (locs : List Loc) (ls : Array Slot), fX7_least_27 v ar p1 n x2 x3 = some r → va_P D vwCl (mW cI a v ar) H → va_S (kA a 15) s.heap H locs → lv_has ls 5 [(0, .ref (a 0)), (1, .int p1), (2, .int x2), (3, .int x3)] → kGo p l e 4 88 s m args below meth c D (mW cI a) (kA a 15) (some (.int r)) v ar H locs (F0 m 27 ls []) := by
    intro  n
    induction n with
    | zero =>
      intro x2 x3 H locs ls hf
      have hf : (none : Option Int32) = some r := hf
      cases hf
    | succ n ih =>
      intro x2 x3 H locs ls hf hP hS hl
      have hf : fX7_least_27b v ar p1 (fX7_least_27 v ar p1 n) x2 x3 = some r := hf
      unfold fX7_least_27b at hf
      refine lv_iload_n hx hb dX7_least_27 rfl (lv_at hl 3 rfl) ?_
      refine lv_aload_n hx hb dX7_least_28 rfl (lv_at hl 0 rfl) ?_
      obtain ⟨r6, e5, hf⟩ := kb1_s hf
      refine kcallV (As := []) (rest := [.int x3]) C0 (cX7_all_c hap e5) q_765 kw_X7_all (xv_M C0.2 hP) hP hS ⟨Nat.le_of_ble_eq_true rfl, Nat.le_of_ble_eq_true rfl⟩ rfl hl.1 rfl (Nat.le_of_ble_eq_true rfl) dX7_least_29 (fun H locs hP hS => ?_)
      refine lv_icmp_gt (tgt := 114) hx hb dX7_least_32 (by decide) (fun c7 => ?_) (fun c7 => ?_)
      · have hf := kif_t c7 hf
        refine lv_iload_n hx hb dX7_least_114 rfl (lv_at hl 2 rfl) ?_
        refine lv_bipush (v := (-9 : Int32)) hx hb dX7_least_115 (by decide) ?_
        refine lv_icmp_ne (tgt := 125) hx hb dX7_least_117 (by decide) (fun c8 => ?_) (fun c8 => ?_)
        · have hf := kif_f c8 hf
          refine lv_iload_n hx hb dX7_least_125 rfl (lv_at hl 1 rfl) ?_
          refine lv_if_ne (tgt := 137) hx hb dX7_least_126 (by decide) (fun c9 => ?_) (fun c9 => ?_)
          · have hf := kif_f c9 hf
            refine lv_iload_n hx hb dX7_least_137 rfl (lv_at hl 2 rfl) ?_
            obtain rfl := Option.some.inj hf
            exact kret_i C0 hr hlk hP hS dX7_least_138
          · have hf := kif_t c9 hf
            refine lv_aload_n hx hb dX7_least_129 rfl (lv_at hl 0 rfl) ?_
            refine lv_iload_n hx hb dX7_least_130 rfl (lv_at hl 2 rfl) ?_
            obtain ⟨r11, e10, hf⟩ := kb1_s hf
            refine kcallV (As := [.int x2]) (rest := []) C0 (cX7_cutsBy_c hap e10) q_757 kw_X7_cutsBy (xv_M C0.2 hP) hP hS ⟨Nat.le_of_ble_eq_true rfl, Nat.le_of_ble_eq_true rfl⟩ rfl hl.1 rfl (Nat.le_of_ble_eq_true rfl) dX7_least_131 (fun H locs hP hS => ?_)
            refine lv_goto (tgt := 138) hx hb dX7_least_134 (by decide) ?_
            obtain rfl := Option.some.inj hf
            exact kret_i C0 hr hlk hP hS dX7_least_138
        · have hf := kif_t c8 hf
          refine lv_bipush (v := (-9 : Int32)) hx hb dX7_least_120 (by decide) ?_
          refine lv_goto (tgt := 138) hx hb dX7_least_122 (by decide) ?_
          obtain rfl := Option.some.inj hf
          exact kret_i C0 hr hlk hP hS dX7_least_138
      · have hf := kif_f c7 hf
        refine lv_iload_n hx hb dX7_least_35 rfl (lv_at hl 3 rfl) ?_
        refine lv_aload_n hx hb dX7_least_36 rfl (lv_at hl 0 rfl) ?_
        refine xg_M_8 C0 hP q_605 dX7_least_37 ?_
        refine lv_iand hx hb dX7_least_40 ?_
        refine lv_aload_n hx hb dX7_least_41 rfl (lv_at hl 0 rfl) ?_
        refine xg_M_7 C0 hP q_604 dX7_least_42 ?_
        refine lv_aload_n hx hb dX7_least_45 rfl (lv_at hl 0 rfl) ?_
        refine xg_M_8 C0 hP q_605 dX7_least_46 ?_
        refine lv_iand hx hb dX7_least_49 ?_
        refine lv_icmp_ne (tgt := 75) hx hb dX7_least_50 (by decide) (fun c12 => ?_) (fun c12 => ?_)
        · have hf := kif_f c12 hf
          exact hB75 _ ih _ _ _ _ _ hf hP hS (lv_sub hl [0, 1, 2, 3] rfl)
        · have hf := kif_t c12 hf
          refine lv_aload_n hx hb dX7_least_53 rfl (lv_at hl 0 rfl) ?_
          refine lv_iconst (v := (0 : Int32)) hx hb dX7_least_54 (by decide) ?_
          refine lv_iload_n hx hb dX7_least_55 rfl (lv_at hl 3 rfl) ?_
          obtain ⟨r21, e20, hf⟩ := kb1_s hf
          refine kcallV (As := [.int (0 : Int32), .int x3]) (rest := []) C0 (cX7_isWithin_c hap e20) q_790 kw_X7_isWithin (xv_M C0.2 hP) hP hS ⟨Nat.le_of_ble_eq_true rfl, Nat.le_of_ble_eq_true rfl⟩ rfl hl.1 rfl (Nat.le_of_ble_eq_true rfl) dX7_least_56 (fun H locs hP hS => ?_)
          refine lv_if_eq (tgt := 75) hx hb dX7_least_59 (by decide) (fun c22 => ?_) (fun c22 => ?_)
          · have hf := kif_t c22 hf
            exact hB75 _ ih _ _ _ _ _ hf hP hS (lv_sub hl [0, 1, 2, 3] rfl)
          · have hf := kif_f c22 hf
            refine lv_aload_n hx hb dX7_least_62 rfl (lv_at hl 0 rfl) ?_
            refine lv_iconst (v := (1 : Int32)) hx hb dX7_least_63 (by decide) ?_
            refine lv_iload_n hx hb dX7_least_64 rfl (lv_at hl 3 rfl) ?_
            obtain ⟨r24, e23, hf⟩ := kb1_s hf
            refine kcallV (As := [.int (1 : Int32), .int x3]) (rest := []) C0 (cX7_isWithin_c hap e23) q_790 kw_X7_isWithin (xv_M C0.2 hP) hP hS ⟨Nat.le_of_ble_eq_true rfl, Nat.le_of_ble_eq_true rfl⟩ rfl hl.1 rfl (Nat.le_of_ble_eq_true rfl) dX7_least_65 (fun H locs hP hS => ?_)
            refine lv_if_eq (tgt := 75) hx hb dX7_least_68 (by decide) (fun c25 => ?_) (fun c25 => ?_)
            · have hf := kif_t c25 hf
              exact hB75 _ ih _ _ _ _ _ hf hP hS (lv_sub hl [0, 1, 2, 3] rfl)
            · have hf := kif_f c25 hf
              refine lv_iconst (v := (1 : Int32)) hx hb dX7_least_71 (by decide) ?_
              refine lv_goto (tgt := 76) hx hb dX7_least_72 (by decide) ?_
              exact hB76 _ ih _ _ _ _ _ _ hf hP hS (lv_sub hl [0, 1, 2, 3] rfl)
  unfold fX7_least at hf
  refine lv_aload_n hx hb dX7_least_0 rfl (lv_at hl 0 rfl) ?_
  refine xg_M_5 C0 hP q_602 dX7_least_1 ?_
  refine lv_if_ne (tgt := 10) hx hb dX7_least_4 (by decide) (fun c1 => ?_) (fun c1 => ?_)
  · have hf := kif_f c1 hf
    refine lv_iload_n hx hb dX7_least_10 rfl (lv_at hl 1 rfl) ?_
    refine lv_iconst (v := (0 : Int32)) hx hb dX7_least_11 (by decide) ?_
    refine lv_iconst (v := (1 : Int32)) hx hb dX7_least_12 (by decide) ?_
    obtain ⟨r3, e2, hf⟩ := kb1_s hf
    refine kcallT (As := [.int p1, .int (0 : Int32), .int (1 : Int32)]) (rest := []) C0 (cX7_within_c hap e2) q_701 kw_X7_within hP hS ⟨Nat.le_of_ble_eq_true rfl, Nat.le_of_ble_eq_true rfl⟩ rfl hl.1 rfl (Nat.le_of_ble_eq_true rfl) dX7_least_13 (fun H locs hP hS => ?_)
    refine lv_if_ne (tgt := 22) hx hb dX7_least_16 (by decide) (fun c4 => ?_) (fun c4 => ?_)
    · have hf := kif_f c4 hf
      refine lv_bipush (v := (-9 : Int32)) hx hb dX7_least_22 (by decide) ?_
      refine lv_istore_n (lv' := [(2, .int (-9 : Int32)), (0, .ref (a 0)), (1, .int p1)]) hx hb dX7_least_24 rfl hl (by decide) rfl (fun ls hl => ?_)
      refine lv_iconst (v := (0 : Int32)) hx hb dX7_least_25 (by decide) ?_
      refine lv_istore_n (lv' := [(3, .int (0 : Int32)), (2, .int (-9 : Int32)), (0, .ref (a 0)), (1, .int p1)]) hx hb dX7_least_26 rfl hl (by decide) rfl (fun ls hl => ?_)
      exact hB27 _ _ _ _ _ _ hf hP hS (lv_sub hl [2, 3, 1, 0] rfl)
    · have hf := kif_t c4 hf
      refine lv_bipush (v := (-2 : Int32)) hx hb dX7_least_19 (by decide) ?_
      obtain rfl := Option.some.inj hf
      exact kret_i C0 hr hlk hP hS dX7_least_21
  · have hf := kif_t c1 hf
    refine lv_bipush (v := (-3 : Int32)) hx hb dX7_least_7 (by decide) ?_
    obtain rfl := Option.some.inj hf
    exact kret_i C0 hr hlk hP hS dX7_least_9
set_option maxHeartbeats 4000000 in
set_option maxRecDepth 100000 in
theorem cX7_apart_c {l : Launch} {D : va_G} {cI cS : ClassId} {a : Nat → Nat} (hap : kAp a 15) {v : kV} {ar : kR} {p1 : Int32} {p2 : Int32} {r : Int32} (hf : fX7_apart v ar p1 p2 = some r) : kMet l D cI cS (mW cI a) (kA a 15) yX7_apart cX7_apart 6 (some .int) 2 46 [.ref (a 0), .int p1, .int p2] v ar (some (.int r)) v ar := by
  refine kstart (by decide) (Nat.le_of_ble_eq_true rfl) ?_
  intro p e s m args below meth c ls C0 hr hlk hl hP hS
  have C0 : kC p s m c args cX7_apart 6 RX7 D cI cS := C0
  have hx := C0.1.1
  have hb := C0.1.2.1
  have hl : lv_has ls 6 [(0, .ref (a 0)), (1, .int p1), (2, .int p2)] := hl
  have hB88 : ∀ (rec29 : Int32 → Int32 → Option Int32) (hrec29 : ∀ (x3 : Int32) (x4 : Int32) (H : Heap) (locs : List Loc) (ls : Array Slot), rec29 x3 x4 = some r → va_P D vwCl (mW cI a v ar) H → va_S (kA a 15) s.heap H locs → lv_has ls 6 [(0, .ref (a 0)), (1, .int p1), (2, .int p2), (3, .int x3), (4, .int x4)] → kGo p l e 2 46 s m args below meth c D (mW cI a) (kA a 15) (some (.int r)) v ar H locs (F0 m 29 ls [])) , ∀ (x4 : Int32) (s0 : Int32) (H : Heap) (locs : List Loc) (ls : Array Slot), fX7_apart_88 v ar p1 p2 rec29 x4 s0 = some r → va_P D vwCl (mW cI a v ar) H → va_S (kA a 15) s.heap H locs → lv_has ls 6 [(0, .ref (a 0)), (1, .int p1), (2, .int p2), (4, .int x4)] → kGo p l e 2 46 s m args below meth c D (mW cI a) (kA a 15) (some (.int r)) v ar H locs (F0 m 88 ls [.int s0]) := by
    intro rec29 hrec29 x4 s0 H locs ls hf hP hS hl
    unfold fX7_apart_88 at hf
    refine lv_istore_n (lv' := [(3, .int s0), (0, .ref (a 0)), (1, .int p1), (2, .int p2), (4, .int x4)]) hx hb dX7_apart_88 rfl hl (by decide) rfl (fun ls hl => ?_)
    refine lv_iinc (v := (x4 + (1 : Int32))) (lv' := [(4, .int (x4 + (1 : Int32))), (3, .int s0), (0, .ref (a 0)), (1, .int p1), (2, .int p2)]) hx hb dX7_apart_89 hl (k := 4) rfl rfl (by decide) rfl (fun ls hl => ?_)
    refine lv_goto (tgt := 29) hx hb dX7_apart_92 (by decide) ?_
    exact hrec29 _ _ _ _ _ hf hP hS (lv_sub hl [2, 3, 4, 1, 0] rfl)
  have hB87 : ∀ (rec29 : Int32 → Int32 → Option Int32) (hrec29 : ∀ (x3 : Int32) (x4 : Int32) (H : Heap) (locs : List Loc) (ls : Array Slot), rec29 x3 x4 = some r → va_P D vwCl (mW cI a v ar) H → va_S (kA a 15) s.heap H locs → lv_has ls 6 [(0, .ref (a 0)), (1, .int p1), (2, .int p2), (3, .int x3), (4, .int x4)] → kGo p l e 2 46 s m args below meth c D (mW cI a) (kA a 15) (some (.int r)) v ar H locs (F0 m 29 ls [])) , ∀ (x3 : Int32) (x4 : Int32) (H : Heap) (locs : List Loc) (ls : Array Slot), fX7_apart_87 v ar p1 p2 rec29 x3 x4 = some r → va_P D vwCl (mW cI a v ar) H → va_S (kA a 15) s.heap H locs → lv_has ls 6 [(0, .ref (a 0)), (1, .int p1), (2, .int p2), (3, .int x3), (4, .int x4)] → kGo p l e 2 46 s m args below meth c D (mW cI a) (kA a 15) (some (.int r)) v ar H locs (F0 m 87 ls []) := by
    intro rec29 hrec29 x3 x4 H locs ls hf hP hS hl
    unfold fX7_apart_87 at hf
    refine lv_iload_n hx hb dX7_apart_87 rfl (lv_at hl 3 rfl) ?_
    exact hB88 _ hrec29 _ _ _ _ _ hf hP hS (lv_sub hl [0, 1, 2, 4] rfl)
  have hB61 : ∀ (rec29 : Int32 → Int32 → Option Int32) (hrec29 : ∀ (x3 : Int32) (x4 : Int32) (H : Heap) (locs : List Loc) (ls : Array Slot), rec29 x3 x4 = some r → va_P D vwCl (mW cI a v ar) H → va_S (kA a 15) s.heap H locs → lv_has ls 6 [(0, .ref (a 0)), (1, .int p1), (2, .int p2), (3, .int x3), (4, .int x4)] → kGo p l e 2 46 s m args below meth c D (mW cI a) (kA a 15) (some (.int r)) v ar H locs (F0 m 29 ls [])) , ∀ (x3 : Int32) (x4 : Int32) (s0 : Int32) (H : Heap) (locs : List Loc) (ls : Array Slot), fX7_apart_61 v ar p1 p2 rec29 x3 x4 s0 = some r → va_P D vwCl (mW cI a v ar) H → va_S (kA a 15) s.heap H locs → lv_has ls 6 [(0, .ref (a 0)), (1, .int p1), (2, .int p2), (3, .int x3), (4, .int x4)] → kGo p l e 2 46 s m args below meth c D (mW cI a) (kA a 15) (some (.int r)) v ar H locs (F0 m 61 ls [.int s0]) := by
    intro rec29 hrec29 x3 x4 s0 H locs ls hf hP hS hl
    unfold fX7_apart_61 at hf
    refine lv_istore (lv' := [(5, .int s0), (0, .ref (a 0)), (1, .int p1), (2, .int p2), (3, .int x3), (4, .int x4)]) hx hb dX7_apart_61 hl (by decide) rfl (fun ls hl => ?_)
    refine lv_iload hx hb dX7_apart_63 (lv_at hl 0 rfl) ?_
    refine lv_if_eq (tgt := 87) hx hb dX7_apart_65 (by decide) (fun c14 => ?_) (fun c14 => ?_)
    · have hf := kif_t c14 hf
      exact hB87 _ hrec29 _ _ _ _ _ hf hP hS (lv_sub hl [1, 2, 3, 4, 5] rfl)
    · have hf := kif_f c14 hf
      refine lv_aload_n hx hb dX7_apart_68 rfl (lv_at hl 1 rfl) ?_
      refine lv_iload hx hb dX7_apart_69 (lv_at hl 5 rfl) ?_
      obtain ⟨r16, e15, hf⟩ := kb1_s hf
      refine kcallV (As := [.int x4]) (rest := []) C0 (cX7_cutsBy_c hap e15) q_757 kw_X7_cutsBy (xv_M C0.2 hP) hP hS ⟨Nat.le_of_ble_eq_true rfl, Nat.le_of_ble_eq_true rfl⟩ rfl hl.1 rfl (Nat.le_of_ble_eq_true rfl) dX7_apart_71 (fun H locs hP hS => ?_)
      refine lv_iload_n hx hb dX7_apart_74 rfl (lv_at hl 4 rfl) ?_
      refine lv_icmp_ge (tgt := 87) hx hb dX7_apart_75 (by decide) (fun c17 => ?_) (fun c17 => ?_)
      · have hf := kif_t c17 hf
        exact hB87 _ hrec29 _ _ _ _ _ hf hP hS (lv_sub hl [1, 2, 3, 4, 5] rfl)
      · have hf := kif_f c17 hf
        refine lv_aload_n hx hb dX7_apart_78 rfl (lv_at hl 1 rfl) ?_
        refine lv_iload hx hb dX7_apart_79 (lv_at hl 5 rfl) ?_
        obtain ⟨r19, e18, hf⟩ := kb1_s hf
        refine kcallV (As := [.int x4]) (rest := []) C0 (cX7_cutsBy_c hap e18) q_757 kw_X7_cutsBy (xv_M C0.2 hP) hP hS ⟨Nat.le_of_ble_eq_true rfl, Nat.le_of_ble_eq_true rfl⟩ rfl hl.1 rfl (Nat.le_of_ble_eq_true rfl) dX7_apart_81 (fun H locs hP hS => ?_)
        refine lv_goto (tgt := 88) hx hb dX7_apart_84 (by decide) ?_
        exact hB88 _ hrec29 _ _ _ _ _ hf hP hS (lv_sub hl [1, 2, 3, 5] rfl)
  have hB60 : ∀ (rec29 : Int32 → Int32 → Option Int32) (hrec29 : ∀ (x3 : Int32) (x4 : Int32) (H : Heap) (locs : List Loc) (ls : Array Slot), rec29 x3 x4 = some r → va_P D vwCl (mW cI a v ar) H → va_S (kA a 15) s.heap H locs → lv_has ls 6 [(0, .ref (a 0)), (1, .int p1), (2, .int p2), (3, .int x3), (4, .int x4)] → kGo p l e 2 46 s m args below meth c D (mW cI a) (kA a 15) (some (.int r)) v ar H locs (F0 m 29 ls [])) , ∀ (x3 : Int32) (x4 : Int32) (H : Heap) (locs : List Loc) (ls : Array Slot), fX7_apart_60 v ar p1 p2 rec29 x3 x4 = some r → va_P D vwCl (mW cI a v ar) H → va_S (kA a 15) s.heap H locs → lv_has ls 6 [(0, .ref (a 0)), (1, .int p1), (2, .int p2), (3, .int x3), (4, .int x4)] → kGo p l e 2 46 s m args below meth c D (mW cI a) (kA a 15) (some (.int r)) v ar H locs (F0 m 60 ls []) := by
    intro rec29 hrec29 x3 x4 H locs ls hf hP hS hl
    unfold fX7_apart_60 at hf
    refine lv_iconst (v := (0 : Int32)) hx hb dX7_apart_60 (by decide) ?_
    exact hB61 _ hrec29 _ _ _ _ _ _ hf hP hS (lv_sub hl [0, 1, 2, 3, 4] rfl)
  have hB29 : ∀ (n : Nat), ∀ (x3 : Int32) (x4 : Int32) (H : Heap) (locs : List Loc) (ls : Array Slot), fX7_apart_29 v ar p1 p2 n x3 x4 = some r → va_P D vwCl (mW cI a v ar) H → va_S (kA a 15) s.heap H locs → lv_has ls 6 [(0, .ref (a 0)), (1, .int p1), (2, .int p2), (3, .int x3), (4, .int x4)] → kGo p l e 2 46 s m args below meth c D (mW cI a) (kA a 15) (some (.int r)) v ar H locs (F0 m 29 ls []) := by
    intro  n
    induction n with
    | zero =>
      intro x3 x4 H locs ls hf
      have hf : (none : Option Int32) = some r := hf
      cases hf
    | succ n ih =>
      intro x3 x4 H locs ls hf hP hS hl
      have hf : fX7_apart_29b v ar p1 p2 (fX7_apart_29 v ar p1 p2 n) x3 x4 = some r := hf
      unfold fX7_apart_29b at hf
      refine lv_iload hx hb dX7_apart_29 (lv_at hl 4 rfl) ?_
      refine lv_aload_n hx hb dX7_apart_31 rfl (lv_at hl 0 rfl) ?_
      obtain ⟨r9, e8, hf⟩ := kb1_s hf
      refine kcallV (As := []) (rest := [.int x4]) C0 (cX7_all_c hap e8) q_765 kw_X7_all (xv_M C0.2 hP) hP hS ⟨Nat.le_of_ble_eq_true rfl, Nat.le_of_ble_eq_true rfl⟩ rfl hl.1 rfl (Nat.le_of_ble_eq_true rfl) dX7_apart_32 (fun H locs hP hS => ?_)
      refine lv_icmp_gt (tgt := 95) hx hb dX7_apart_35 (by decide) (fun c10 => ?_) (fun c10 => ?_)
      · have hf := kif_t c10 hf
        refine lv_iload_n hx hb dX7_apart_95 rfl (lv_at hl 3 rfl) ?_
        obtain rfl := Option.some.inj hf
        exact kret_i C0 hr hlk hP hS dX7_apart_96
      · have hf := kif_f c10 hf
        refine lv_iload hx hb dX7_apart_38 (lv_at hl 4 rfl) ?_
        refine lv_iload_n hx hb dX7_apart_40 rfl (lv_at hl 1 rfl) ?_
        obtain ⟨r12, e11, hf⟩ := kb1_s hf
        refine kcallT (As := [.int x4, .int p1]) (rest := []) C0 (cX7_isOf_c hap e11) q_734 kw_X7_isOf hP hS ⟨Nat.le_of_ble_eq_true rfl, Nat.le_of_ble_eq_true rfl⟩ rfl hl.1 rfl (Nat.le_of_ble_eq_true rfl) dX7_apart_41 (fun H locs hP hS => ?_)
        refine lv_if_ne (tgt := 60) hx hb dX7_apart_44 (by decide) (fun c13 => ?_) (fun c13 => ?_)
        · have hf := kif_f c13 hf
          exact hB60 _ ih _ _ _ _ _ hf hP hS (lv_sub hl [0, 1, 2, 3, 4] rfl)
        · have hf := kif_t c13 hf
          refine lv_iload hx hb dX7_apart_47 (lv_at hl 4 rfl) ?_
          refine lv_iload_n hx hb dX7_apart_49 rfl (lv_at hl 2 rfl) ?_
          obtain ⟨r21, e20, hf⟩ := kb1_s hf
          refine kcallT (As := [.int x4, .int p2]) (rest := []) C0 (cX7_isOf_c hap e20) q_734 kw_X7_isOf hP hS ⟨Nat.le_of_ble_eq_true rfl, Nat.le_of_ble_eq_true rfl⟩ rfl hl.1 rfl (Nat.le_of_ble_eq_true rfl) dX7_apart_50 (fun H locs hP hS => ?_)
          refine lv_if_eq (tgt := 60) hx hb dX7_apart_53 (by decide) (fun c22 => ?_) (fun c22 => ?_)
          · have hf := kif_t c22 hf
            exact hB60 _ ih _ _ _ _ _ hf hP hS (lv_sub hl [0, 1, 2, 3, 4] rfl)
          · have hf := kif_f c22 hf
            refine lv_iconst (v := (1 : Int32)) hx hb dX7_apart_56 (by decide) ?_
            refine lv_goto (tgt := 61) hx hb dX7_apart_57 (by decide) ?_
            exact hB61 _ ih _ _ _ _ _ _ hf hP hS (lv_sub hl [0, 1, 2, 3, 4] rfl)
  unfold fX7_apart at hf
  refine lv_aload_n hx hb dX7_apart_0 rfl (lv_at hl 0 rfl) ?_
  refine lv_iload_n hx hb dX7_apart_1 rfl (lv_at hl 1 rfl) ?_
  obtain ⟨r2, e1, hf⟩ := kb1_s hf
  refine kcallV (As := [.int p1]) (rest := []) C0 (cX7_isCell_c hap e1) q_741 kw_X7_isCell (xv_M C0.2 hP) hP hS ⟨Nat.le_of_ble_eq_true rfl, Nat.le_of_ble_eq_true rfl⟩ rfl hl.1 rfl (Nat.le_of_ble_eq_true rfl) dX7_apart_2 (fun H locs hP hS => ?_)
  refine lv_if_eq (tgt := 21) hx hb dX7_apart_5 (by decide) (fun c3 => ?_) (fun c3 => ?_)
  · have hf := kif_t c3 hf
    refine lv_iconst (v := (-1 : Int32)) hx hb dX7_apart_21 (by decide) ?_
    obtain rfl := Option.some.inj hf
    exact kret_i C0 hr hlk hP hS dX7_apart_22
  · have hf := kif_f c3 hf
    refine lv_aload_n hx hb dX7_apart_8 rfl (lv_at hl 0 rfl) ?_
    refine lv_iload_n hx hb dX7_apart_9 rfl (lv_at hl 2 rfl) ?_
    obtain ⟨r5, e4, hf⟩ := kb1_s hf
    refine kcallV (As := [.int p2]) (rest := []) C0 (cX7_isCell_c hap e4) q_741 kw_X7_isCell (xv_M C0.2 hP) hP hS ⟨Nat.le_of_ble_eq_true rfl, Nat.le_of_ble_eq_true rfl⟩ rfl hl.1 rfl (Nat.le_of_ble_eq_true rfl) dX7_apart_10 (fun H locs hP hS => ?_)
    refine lv_if_eq (tgt := 21) hx hb dX7_apart_13 (by decide) (fun c6 => ?_) (fun c6 => ?_)
    · have hf := kif_t c6 hf
      refine lv_iconst (v := (-1 : Int32)) hx hb dX7_apart_21 (by decide) ?_
      obtain rfl := Option.some.inj hf
      exact kret_i C0 hr hlk hP hS dX7_apart_22
    · have hf := kif_f c6 hf
      refine lv_iload_n hx hb dX7_apart_16 rfl (lv_at hl 1 rfl) ?_
      refine lv_iload_n hx hb dX7_apart_17 rfl (lv_at hl 2 rfl) ?_
      refine lv_icmp_ne (tgt := 23) hx hb dX7_apart_18 (by decide) (fun c7 => ?_) (fun c7 => ?_)
      · have hf := kif_f c7 hf
        refine lv_bipush (v := (6 : Int32)) hx hb dX7_apart_23 (by decide) ?_
        refine lv_istore_n (lv' := [(3, .int (6 : Int32)), (0, .ref (a 0)), (1, .int p1), (2, .int p2)]) hx hb dX7_apart_25 rfl hl (by decide) rfl (fun ls hl => ?_)
        refine lv_iconst (v := (0 : Int32)) hx hb dX7_apart_26 (by decide) ?_
        refine lv_istore (lv' := [(4, .int (0 : Int32)), (3, .int (6 : Int32)), (0, .ref (a 0)), (1, .int p1), (2, .int p2)]) hx hb dX7_apart_27 hl (by decide) rfl (fun ls hl => ?_)
        exact hB29 _ _ _ _ _ _ hf hP hS (lv_sub hl [2, 3, 4, 1, 0] rfl)
      · have hf := kif_t c7 hf
        refine lv_iconst (v := (-1 : Int32)) hx hb dX7_apart_21 (by decide) ?_
        obtain rfl := Option.some.inj hf
        exact kret_i C0 hr hlk hP hS dX7_apart_22
