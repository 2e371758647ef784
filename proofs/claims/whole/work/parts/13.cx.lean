set_option maxHeartbeats 4000000 in
set_option maxRecDepth 100000 in
theorem cX5_isRead_c {l : Launch} {D : va_G} {cI cS : ClassId} {a : Nat → Nat} (hap : kAp a 29) {q : Nat} (hq : q < 4) {h : Nat} (hh : h < 2) {v : kV} {ar : kR} {p2 : Int32} {p3 : Int32} {r : Bool} {v2 : kV} {ar2 : kR} (hf : fX5_isRead q h v ar p2 p3 = some (r, v2, ar2)) : kMet l D cI cS (xW cI cS a) (kA a 29) yX5_isRead cX5_isRead 6 (some .boolean) 3 69 [.ref (a 4), .ref (a (8+q)), .int p2, .int p3, .ref (a (2+h))] v ar (some (.int (bI r))) v2 ar2 := by
  refine kstart (by decide) (Nat.le_of_ble_eq_true rfl) ?_
  intro p e s m args below meth c ls C0 hr hlk hl hP hS
  have C0 : kC p s m c args cX5_isRead 6 RX5 D cI cS := C0
  have hx := C0.1.1
  have hb := C0.1.2.1
  have hl : lv_has ls 6 [(0, .ref (a 4)), (1, .ref (a (8+q))), (2, .int p2), (3, .int p3), (4, .ref (a (2+h)))] := hl
  have hB130 : ∀ (v : kV) (ar : kR) (H : Heap) (locs : List Loc) (ls : Array Slot), fX5_isRead_130 q h p2 p3 v ar = some (r, v2, ar2) → va_P D vwCl (xW cI cS a v ar) H → va_S (kA a 29) s.heap H locs → lv_has ls 6 [(0, .ref (a 4))] → kGo p l e 3 69 s m args below meth c D (xW cI cS a) (kA a 29) (some (.int (bI r))) v2 ar2 H locs (F0 m 130 ls []) := by
    intro  v ar H locs ls hf hP hS hl
    unfold fX5_isRead_130 at hf
    refine lv_aload_n hx hb dX5_isRead_130 rfl (lv_at hl 0 rfl) ?_
    refine xg_T_2 C0 hP q_83 dX5_isRead_131 ?_
    refine lv_aload_n hx hb dX5_isRead_134 rfl (lv_at hl 0 rfl) ?_
    refine xg_T_1 C0 hP q_82 dX5_isRead_135 ?_
    refine lv_icmp_ne (tgt := 145) hx hb dX5_isRead_138 (by decide) (fun c23 => ?_) (fun c23 => ?_)
    · have hf := kif_f c23 hf
      refine lv_iconst (v := (0 : Int32)) hx hb dX5_isRead_145 (by decide) ?_
      obtain ⟨rfl, rfl, rfl⟩ := kinj3 hf
      exact kret_z false rfl C0 hr hlk hP hS dX5_isRead_146
    · have hf := kif_t c23 hf
      refine lv_iconst (v := (1 : Int32)) hx hb dX5_isRead_141 (by decide) ?_
      refine lv_goto (tgt := 146) hx hb dX5_isRead_142 (by decide) ?_
      obtain ⟨rfl, rfl, rfl⟩ := kinj3 hf
      exact kret_z true rfl C0 hr hlk hP hS dX5_isRead_146
  have hB97 : ∀ (n : Nat), ∀ (x5 : Int32) (v : kV) (ar : kR) (H : Heap) (locs : List Loc) (ls : Array Slot), fX5_isRead_97 q h p2 p3 n x5 v ar = some (r, v2, ar2) → va_P D vwCl (xW cI cS a v ar) H → va_S (kA a 29) s.heap H locs → lv_has ls 6 [(0, .ref (a 4)), (4, .ref (a (2+h))), (5, .int x5)] → kGo p l e 3 69 s m args below meth c D (xW cI cS a) (kA a 29) (some (.int (bI r))) v2 ar2 H locs (F0 m 97 ls []) := by
    intro  n
    induction n with
    | zero =>
      intro x5 v ar H locs ls hf
      have hf : (none : Option (Bool × kV × kR)) = some (r, v2, ar2) := hf
      cases hf
    | succ n ih =>
      intro x5 v ar H locs ls hf hP hS hl
      have hf : fX5_isRead_97b q h p2 p3 (fX5_isRead_97 q h p2 p3 n) x5 v ar = some (r, v2, ar2) := hf
      unfold fX5_isRead_97b at hf
      refine lv_iload hx hb dX5_isRead_97 (lv_at hl 2 rfl) ?_
      refine lv_bipush (v := (6 : Int32)) hx hb dX5_isRead_99 (by decide) ?_
      refine lv_icmp_ge (tgt := 130) hx hb dX5_isRead_101 (by decide) (fun c22 => ?_) (fun c22 => ?_)
      · have hf := kif_t c22 hf
        exact hB130 _ _ _ _ _ hf hP hS (lv_sub hl [0] rfl)
      · have hf := kif_f c22 hf
        refine lv_aload_n hx hb dX5_isRead_104 rfl (lv_at hl 0 rfl) ?_
        refine lv_bipush (v := (44 : Int32)) hx hb dX5_isRead_105 (by decide) ?_
        obtain ⟨r25, v26, ar27, e24, hf⟩ := kb3_s hf
        refine kcallV (As := [.int (44 : Int32)]) (rest := []) C0 (cX5_takes_c hap e24) q_235 kw_X5_takes (xv_T C0.2 hP) hP hS ⟨Nat.le_of_ble_eq_true rfl, Nat.le_of_ble_eq_true rfl⟩ rfl hl.1 rfl (Nat.le_of_ble_eq_true rfl) dX5_isRead_107 (fun H locs hP hS => ?_)
        refine lv_if_eq (tgt := 130) hx hb dX5_isRead_110 (by decide) (fun c28 => ?_) (fun c28 => ?_)
        · have hf := kif_t c28 hf
          exact hB130 _ _ _ _ _ hf hP hS (lv_sub hl [0] rfl)
        · have hf := kif_f c28 hf
          refine lv_aload_n hx hb dX5_isRead_113 rfl (lv_at hl 0 rfl) ?_
          refine lv_aload hx hb dX5_isRead_114 (lv_at hl 1 rfl) ?_
          obtain ⟨r30, v31, ar32, e29, hf⟩ := kb3_s hf
          refine kcallV (As := [.ref (a (2+h))]) (rest := []) C0 (cX5_readsNet_c hap hh e29) q_259 kw_X5_readsNet (xv_T C0.2 hP) hP hS ⟨Nat.le_of_ble_eq_true rfl, Nat.le_of_ble_eq_true rfl⟩ rfl hl.1 rfl (Nat.le_of_ble_eq_true rfl) dX5_isRead_116 (fun H locs hP hS => ?_)
          refine lv_if_ne (tgt := 124) hx hb dX5_isRead_119 (by decide) (fun c33 => ?_) (fun c33 => ?_)
          · have hf := kif_f c33 hf
            refine lv_iinc (v := (x5 + (1 : Int32))) (lv' := [(5, .int (x5 + (1 : Int32))), (0, .ref (a 4)), (4, .ref (a (2+h)))]) hx hb dX5_isRead_124 hl (k := 2) rfl rfl (by decide) rfl (fun ls hl => ?_)
            refine lv_goto (tgt := 97) hx hb dX5_isRead_127 (by decide) ?_
            exact ih _ _ _ _ _ _ hf hP hS (lv_sub hl [1, 2, 0] rfl)
          · have hf := kif_t c33 hf
            refine lv_iconst (v := (0 : Int32)) hx hb dX5_isRead_122 (by decide) ?_
            obtain ⟨rfl, rfl, rfl⟩ := kinj3 hf
            exact kret_z false rfl C0 hr hlk hP hS dX5_isRead_123
  have hB94 : ∀ (v : kV) (ar : kR) (H : Heap) (locs : List Loc) (ls : Array Slot), fX5_isRead_94 q h p2 p3 v ar = some (r, v2, ar2) → va_P D vwCl (xW cI cS a v ar) H → va_S (kA a 29) s.heap H locs → lv_has ls 6 [(0, .ref (a 4)), (4, .ref (a (2+h)))] → kGo p l e 3 69 s m args below meth c D (xW cI cS a) (kA a 29) (some (.int (bI r))) v2 ar2 H locs (F0 m 94 ls []) := by
    intro  v ar H locs ls hf hP hS hl
    unfold fX5_isRead_94 at hf
    refine lv_iconst (v := (0 : Int32)) hx hb dX5_isRead_94 (by decide) ?_
    refine lv_istore (lv' := [(5, .int (0 : Int32)), (0, .ref (a 4)), (4, .ref (a (2+h)))]) hx hb dX5_isRead_95 hl (by decide) rfl (fun ls hl => ?_)
    exact hB97 _ _ _ _ _ _ _ hf hP hS (lv_sub hl [1, 2, 0] rfl)
  have hB61 : ∀ (n : Nat), ∀ (x5 : Int32) (v : kV) (ar : kR) (H : Heap) (locs : List Loc) (ls : Array Slot), fX5_isRead_61 q h p2 p3 n x5 v ar = some (r, v2, ar2) → va_P D vwCl (xW cI cS a v ar) H → va_S (kA a 29) s.heap H locs → lv_has ls 6 [(0, .ref (a 4)), (4, .ref (a (2+h))), (5, .int x5)] → kGo p l e 3 69 s m args below meth c D (xW cI cS a) (kA a 29) (some (.int (bI r))) v2 ar2 H locs (F0 m 61 ls []) := by
    intro  n
    induction n with
    | zero =>
      intro x5 v ar H locs ls hf
      have hf : (none : Option (Bool × kV × kR)) = some (r, v2, ar2) := hf
      cases hf
    | succ n ih =>
      intro x5 v ar H locs ls hf hP hS hl
      have hf : fX5_isRead_61b q h p2 p3 (fX5_isRead_61 q h p2 p3 n) x5 v ar = some (r, v2, ar2) := hf
      unfold fX5_isRead_61b at hf
      refine lv_iload hx hb dX5_isRead_61 (lv_at hl 2 rfl) ?_
      refine lv_bipush (v := (7 : Int32)) hx hb dX5_isRead_63 (by decide) ?_
      refine lv_icmp_ge (tgt := 94) hx hb dX5_isRead_65 (by decide) (fun c21 => ?_) (fun c21 => ?_)
      · have hf := kif_t c21 hf
        exact hB94 _ _ _ _ _ hf hP hS (lv_sub hl [0, 1] rfl)
      · have hf := kif_f c21 hf
        refine lv_aload_n hx hb dX5_isRead_68 rfl (lv_at hl 0 rfl) ?_
        refine lv_bipush (v := (59 : Int32)) hx hb dX5_isRead_69 (by decide) ?_
        obtain ⟨r35, v36, ar37, e34, hf⟩ := kb3_s hf
        refine kcallV (As := [.int (59 : Int32)]) (rest := []) C0 (cX5_takes_c hap e34) q_235 kw_X5_takes (xv_T C0.2 hP) hP hS ⟨Nat.le_of_ble_eq_true rfl, Nat.le_of_ble_eq_true rfl⟩ rfl hl.1 rfl (Nat.le_of_ble_eq_true rfl) dX5_isRead_71 (fun H locs hP hS => ?_)
        refine lv_if_eq (tgt := 94) hx hb dX5_isRead_74 (by decide) (fun c38 => ?_) (fun c38 => ?_)
        · have hf := kif_t c38 hf
          exact hB94 _ _ _ _ _ hf hP hS (lv_sub hl [0, 1] rfl)
        · have hf := kif_f c38 hf
          refine lv_aload_n hx hb dX5_isRead_77 rfl (lv_at hl 0 rfl) ?_
          refine lv_aload hx hb dX5_isRead_78 (lv_at hl 1 rfl) ?_
          obtain ⟨r40, v41, ar42, e39, hf⟩ := kb3_s hf
          refine kcallV (As := [.ref (a (2+h))]) (rest := []) C0 (cX5_readsCell_c hap hh e39) q_243 kw_X5_readsCell (xv_T C0.2 hP) hP hS ⟨Nat.le_of_ble_eq_true rfl, Nat.le_of_ble_eq_true rfl⟩ rfl hl.1 rfl (Nat.le_of_ble_eq_true rfl) dX5_isRead_80 (fun H locs hP hS => ?_)
          refine lv_if_ne (tgt := 88) hx hb dX5_isRead_83 (by decide) (fun c43 => ?_) (fun c43 => ?_)
          · have hf := kif_f c43 hf
            refine lv_iinc (v := (x5 + (1 : Int32))) (lv' := [(5, .int (x5 + (1 : Int32))), (0, .ref (a 4)), (4, .ref (a (2+h)))]) hx hb dX5_isRead_88 hl (k := 2) rfl rfl (by decide) rfl (fun ls hl => ?_)
            refine lv_goto (tgt := 61) hx hb dX5_isRead_91 (by decide) ?_
            exact ih _ _ _ _ _ _ hf hP hS (lv_sub hl [1, 2, 0] rfl)
          · have hf := kif_t c43 hf
            refine lv_iconst (v := (0 : Int32)) hx hb dX5_isRead_86 (by decide) ?_
            obtain ⟨rfl, rfl, rfl⟩ := kinj3 hf
            exact kret_z false rfl C0 hr hlk hP hS dX5_isRead_87
  unfold fX5_isRead at hf
  refine lv_aload_n hx hb dX5_isRead_0 rfl (lv_at hl 1 rfl) ?_
  refine xg_S_2 C0 hq hP q_160 dX5_isRead_1 ?_
  refine lv_iload_n hx hb dX5_isRead_4 rfl (lv_at hl 2 rfl) ?_
  refine lv_aload_n hx hb dX5_isRead_5 rfl (lv_at hl 0 rfl) ?_
  refine xg_T_0 C0 hP q_81 dX5_isRead_6 ?_
  refine lv_iconst (v := (0 : Int32)) hx hb dX5_isRead_9 (by decide) ?_
  refine lv_iload_n hx hb dX5_isRead_10 rfl (lv_at hl 3 rfl) ?_
  obtain ⟨g1, hf⟩ := kgd hf
  refine xcopy C0 hap hl.1 (xa_row hq) (xa_codes) (xz_codes) q_227 hP hS g1 (Nat.le_of_ble_eq_true rfl) (Nat.le_of_ble_eq_true rfl) dX5_isRead_11 (fun H locs hP hS => ?_)
  refine lv_aload_n hx hb dX5_isRead_14 rfl (lv_at hl 0 rfl) ?_
  refine lv_iload_n hx hb dX5_isRead_15 rfl (lv_at hl 3 rfl) ?_
  refine xp_T_1 C0 hap hP hS q_82 dX5_isRead_16 (fun H locs hP hS => ?_)
  refine lv_aload_n hx hb dX5_isRead_19 rfl (lv_at hl 0 rfl) ?_
  refine lv_iconst (v := (0 : Int32)) hx hb dX5_isRead_20 (by decide) ?_
  refine xp_T_2 C0 hap hP hS q_83 dX5_isRead_21 (fun H locs hP hS => ?_)
  refine lv_aload hx hb dX5_isRead_24 (lv_at hl 4 rfl) ?_
  obtain ⟨v4, ar5, e2, hf⟩ := kb2_s hf
  refine kcallV (As := []) (rest := []) C0 (cX0_clear_c hap hh e2) q_230 kw_X0_clear (xv_H hh C0.2 hP) hP hS ⟨Nat.le_of_ble_eq_true rfl, Nat.le_of_ble_eq_true rfl⟩ rfl hl.1 rfl (Nat.le_of_ble_eq_true rfl) dX5_isRead_26 (fun H locs hP hS => ?_)
  refine lv_aload_n hx hb dX5_isRead_29 rfl (lv_at hl 0 rfl) ?_
  refine lv_bipush (v := (104 : Int32)) hx hb dX5_isRead_30 (by decide) ?_
  obtain ⟨r7, v8, ar9, e6, hf⟩ := kb3_s hf
  refine kcallV (As := [.int (104 : Int32)]) (rest := []) C0 (cX5_takes_c hap e6) q_235 kw_X5_takes (xv_T C0.2 hP) hP hS ⟨Nat.le_of_ble_eq_true rfl, Nat.le_of_ble_eq_true rfl⟩ rfl hl.1 rfl (Nat.le_of_ble_eq_true rfl) dX5_isRead_32 (fun H locs hP hS => ?_)
  refine lv_if_eq (tgt := 56) hx hb dX5_isRead_35 (by decide) (fun c10 => ?_) (fun c10 => ?_)
  · have hf := kif_t c10 hf
    refine lv_iconst (v := (0 : Int32)) hx hb dX5_isRead_56 (by decide) ?_
    obtain ⟨rfl, rfl, rfl⟩ := kinj3 hf
    exact kret_z false rfl C0 hr hlk hP hS dX5_isRead_57
  · have hf := kif_f c10 hf
    refine lv_aload_n hx hb dX5_isRead_38 rfl (lv_at hl 0 rfl) ?_
    refine lv_bipush (v := (59 : Int32)) hx hb dX5_isRead_39 (by decide) ?_
    obtain ⟨r12, v13, ar14, e11, hf⟩ := kb3_s hf
    refine kcallV (As := [.int (59 : Int32)]) (rest := []) C0 (cX5_takes_c hap e11) q_235 kw_X5_takes (xv_T C0.2 hP) hP hS ⟨Nat.le_of_ble_eq_true rfl, Nat.le_of_ble_eq_true rfl⟩ rfl hl.1 rfl (Nat.le_of_ble_eq_true rfl) dX5_isRead_41 (fun H locs hP hS => ?_)
    refine lv_if_eq (tgt := 56) hx hb dX5_isRead_44 (by decide) (fun c15 => ?_) (fun c15 => ?_)
    · have hf := kif_t c15 hf
      refine lv_iconst (v := (0 : Int32)) hx hb dX5_isRead_56 (by decide) ?_
      obtain ⟨rfl, rfl, rfl⟩ := kinj3 hf
      exact kret_z false rfl C0 hr hlk hP hS dX5_isRead_57
    · have hf := kif_f c15 hf
      refine lv_aload_n hx hb dX5_isRead_47 rfl (lv_at hl 0 rfl) ?_
      refine lv_aload hx hb dX5_isRead_48 (lv_at hl 4 rfl) ?_
      obtain ⟨r17, v18, ar19, e16, hf⟩ := kb3_s hf
      refine kcallV (As := [.ref (a (2+h))]) (rest := []) C0 (cX5_readsCell_c hap hh e16) q_243 kw_X5_readsCell (xv_T C0.2 hP) hP hS ⟨Nat.le_of_ble_eq_true rfl, Nat.le_of_ble_eq_true rfl⟩ rfl hl.1 rfl (Nat.le_of_ble_eq_true rfl) dX5_isRead_50 (fun H locs hP hS => ?_)
      refine lv_if_ne (tgt := 58) hx hb dX5_isRead_53 (by decide) (fun c20 => ?_) (fun c20 => ?_)
      · have hf := kif_f c20 hf
        refine lv_iconst (v := (1 : Int32)) hx hb dX5_isRead_58 (by decide) ?_
        refine lv_istore (lv' := [(5, .int (1 : Int32)), (0, .ref (a 4)), (1, .ref (a (8+q))), (2, .int p2), (3, .int p3), (4, .ref (a (2+h)))]) hx hb dX5_isRead_59 hl (by decide) rfl (fun ls hl => ?_)
        exact hB61 _ _ _ _ _ _ _ hf hP hS (lv_sub hl [1, 5, 0] rfl)
      · have hf := kif_t c20 hf
        refine lv_iconst (v := (0 : Int32)) hx hb dX5_isRead_56 (by decide) ?_
        obtain ⟨rfl, rfl, rfl⟩ := kinj3 hf
        exact kret_z false rfl C0 hr hlk hP hS dX5_isRead_57
set_option maxHeartbeats 4000000 in
set_option maxRecDepth 100000 in
theorem cX0_become_c {l : Launch} {D : va_G} {cI cS : ClassId} {a : Nat → Nat} (hap : kAp a 29) {h : Nat} (hh : h < 2) {g : Nat} (hg : g < 2) {v : kV} {ar : kR} {v2 : kV} {ar2 : kR} (hf : fX0_become h g v ar = some (v2, ar2)) : kMet l D cI cS (xW cI cS a) (kA a 29) yX0_become cX0_become 2 none 1 26 [.ref (a (2+h)), .ref (a (2+g))] v ar none v2 ar2 := by
  refine kstart (by decide) (Nat.le_of_ble_eq_true rfl) ?_
  intro p e s m args below meth c ls C0 hr hlk hl hP hS
  have C0 : kC p s m c args cX0_become 2 RX0 D cI cS := C0
  have hx := C0.1.1
  have hb := C0.1.2.1
  have hl : lv_has ls 2 [(0, .ref (a (2+h))), (1, .ref (a (2+g)))] := hl
  unfold fX0_become at hf
  refine lv_aload_n hx hb dX0_become_0 rfl (lv_at hl 0 rfl) ?_
  refine lv_aload_n hx hb dX0_become_1 rfl (lv_at hl 1 rfl) ?_
  refine xg_H_0 C0 hg hP q_29 dX0_become_2 ?_
  refine xp_H_0 C0 hap hh hP hS q_29 dX0_become_5 (fun H locs hP hS => ?_)
  refine lv_aload_n hx hb dX0_become_8 rfl (lv_at hl 0 rfl) ?_
  refine lv_aload_n hx hb dX0_become_9 rfl (lv_at hl 1 rfl) ?_
  refine xg_H_1 C0 hg hP q_33 dX0_become_10 ?_
  refine xp_H_1 C0 hap hh hP hS q_33 dX0_become_13 (fun H locs hP hS => ?_)
  refine lv_aload_n hx hb dX0_become_16 rfl (lv_at hl 0 rfl) ?_
  refine lv_aload_n hx hb dX0_become_17 rfl (lv_at hl 1 rfl) ?_
  refine xg_H_2 C0 hg hP q_36 dX0_become_18 ?_
  refine xp_H_2 C0 hap hh hP hS q_36 dX0_become_21 (fun H locs hP hS => ?_)
  refine lv_aload_n hx hb dX0_become_24 rfl (lv_at hl 0 rfl) ?_
  refine lv_aload_n hx hb dX0_become_25 rfl (lv_at hl 1 rfl) ?_
  refine xg_H_3 C0 hg hP q_41 dX0_become_26 ?_
  refine xp_H_3 C0 hap hh hP hS q_41 dX0_become_29 (fun H locs hP hS => ?_)
  refine lv_aload_n hx hb dX0_become_32 rfl (lv_at hl 0 rfl) ?_
  refine lv_aload_n hx hb dX0_become_33 rfl (lv_at hl 1 rfl) ?_
  refine xg_H_4 C0 hg hP q_43 dX0_become_34 ?_
  refine xp_H_4 C0 hap hh hP hS q_43 dX0_become_37 (fun H locs hP hS => ?_)
  refine lv_aload_n hx hb dX0_become_40 rfl (lv_at hl 1 rfl) ?_
  refine xg_H_5 C0 hg hP q_45 dX0_become_41 ?_
  refine lv_iconst (v := (0 : Int32)) hx hb dX0_become_44 (by decide) ?_
  refine lv_aload_n hx hb dX0_become_45 rfl (lv_at hl 0 rfl) ?_
  refine xg_H_5 C0 hh hP q_45 dX0_become_46 ?_
  refine lv_iconst (v := (0 : Int32)) hx hb dX0_become_49 (by decide) ?_
  refine lv_bipush (v := (7 : Int32)) hx hb dX0_become_50 (by decide) ?_
  obtain ⟨g1, hf⟩ := kgd hf
  refine xcopy C0 hap hl.1 (xa_kind hg) (xa_kind hh) (xz_kind hh) q_273 hP hS g1 (Nat.le_of_ble_eq_true rfl) (Nat.le_of_ble_eq_true rfl) dX0_become_52 (fun H locs hP hS => ?_)
  refine lv_aload_n hx hb dX0_become_55 rfl (lv_at hl 1 rfl) ?_
  refine xg_H_6 C0 hg hP q_47 dX0_become_56 ?_
  refine lv_iconst (v := (0 : Int32)) hx hb dX0_become_59 (by decide) ?_
  refine lv_aload_n hx hb dX0_become_60 rfl (lv_at hl 0 rfl) ?_
  refine xg_H_6 C0 hh hP q_47 dX0_become_61 ?_
  refine lv_iconst (v := (0 : Int32)) hx hb dX0_become_64 (by decide) ?_
  refine lv_bipush (v := (7 : Int32)) hx hb dX0_become_65 (by decide) ?_
  obtain ⟨g2, hf⟩ := kgd hf
  refine xcopy C0 hap hl.1 (xa_bulk hg) (xa_bulk hh) (xz_bulk hh) q_273 hP hS g2 (Nat.le_of_ble_eq_true rfl) (Nat.le_of_ble_eq_true rfl) dX0_become_67 (fun H locs hP hS => ?_)
  refine lv_aload_n hx hb dX0_become_70 rfl (lv_at hl 1 rfl) ?_
  refine xg_H_7 C0 hg hP q_49 dX0_become_71 ?_
  refine lv_iconst (v := (0 : Int32)) hx hb dX0_become_74 (by decide) ?_
  refine lv_aload_n hx hb dX0_become_75 rfl (lv_at hl 0 rfl) ?_
  refine xg_H_7 C0 hh hP q_49 dX0_become_76 ?_
  refine lv_iconst (v := (0 : Int32)) hx hb dX0_become_79 (by decide) ?_
  refine lv_bipush (v := (7 : Int32)) hx hb dX0_become_80 (by decide) ?_
  obtain ⟨g3, hf⟩ := kgd hf
  refine xcopy C0 hap hl.1 (xa_weight hg) (xa_weight hh) (xz_weight hh) q_273 hP hS g3 (Nat.le_of_ble_eq_true rfl) (Nat.le_of_ble_eq_true rfl) dX0_become_82 (fun H locs hP hS => ?_)
  refine lv_aload_n hx hb dX0_become_85 rfl (lv_at hl 1 rfl) ?_
  refine xg_H_8 C0 hg hP q_52 dX0_become_86 ?_
  refine lv_iconst (v := (0 : Int32)) hx hb dX0_become_89 (by decide) ?_
  refine lv_aload_n hx hb dX0_become_90 rfl (lv_at hl 0 rfl) ?_
  refine xg_H_8 C0 hh hP q_52 dX0_become_91 ?_
  refine lv_iconst (v := (0 : Int32)) hx hb dX0_become_94 (by decide) ?_
  refine lv_bipush (v := (6 : Int32)) hx hb dX0_become_95 (by decide) ?_
  obtain ⟨g4, hf⟩ := kgd hf
  refine xcopy C0 hap hl.1 (xa_net hg) (xa_net hh) (xz_net hh) q_273 hP hS g4 (Nat.le_of_ble_eq_true rfl) (Nat.le_of_ble_eq_true rfl) dX0_become_97 (fun H locs hP hS => ?_)
  obtain ⟨rfl, rfl⟩ := kinj2 hf
  exact kret_v C0 hr hlk hP hS dX0_become_100
set_option maxHeartbeats 4000000 in
set_option maxRecDepth 100000 in
theorem cX6_circuit_c {l : Launch} {D : va_G} {cI cS : ClassId} {a : Nat → Nat} (hap : kAp a 29) {v : kV} {ar : kR} {p1 : Int32} {p2 : Int32} {p3 : Int32} {p4 : Int32} {r : Int32} {v2 : kV} {ar2 : kR} (hf : fX6_circuit v ar p1 p2 p3 p4 = some (r, v2, ar2)) : kMet l D cI cS (xW cI cS a) (kA a 29) yX6_circuit cX6_circuit 7 (some .int) 4 94 [.ref (a 0), .int p1, .int p2, .int p3, .int p4] v ar (some (.int r)) v2 ar2 := by
  refine kstart (by decide) (Nat.le_of_ble_eq_true rfl) ?_
  intro p e s m args below meth c ls C0 hr hlk hl hP hS
  have C0 : kC p s m c args cX6_circuit 7 RX6 D cI cS := C0
  have hx := C0.1.1
  have hb := C0.1.2.1
  have hl : lv_has ls 7 [(0, .ref (a 0)), (1, .int p1), (2, .int p2), (3, .int p3), (4, .int p4)] := hl
  have hB75 : ∀ (x6 : Int32) (v : kV) (ar : kR) (H : Heap) (locs : List Loc) (ls : Array Slot) (hq8 : p1.toNatClampNeg < 4), fX6_circuit_75 p1 p2 p3 p4 x6 v ar = some (r, v2, ar2) → va_P D vwCl (xW cI cS a v ar) H → va_S (kA a 29) s.heap H locs → lv_has ls 7 [(0, .ref (a 0)), (3, .int p3), (4, .int p4), (5, .ref (a (8+p1.toNatClampNeg))), (6, .int x6)] → kGo p l e 4 94 s m args below meth c D (xW cI cS a) (kA a 29) (some (.int r)) v2 ar2 H locs (F0 m 75 ls []) := by
    intro  x6 v ar H locs ls hq8 hf hP hS hl
    unfold fX6_circuit_75 at hf
    refine lv_iload hx hb dX6_circuit_75 (lv_at hl 4 rfl) ?_
    refine lv_if_eq (tgt := 87) hx hb dX6_circuit_77 (by decide) (fun c13 => ?_) (fun c13 => ?_)
    · have hf := kif_t c13 hf
      refine lv_aload_n hx hb dX6_circuit_87 rfl (lv_at hl 0 rfl) ?_
      refine lv_iconst (v := (0 : Int32)) hx hb dX6_circuit_88 (by decide) ?_
      refine xp_HC_8 C0 hap hP hS q_177 dX6_circuit_89 (fun H locs hP hS => ?_)
      refine lv_aload_n hx hb dX6_circuit_92 rfl (lv_at hl 0 rfl) ?_
      refine xg_HC_3 C0 hP q_172 dX6_circuit_93 ?_
      refine lv_aload hx hb dX6_circuit_96 (lv_at hl 3 rfl) ?_
      refine lv_iload_n hx hb dX6_circuit_98 rfl (lv_at hl 1 rfl) ?_
      refine lv_iload hx hb dX6_circuit_99 (lv_at hl 2 rfl) ?_
      refine lv_aload_n hx hb dX6_circuit_101 rfl (lv_at hl 0 rfl) ?_
      refine xg_HC_2 C0 hP q_171 dX6_circuit_102 ?_
      obtain ⟨r15, v16, ar17, e14, hf⟩ := kb3_s hf
      refine kcallV (As := [.ref (a (8+p1.toNatClampNeg)), .int p3, .int p4, .ref (a (2+1))]) (rest := []) C0 (cX5_isRead_c hap hq8 k1_2 e14) q_223 kw_X5_isRead (xv_T C0.2 hP) hP hS ⟨Nat.le_of_ble_eq_true rfl, Nat.le_of_ble_eq_true rfl⟩ rfl hl.1 rfl (Nat.le_of_ble_eq_true rfl) dX6_circuit_105 (fun H locs hP hS => ?_)
      refine lv_if_ne (tgt := 122) hx hb dX6_circuit_108 (by decide) (fun c18 => ?_) (fun c18 => ?_)
      · have hf := kif_f c18 hf
        refine lv_aload_n hx hb dX6_circuit_122 rfl (lv_at hl 0 rfl) ?_
        refine xg_HC_1 C0 hP q_170 dX6_circuit_123 ?_
        refine lv_aload_n hx hb dX6_circuit_126 rfl (lv_at hl 0 rfl) ?_
        refine xg_HC_2 C0 hP q_171 dX6_circuit_127 ?_
        obtain ⟨v21, ar22, e19, hf⟩ := kb2_s hf
        refine kcallV (As := [.ref (a (2+1))]) (rest := []) C0 (cX0_become_c hap k0_2 k1_2 e19) q_269 kw_X0_become (xv_H k0_2 C0.2 hP) hP hS ⟨Nat.le_of_ble_eq_true rfl, Nat.le_of_ble_eq_true rfl⟩ rfl hl.1 rfl (Nat.le_of_ble_eq_true rfl) dX6_circuit_130 (fun H locs hP hS => ?_)
        refine lv_aload_n hx hb dX6_circuit_133 rfl (lv_at hl 0 rfl) ?_
        refine xg_HC_5 C0 hP q_174 dX6_circuit_134 ?_
        refine lv_iconst (v := (0 : Int32)) hx hb dX6_circuit_137 (by decide) ?_
        refine xp_R_0 C0 hap rfl rfl hP hS q_117 dX6_circuit_138 (fun H locs hP hS => ?_)
        refine lv_aload_n hx hb dX6_circuit_141 rfl (lv_at hl 0 rfl) ?_
        refine xg_HC_6 C0 hP q_175 dX6_circuit_142 ?_
        refine lv_iconst (v := (0 : Int32)) hx hb dX6_circuit_145 (by decide) ?_
        refine xp_RD_0 C0 hap hP hS q_140 dX6_circuit_146 (fun H locs hP hS => ?_)
        refine lv_aload_n hx hb dX6_circuit_149 rfl (lv_at hl 0 rfl) ?_
        refine xg_HC_1 C0 hP q_170 dX6_circuit_150 ?_
        refine xg_H_0 C0 k0_2 hP q_31 dX6_circuit_153 ?_
        obtain ⟨rfl, rfl, rfl⟩ := kinj3 hf
        exact kret_i C0 hr hlk hP hS dX6_circuit_156
      · have hf := kif_t c18 hf
        refine lv_bipush (v := (-100 : Int32)) hx hb dX6_circuit_111 (by decide) ?_
        refine lv_aload_n hx hb dX6_circuit_113 rfl (lv_at hl 0 rfl) ?_
        refine xg_HC_3 C0 hP q_172 dX6_circuit_114 ?_
        refine xg_T_2 C0 hP q_84 dX6_circuit_117 ?_
        refine lv_isub hx hb dX6_circuit_120 ?_
        obtain ⟨rfl, rfl, rfl⟩ := kinj3 hf
        exact kret_i C0 hr hlk hP hS dX6_circuit_121
    · have hf := kif_f c13 hf
      refine lv_aload_n hx hb dX6_circuit_80 rfl (lv_at hl 0 rfl) ?_
      refine lv_iload hx hb dX6_circuit_81 (lv_at hl 4 rfl) ?_
      obtain ⟨r24, v25, ar26, e23, hf⟩ := kb3_s hf
      refine kcallV (As := [.int x6]) (rest := []) C0 (cX6_failed_c hap e23) q_219 kw_X6_failed (xv_HC C0.2 hP) hP hS ⟨Nat.le_of_ble_eq_true rfl, Nat.le_of_ble_eq_true rfl⟩ rfl hl.1 rfl (Nat.le_of_ble_eq_true rfl) dX6_circuit_83 (fun H locs hP hS => ?_)
      obtain ⟨rfl, rfl, rfl⟩ := kinj3 hf
      exact kret_i C0 hr hlk hP hS dX6_circuit_86
  have hB56 : ∀ (x6 : Int32) (v : kV) (ar : kR) (H : Heap) (locs : List Loc) (ls : Array Slot) (hq8 : p1.toNatClampNeg < 4), fX6_circuit_56 p1 p2 p3 p4 x6 v ar = some (r, v2, ar2) → va_P D vwCl (xW cI cS a v ar) H → va_S (kA a 29) s.heap H locs → lv_has ls 7 [(0, .ref (a 0)), (3, .int p3), (4, .int p4), (5, .ref (a (8+p1.toNatClampNeg))), (6, .int x6)] → kGo p l e 4 94 s m args below meth c D (xW cI cS a) (kA a 29) (some (.int r)) v2 ar2 H locs (F0 m 56 ls []) := by
    intro  x6 v ar H locs ls hq8 hf hP hS hl
    unfold fX6_circuit_56 at hf
    refine lv_iload hx hb dX6_circuit_56 (lv_at hl 4 rfl) ?_
    refine lv_if_ne (tgt := 75) hx hb dX6_circuit_58 (by decide) (fun c12 => ?_) (fun c12 => ?_)
    · have hf := kif_f c12 hf
      exact hB75 _ _ _ _ _ _ hq8 hf hP hS (lv_sub hl [0, 1, 2, 3, 4] rfl)
    · have hf := kif_t c12 hf
      refine lv_aload hx hb dX6_circuit_61 (lv_at hl 3 rfl) ?_
      refine lv_iload_n hx hb dX6_circuit_63 rfl (lv_at hl 1 rfl) ?_
      refine lv_iload hx hb dX6_circuit_64 (lv_at hl 2 rfl) ?_
      obtain ⟨r28, e27, hf⟩ := kb1_s hf
      refine kcallV (As := [.int p3, .int p4]) (rest := []) C0 (cX4_has_c hap hq8 e27) q_215 kw_X4_has (xv_S hq8 C0.2 hP) hP hS ⟨Nat.le_of_ble_eq_true rfl, Nat.le_of_ble_eq_true rfl⟩ rfl hl.1 rfl (Nat.le_of_ble_eq_true rfl) dX6_circuit_66 (fun H locs hP hS => ?_)
      refine lv_if_ne (tgt := 75) hx hb dX6_circuit_69 (by decide) (fun c29 => ?_) (fun c29 => ?_)
      · have hf := kif_f c29 hf
        exact hB75 _ _ _ _ _ _ hq8 hf hP hS (lv_sub hl [0, 1, 2, 3, 4] rfl)
      · have hf := kif_t c29 hf
        refine lv_iconst (v := (3 : Int32)) hx hb dX6_circuit_72 (by decide) ?_
        refine lv_istore (lv' := [(6, .int (3 : Int32)), (0, .ref (a 0)), (3, .int p3), (4, .int p4), (5, .ref (a (8+p1.toNatClampNeg)))]) hx hb dX6_circuit_73 hl (by decide) rfl (fun ls hl => ?_)
        exact hB75 _ _ _ _ _ _ hq8 hf hP hS (lv_sub hl [1, 2, 3, 4, 0] rfl)
  unfold fX6_circuit at hf
  refine lv_iload_n hx hb dX6_circuit_0 rfl (lv_at hl 1 rfl) ?_
  obtain ⟨r2, e1, hf⟩ := kb1_s hf
  refine kcallT (As := [.int p1]) (rest := []) C0 (cX6_isSheet_c hap e1) q_201 kw_X6_isSheet hP hS ⟨Nat.le_of_ble_eq_true rfl, Nat.le_of_ble_eq_true rfl⟩ rfl hl.1 rfl (Nat.le_of_ble_eq_true rfl) dX6_circuit_1 (fun H locs hP hS => ?_)
  refine lv_if_ne (tgt := 13) hx hb dX6_circuit_4 (by decide) (fun c3 => ?_) (fun c3 => ?_)
  · have hf := kif_f c3 hf
    refine lv_iload_n hx hb dX6_circuit_13 rfl (lv_at hl 2 rfl) ?_
    obtain ⟨r5, e4, hf⟩ := kb1_s hf
    refine kcallT (As := [.int p2]) (rest := []) C0 (cX6_isLane_c hap e4) q_208 kw_X6_isLane hP hS ⟨Nat.le_of_ble_eq_true rfl, Nat.le_of_ble_eq_true rfl⟩ rfl hl.1 rfl (Nat.le_of_ble_eq_true rfl) dX6_circuit_14 (fun H locs hP hS => ?_)
    refine lv_if_ne (tgt := 27) hx hb dX6_circuit_17 (by decide) (fun c6 => ?_) (fun c6 => ?_)
    · have hf := kif_f c6 hf
      refine lv_aload_n hx hb dX6_circuit_27 rfl (lv_at hl 0 rfl) ?_
      refine xg_HC_0 C0 hP q_169 dX6_circuit_28 ?_
      refine lv_iload_n hx hb dX6_circuit_31 rfl (lv_at hl 1 rfl) ?_
      obtain ⟨g7, hf⟩ := kgd hf
      have hq8 : p1.toNatClampNeg < 4 := Nat.not_le.mp fun z => g7 (Or.inr z)
      refine xl_SA C0 hP g7 dX6_circuit_32 ?_
      refine lv_astore (lv' := [(5, .ref (a (8+p1.toNatClampNeg))), (0, .ref (a 0)), (1, .int p1), (2, .int p2), (3, .int p3), (4, .int p4)]) hx hb dX6_circuit_33 hl (by decide) rfl (fun ls hl => ?_)
      refine lv_aload hx hb dX6_circuit_35 (lv_at hl 0 rfl) ?_
      refine lv_iload_n hx hb dX6_circuit_37 rfl (lv_at hl 3 rfl) ?_
      obtain ⟨r10, e9, hf⟩ := kb1_s hf
      refine kcallV (As := [.int p2]) (rest := []) C0 (cX4_faultAs_c hap hq8 e9) q_211 kw_X4_faultAs (xv_S hq8 C0.2 hP) hP hS ⟨Nat.le_of_ble_eq_true rfl, Nat.le_of_ble_eq_true rfl⟩ rfl hl.1 rfl (Nat.le_of_ble_eq_true rfl) dX6_circuit_38 (fun H locs hP hS => ?_)
      refine lv_istore (lv' := [(6, .int r10), (5, .ref (a (8+p1.toNatClampNeg))), (0, .ref (a 0)), (1, .int p1), (2, .int p2), (3, .int p3), (4, .int p4)]) hx hb dX6_circuit_41 hl (by decide) rfl (fun ls hl => ?_)
      refine lv_iload hx hb dX6_circuit_43 (lv_at hl 0 rfl) ?_
      refine lv_if_ne (tgt := 56) hx hb dX6_circuit_45 (by decide) (fun c11 => ?_) (fun c11 => ?_)
      · have hf := kif_f c11 hf
        exact hB56 _ _ _ _ _ _ hq8 hf hP hS (lv_sub hl [2, 5, 6, 1, 0] rfl)
      · have hf := kif_t c11 hf
        refine lv_iload hx hb dX6_circuit_48 (lv_at hl 6 rfl) ?_
        refine lv_if_ge (tgt := 56) hx hb dX6_circuit_50 (by decide) (fun c30 => ?_) (fun c30 => ?_)
        · have hf := kif_t c30 hf
          exact hB56 _ _ _ _ _ _ hq8 hf hP hS (lv_sub hl [2, 5, 6, 1, 0] rfl)
        · have hf := kif_f c30 hf
          refine lv_iconst (v := (4 : Int32)) hx hb dX6_circuit_53 (by decide) ?_
          refine lv_istore (lv' := [(6, .int (4 : Int32)), (5, .ref (a (8+p1.toNatClampNeg))), (0, .ref (a 0)), (1, .int p1), (2, .int p2), (3, .int p3), (4, .int p4)]) hx hb dX6_circuit_54 hl (by decide) rfl (fun ls hl => ?_)
          exact hB56 _ _ _ _ _ _ hq8 hf hP hS (lv_sub hl [2, 5, 6, 1, 0] rfl)
    · have hf := kif_t c6 hf
      refine lv_aload_n hx hb dX6_circuit_20 rfl (lv_at hl 0 rfl) ?_
      refine lv_bipush (v := (-2 : Int32)) hx hb dX6_circuit_21 (by decide) ?_
      obtain ⟨r32, v33, ar34, e31, hf⟩ := kb3_s hf
      refine kcallV (As := [.int (-2 : Int32)]) (rest := []) C0 (cX6_refused_c hap e31) q_204 kw_X6_refused (xv_HC C0.2 hP) hP hS ⟨Nat.le_of_ble_eq_true rfl, Nat.le_of_ble_eq_true rfl⟩ rfl hl.1 rfl (Nat.le_of_ble_eq_true rfl) dX6_circuit_23 (fun H locs hP hS => ?_)
      obtain ⟨rfl, rfl, rfl⟩ := kinj3 hf
      exact kret_i C0 hr hlk hP hS dX6_circuit_26
  · have hf := kif_t c3 hf
    refine lv_aload_n hx hb dX6_circuit_7 rfl (lv_at hl 0 rfl) ?_
    refine lv_iconst (v := (-1 : Int32)) hx hb dX6_circuit_8 (by decide) ?_
    obtain ⟨r36, v37, ar38, e35, hf⟩ := kb3_s hf
    refine kcallV (As := [.int (-1 : Int32)]) (rest := []) C0 (cX6_refused_c hap e35) q_204 kw_X6_refused (xv_HC C0.2 hP) hP hS ⟨Nat.le_of_ble_eq_true rfl, Nat.le_of_ble_eq_true rfl⟩ rfl hl.1 rfl (Nat.le_of_ble_eq_true rfl) dX6_circuit_9 (fun H locs hP hS => ?_)
    obtain ⟨rfl, rfl, rfl⟩ := kinj3 hf
    exact kret_i C0 hr hlk hP hS dX6_circuit_12
set_option maxHeartbeats 4000000 in
set_option maxRecDepth 100000 in
theorem cX6_isCell_c {l : Launch} {D : va_G} {cI cS : ClassId} {a : Nat → Nat} (hap : kAp a 29) {v : kV} {ar : kR} {p1 : Int32} {r : Bool} (hf : fX6_isCell v ar p1 = some r) : kMet l D cI cS (xW cI cS a) (kA a 29) yX6_isCell cX6_isCell 2 (some .boolean) 0 0 [.ref (a 0), .int p1] v ar (some (.int (bI r))) v ar := by
  refine kstart (by decide) (Nat.le_of_ble_eq_true rfl) ?_
  intro p e s m args below meth c ls C0 hr hlk hl hP hS
  have C0 : kC p s m c args cX6_isCell 2 RX6 D cI cS := C0
  have hx := C0.1.1
  have hb := C0.1.2.1
  have hl : lv_has ls 2 [(0, .ref (a 0)), (1, .int p1)] := hl
  unfold fX6_isCell at hf
  refine lv_iload_n hx hb dX6_isCell_0 rfl (lv_at hl 1 rfl) ?_
  refine lv_if_lt (tgt := 19) hx hb dX6_isCell_1 (by decide) (fun c1 => ?_) (fun c1 => ?_)
  · have hf := kif_t c1 hf
    refine lv_iconst (v := (0 : Int32)) hx hb dX6_isCell_19 (by decide) ?_
    obtain rfl := Option.some.inj hf
    exact kret_z false rfl C0 hr hlk hP hS dX6_isCell_20
  · have hf := kif_f c1 hf
    refine lv_iload_n hx hb dX6_isCell_4 rfl (lv_at hl 1 rfl) ?_
    refine lv_aload_n hx hb dX6_isCell_5 rfl (lv_at hl 0 rfl) ?_
    refine xg_HC_1 C0 hP q_170 dX6_isCell_6 ?_
    refine xg_H_0 C0 k0_2 hP q_31 dX6_isCell_9 ?_
    refine lv_icmp_ge (tgt := 19) hx hb dX6_isCell_12 (by decide) (fun c2 => ?_) (fun c2 => ?_)
    · have hf := kif_t c2 hf
      refine lv_iconst (v := (0 : Int32)) hx hb dX6_isCell_19 (by decide) ?_
      obtain rfl := Option.some.inj hf
      exact kret_z false rfl C0 hr hlk hP hS dX6_isCell_20
    · have hf := kif_f c2 hf
      refine lv_iconst (v := (1 : Int32)) hx hb dX6_isCell_15 (by decide) ?_
      refine lv_goto (tgt := 20) hx hb dX6_isCell_16 (by decide) ?_
      obtain rfl := Option.some.inj hf
      exact kret_z true rfl C0 hr hlk hP hS dX6_isCell_20
set_option maxHeartbeats 4000000 in
set_option maxRecDepth 100000 in
theorem cX0_sideOf_c {l : Launch} {D : va_G} {cI cS : ClassId} {a : Nat → Nat} (hap : kAp a 29) {h : Nat} (hh : h < 2) {v : kV} {ar : kR} {p1 : Int32} {r : Int32} (hf : fX0_sideOf h v ar p1 = some r) : kMet l D cI cS (xW cI cS a) (kA a 29) yX0_sideOf cX0_sideOf 2 (some .int) 0 0 [.ref (a (2+h)), .int p1] v ar (some (.int r)) v ar := by
  refine kstart (by decide) (Nat.le_of_ble_eq_true rfl) ?_
  intro p e s m args below meth c ls C0 hr hlk hl hP hS
  have C0 : kC p s m c args cX0_sideOf 2 RX0 D cI cS := C0
  have hx := C0.1.1
  have hb := C0.1.2.1
  have hl : lv_has ls 2 [(0, .ref (a (2+h))), (1, .int p1)] := hl
  unfold fX0_sideOf at hf
  refine lv_aload_n hx hb dX0_sideOf_0 rfl (lv_at hl 0 rfl) ?_
  refine xg_H_2 C0 hh hP q_36 dX0_sideOf_1 ?_
  refine lv_iload_n hx hb dX0_sideOf_4 rfl (lv_at hl 1 rfl) ?_
  refine lv_ishr hx hb dX0_sideOf_5 ?_
  refine lv_iconst (v := (1 : Int32)) hx hb dX0_sideOf_6 (by decide) ?_
  refine lv_iand hx hb dX0_sideOf_7 ?_
  obtain rfl := Option.some.inj hf
  exact kret_i C0 hr hlk hP hS dX0_sideOf_8
set_option maxHeartbeats 4000000 in
set_option maxRecDepth 100000 in
theorem cX0_isFixed_c {l : Launch} {D : va_G} {cI cS : ClassId} {a : Nat → Nat} (hap : kAp a 29) {h : Nat} (hh : h < 2) {v : kV} {ar : kR} {p1 : Int32} {r : Bool} (hf : fX0_isFixed h v ar p1 = some r) : kMet l D cI cS (xW cI cS a) (kA a 29) yX0_isFixed cX0_isFixed 2 (some .boolean) 0 0 [.ref (a (2+h)), .int p1] v ar (some (.int (bI r))) v ar := by
  refine kstart (by decide) (Nat.le_of_ble_eq_true rfl) ?_
  intro p e s m args below meth c ls C0 hr hlk hl hP hS
  have C0 : kC p s m c args cX0_isFixed 2 RX0 D cI cS := C0
  have hx := C0.1.1
  have hb := C0.1.2.1
  have hl : lv_has ls 2 [(0, .ref (a (2+h))), (1, .int p1)] := hl
  unfold fX0_isFixed at hf
  refine lv_aload_n hx hb dX0_isFixed_0 rfl (lv_at hl 0 rfl) ?_
  refine xg_H_3 C0 hh hP q_41 dX0_isFixed_1 ?_
  refine lv_iload_n hx hb dX0_isFixed_4 rfl (lv_at hl 1 rfl) ?_
  refine lv_ishr hx hb dX0_isFixed_5 ?_
  refine lv_iconst (v := (1 : Int32)) hx hb dX0_isFixed_6 (by decide) ?_
  refine lv_iand hx hb dX0_isFixed_7 ?_
  refine lv_iconst (v := (1 : Int32)) hx hb dX0_isFixed_8 (by decide) ?_
  refine lv_icmp_ne (tgt := 16) hx hb dX0_isFixed_9 (by decide) (fun c1 => ?_) (fun c1 => ?_)
  · have hf := kif_f c1 hf
    refine lv_iconst (v := (0 : Int32)) hx hb dX0_isFixed_16 (by decide) ?_
    obtain rfl := Option.some.inj hf
    exact kret_z false rfl C0 hr hlk hP hS dX0_isFixed_17
  · have hf := kif_t c1 hf
    refine lv_iconst (v := (1 : Int32)) hx hb dX0_isFixed_12 (by decide) ?_
    refine lv_goto (tgt := 17) hx hb dX0_isFixed_13 (by decide) ?_
    obtain rfl := Option.some.inj hf
    exact kret_z true rfl C0 hr hlk hP hS dX0_isFixed_17
set_option maxHeartbeats 4000000 in
set_option maxRecDepth 100000 in
theorem cX0_netsOf_c {l : Launch} {D : va_G} {cI cS : ClassId} {a : Nat → Nat} (hap : kAp a 29) {h : Nat} (hh : h < 2) {v : kV} {ar : kR} {p1 : Int32} {r : Int32} (hf : fX0_netsOf h v ar p1 = some r) : kMet l D cI cS (xW cI cS a) (kA a 29) yX0_netsOf cX0_netsOf 4 (some .int) 0 0 [.ref (a (2+h)), .int p1] v ar (some (.int r)) v ar := by
  refine kstart (by decide) (Nat.le_of_ble_eq_true rfl) ?_
  intro p e s m args below meth c ls C0 hr hlk hl hP hS
  have C0 : kC p s m c args cX0_netsOf 4 RX0 D cI cS := C0
  have hx := C0.1.1
  have hb := C0.1.2.1
  have hl : lv_has ls 4 [(0, .ref (a (2+h))), (1, .int p1)] := hl
  have hB32 : ∀ (rec4 : Int32 → Int32 → Option Int32) (hrec4 : ∀ (x2 : Int32) (x3 : Int32) (H : Heap) (locs : List Loc) (ls : Array Slot), rec4 x2 x3 = some r → va_P D vwCl (xW cI cS a v ar) H → va_S (kA a 29) s.heap H locs → lv_has ls 4 [(0, .ref (a (2+h))), (1, .int p1), (2, .int x2), (3, .int x3)] → kGo p l e 0 0 s m args below meth c D (xW cI cS a) (kA a 29) (some (.int r)) v ar H locs (F0 m 4 ls [])) , ∀ (x2 : Int32) (x3 : Int32) (H : Heap) (locs : List Loc) (ls : Array Slot), fX0_netsOf_32 h v ar p1 rec4 x2 x3 = some r → va_P D vwCl (xW cI cS a v ar) H → va_S (kA a 29) s.heap H locs → lv_has ls 4 [(0, .ref (a (2+h))), (1, .int p1), (2, .int x2), (3, .int x3)] → kGo p l e 0 0 s m args below meth c D (xW cI cS a) (kA a 29) (some (.int r)) v ar H locs (F0 m 32 ls []) := by
    intro rec4 hrec4 x2 x3 H locs ls hf hP hS hl
    unfold fX0_netsOf_32 at hf
    refine lv_iinc (v := (x3 + (1 : Int32))) (lv' := [(3, .int (x3 + (1 : Int32))), (0, .ref (a (2+h))), (1, .int p1), (2, .int x2)]) hx hb dX0_netsOf_32 hl (k := 3) rfl rfl (by decide) rfl (fun ls hl => ?_)
    refine lv_goto (tgt := 4) hx hb dX0_netsOf_35 (by decide) ?_
    exact hrec4 _ _ _ _ _ hf hP hS (lv_sub hl [1, 2, 3, 0] rfl)
  have hB4 : ∀ (n : Nat), ∀ (x2 : Int32) (x3 : Int32) (H : Heap) (locs : List Loc) (ls : Array Slot), fX0_netsOf_4 h v ar p1 n x2 x3 = some r → va_P D vwCl (xW cI cS a v ar) H → va_S (kA a 29) s.heap H locs → lv_has ls 4 [(0, .ref (a (2+h))), (1, .int p1), (2, .int x2), (3, .int x3)] → kGo p l e 0 0 s m args below meth c D (xW cI cS a) (kA a 29) (some (.int r)) v ar H locs (F0 m 4 ls []) := by
    intro  n
    induction n with
    | zero =>
      intro x2 x3 H locs ls hf
      have hf : (none : Option Int32) = some r := hf
      cases hf
    | succ n ih =>
      intro x2 x3 H locs ls hf hP hS hl
      have hf : fX0_netsOf_4b h v ar p1 (fX0_netsOf_4 h v ar p1 n) x2 x3 = some r := hf
      unfold fX0_netsOf_4b at hf
      refine lv_iload_n hx hb dX0_netsOf_4 rfl (lv_at hl 3 rfl) ?_
      refine lv_aload_n hx hb dX0_netsOf_5 rfl (lv_at hl 0 rfl) ?_
      refine xg_H_1 C0 hh hP q_33 dX0_netsOf_6 ?_
      refine lv_icmp_ge (tgt := 38) hx hb dX0_netsOf_9 (by decide) (fun c1 => ?_) (fun c1 => ?_)
      · have hf := kif_t c1 hf
        refine lv_iload_n hx hb dX0_netsOf_38 rfl (lv_at hl 2 rfl) ?_
        obtain rfl := Option.some.inj hf
        exact kret_i C0 hr hlk hP hS dX0_netsOf_39
      · have hf := kif_f c1 hf
        refine lv_aload_n hx hb dX0_netsOf_12 rfl (lv_at hl 0 rfl) ?_
        refine xg_H_8 C0 hh hP q_52 dX0_netsOf_13 ?_
        refine lv_iload_n hx hb dX0_netsOf_16 rfl (lv_at hl 3 rfl) ?_
        obtain ⟨g2, hf⟩ := kgd hf
        refine xl_net C0 hh hP g2 dX0_netsOf_17 ?_
        refine lv_iload_n hx hb dX0_netsOf_18 rfl (lv_at hl 1 rfl) ?_
        refine lv_ishr hx hb dX0_netsOf_19 ?_
        refine lv_iconst (v := (1 : Int32)) hx hb dX0_netsOf_20 (by decide) ?_
        refine lv_iand hx hb dX0_netsOf_21 ?_
        refine lv_iconst (v := (1 : Int32)) hx hb dX0_netsOf_22 (by decide) ?_
        refine lv_icmp_ne (tgt := 32) hx hb dX0_netsOf_23 (by decide) (fun c3 => ?_) (fun c3 => ?_)
        · have hf := kif_f c3 hf
          exact hB32 _ ih _ _ _ _ _ hf hP hS (lv_sub hl [0, 1, 2, 3] rfl)
        · have hf := kif_t c3 hf
          refine lv_iload_n hx hb dX0_netsOf_26 rfl (lv_at hl 2 rfl) ?_
          refine lv_iconst (v := (1 : Int32)) hx hb dX0_netsOf_27 (by decide) ?_
          refine lv_iload_n hx hb dX0_netsOf_28 rfl (lv_at hl 3 rfl) ?_
          refine lv_ishl hx hb dX0_netsOf_29 ?_
          refine lv_ior hx hb dX0_netsOf_30 ?_
          refine lv_istore_n (lv' := [(2, .int (x2 ||| ((1 : Int32) <<< (x3 &&& 31)))), (0, .ref (a (2+h))), (1, .int p1), (3, .int x3)]) hx hb dX0_netsOf_31 rfl hl (by decide) rfl (fun ls hl => ?_)
          exact hB32 _ ih _ _ _ _ _ hf hP hS (lv_sub hl [1, 2, 0, 3] rfl)
  unfold fX0_netsOf at hf
  refine lv_iconst (v := (0 : Int32)) hx hb dX0_netsOf_0 (by decide) ?_
  refine lv_istore_n (lv' := [(2, .int (0 : Int32)), (0, .ref (a (2+h))), (1, .int p1)]) hx hb dX0_netsOf_1 rfl hl (by decide) rfl (fun ls hl => ?_)
  refine lv_iconst (v := (0 : Int32)) hx hb dX0_netsOf_2 (by decide) ?_
  refine lv_istore_n (lv' := [(3, .int (0 : Int32)), (2, .int (0 : Int32)), (0, .ref (a (2+h))), (1, .int p1)]) hx hb dX0_netsOf_3 rfl hl (by decide) rfl (fun ls hl => ?_)
  exact hB4 _ _ _ _ _ _ hf hP hS (lv_sub hl [2, 3, 1, 0] rfl)
set_option maxHeartbeats 4000000 in
set_option maxRecDepth 100000 in
theorem cX6_isCutBy_c {l : Launch} {D : va_G} {cI cS : ClassId} {a : Nat → Nat} (hap : kAp a 29) {v : kV} {ar : kR} {p0 : Int32} {p1 : Int32} {r : Bool} (hf : fX6_isCutBy p0 p1 = some r) : kMet l D cI cS (xW cI cS a) (kA a 29) yX6_isCutBy cX6_isCutBy 3 (some .boolean) 0 0 [.int p0, .int p1] v ar (some (.int (bI r))) v ar := by
  refine kstart (by decide) (Nat.le_of_ble_eq_true rfl) ?_
  intro p e s m args below meth c ls C0 hr hlk hl hP hS
  have C0 : kC p s m c args cX6_isCutBy 3 RX6 D cI cS := C0
  have hx := C0.1.1
  have hb := C0.1.2.1
  have hl : lv_has ls 3 [(0, .int p0), (1, .int p1)] := hl
  unfold fX6_isCutBy at hf
  refine lv_iload_n hx hb dX6_isCutBy_0 rfl (lv_at hl 0 rfl) ?_
  refine lv_iload_n hx hb dX6_isCutBy_1 rfl (lv_at hl 1 rfl) ?_
  refine lv_iand hx hb dX6_isCutBy_2 ?_
  refine lv_istore_n (lv' := [(2, .int (p0 &&& p1)), (0, .int p0), (1, .int p1)]) hx hb dX6_isCutBy_3 rfl hl (by decide) rfl (fun ls hl => ?_)
  refine lv_iload_n hx hb dX6_isCutBy_4 rfl (lv_at hl 0 rfl) ?_
  refine lv_if_eq (tgt := 17) hx hb dX6_isCutBy_5 (by decide) (fun c1 => ?_) (fun c1 => ?_)
  · have hf := kif_t c1 hf
    refine lv_iconst (v := (0 : Int32)) hx hb dX6_isCutBy_17 (by decide) ?_
    obtain rfl := Option.some.inj hf
    exact kret_z false rfl C0 hr hlk hP hS dX6_isCutBy_18
  · have hf := kif_f c1 hf
    refine lv_iload_n hx hb dX6_isCutBy_8 rfl (lv_at hl 0 rfl) ?_
    refine lv_iload_n hx hb dX6_isCutBy_9 rfl (lv_at hl 1 rfl) ?_
    refine lv_icmp_eq (tgt := 17) hx hb dX6_isCutBy_10 (by decide) (fun c2 => ?_) (fun c2 => ?_)
    · have hf := kif_t c2 hf
      refine lv_iconst (v := (0 : Int32)) hx hb dX6_isCutBy_17 (by decide) ?_
      obtain rfl := Option.some.inj hf
      exact kret_z false rfl C0 hr hlk hP hS dX6_isCutBy_18
    · have hf := kif_f c2 hf
      refine lv_iconst (v := (1 : Int32)) hx hb dX6_isCutBy_13 (by decide) ?_
      refine lv_goto (tgt := 18) hx hb dX6_isCutBy_14 (by decide) ?_
      obtain rfl := Option.some.inj hf
      exact kret_z true rfl C0 hr hlk hP hS dX6_isCutBy_18
set_option maxHeartbeats 4000000 in
set_option maxRecDepth 100000 in
theorem cX0_cutsBy_c {l : Launch} {D : va_G} {cI cS : ClassId} {a : Nat → Nat} (hap : kAp a 29) {h : Nat} (hh : h < 2) {v : kV} {ar : kR} {p1 : Int32} {r : Int32} (hf : fX0_cutsBy h v ar p1 = some r) : kMet l D cI cS (xW cI cS a) (kA a 29) yX0_cutsBy cX0_cutsBy 4 (some .int) 1 22 [.ref (a (2+h)), .int p1] v ar (some (.int r)) v ar := by
  refine kstart (by decide) (Nat.le_of_ble_eq_true rfl) ?_
  intro p e s m args below meth c ls C0 hr hlk hl hP hS
  have C0 : kC p s m c args cX0_cutsBy 4 RX0 D cI cS := C0
  have hx := C0.1.1
  have hb := C0.1.2.1
  have hl : lv_has ls 4 [(0, .ref (a (2+h))), (1, .int p1)] := hl
  have hB28 : ∀ (rec4 : Int32 → Int32 → Option Int32) (hrec4 : ∀ (x2 : Int32) (x3 : Int32) (H : Heap) (locs : List Loc) (ls : Array Slot), rec4 x2 x3 = some r → va_P D vwCl (xW cI cS a v ar) H → va_S (kA a 29) s.heap H locs → lv_has ls 4 [(0, .ref (a (2+h))), (1, .int p1), (2, .int x2), (3, .int x3)] → kGo p l e 1 22 s m args below meth c D (xW cI cS a) (kA a 29) (some (.int r)) v ar H locs (F0 m 4 ls [])) , ∀ (x2 : Int32) (x3 : Int32) (H : Heap) (locs : List Loc) (ls : Array Slot), fX0_cutsBy_28 h v ar p1 rec4 x2 x3 = some r → va_P D vwCl (xW cI cS a v ar) H → va_S (kA a 29) s.heap H locs → lv_has ls 4 [(0, .ref (a (2+h))), (1, .int p1), (2, .int x2), (3, .int x3)] → kGo p l e 1 22 s m args below meth c D (xW cI cS a) (kA a 29) (some (.int r)) v ar H locs (F0 m 28 ls []) := by
    intro rec4 hrec4 x2 x3 H locs ls hf hP hS hl
    unfold fX0_cutsBy_28 at hf
    refine lv_iinc (v := (x3 + (1 : Int32))) (lv' := [(3, .int (x3 + (1 : Int32))), (0, .ref (a (2+h))), (1, .int p1), (2, .int x2)]) hx hb dX0_cutsBy_28 hl (k := 3) rfl rfl (by decide) rfl (fun ls hl => ?_)
    refine lv_goto (tgt := 4) hx hb dX0_cutsBy_31 (by decide) ?_
    exact hrec4 _ _ _ _ _ hf hP hS (lv_sub hl [1, 2, 3, 0] rfl)
  have hB4 : ∀ (n : Nat), ∀ (x2 : Int32) (x3 : Int32) (H : Heap) (locs : List Loc) (ls : Array Slot), fX0_cutsBy_4 h v ar p1 n x2 x3 = some r → va_P D vwCl (xW cI cS a v ar) H → va_S (kA a 29) s.heap H locs → lv_has ls 4 [(0, .ref (a (2+h))), (1, .int p1), (2, .int x2), (3, .int x3)] → kGo p l e 1 22 s m args below meth c D (xW cI cS a) (kA a 29) (some (.int r)) v ar H locs (F0 m 4 ls []) := by
    intro  n
    induction n with
    | zero =>
      intro x2 x3 H locs ls hf
      have hf : (none : Option Int32) = some r := hf
      cases hf
    | succ n ih =>
      intro x2 x3 H locs ls hf hP hS hl
      have hf : fX0_cutsBy_4b h v ar p1 (fX0_cutsBy_4 h v ar p1 n) x2 x3 = some r := hf
      unfold fX0_cutsBy_4b at hf
      refine lv_iload_n hx hb dX0_cutsBy_4 rfl (lv_at hl 3 rfl) ?_
      refine lv_aload_n hx hb dX0_cutsBy_5 rfl (lv_at hl 0 rfl) ?_
      refine xg_H_1 C0 hh hP q_33 dX0_cutsBy_6 ?_
      refine lv_icmp_ge (tgt := 34) hx hb dX0_cutsBy_9 (by decide) (fun c1 => ?_) (fun c1 => ?_)
      · have hf := kif_t c1 hf
        refine lv_iload_n hx hb dX0_cutsBy_34 rfl (lv_at hl 2 rfl) ?_
        obtain rfl := Option.some.inj hf
        exact kret_i C0 hr hlk hP hS dX0_cutsBy_35
      · have hf := kif_f c1 hf
        refine lv_aload_n hx hb dX0_cutsBy_12 rfl (lv_at hl 0 rfl) ?_
        refine xg_H_8 C0 hh hP q_52 dX0_cutsBy_13 ?_
        refine lv_iload_n hx hb dX0_cutsBy_16 rfl (lv_at hl 3 rfl) ?_
        obtain ⟨g2, hf⟩ := kgd hf
        refine xl_net C0 hh hP g2 dX0_cutsBy_17 ?_
        refine lv_iload_n hx hb dX0_cutsBy_18 rfl (lv_at hl 1 rfl) ?_
        obtain ⟨r4, e3, hf⟩ := kb1_s hf
        refine kcallN (As := [.int (ar (4*h+3) x3.toNatClampNeg), .int p1]) (rest := []) C0 (cX6_isCutBy_c hap e3) C0.2.2.2 kw_X6_isCutBy hP hS ⟨Nat.le_of_ble_eq_true rfl, Nat.le_of_ble_eq_true rfl⟩ rfl hl.1 rfl (Nat.le_of_ble_eq_true rfl) dX0_cutsBy_19 (fun H locs hP hS => ?_)
        refine lv_if_eq (tgt := 28) hx hb dX0_cutsBy_22 (by decide) (fun c5 => ?_) (fun c5 => ?_)
        · have hf := kif_t c5 hf
          exact hB28 _ ih _ _ _ _ _ hf hP hS (lv_sub hl [0, 1, 2, 3] rfl)
        · have hf := kif_f c5 hf
          refine lv_iinc (v := (x2 + (1 : Int32))) (lv' := [(2, .int (x2 + (1 : Int32))), (0, .ref (a (2+h))), (1, .int p1), (3, .int x3)]) hx hb dX0_cutsBy_25 hl (k := 2) rfl rfl (by decide) rfl (fun ls hl => ?_)
          exact hB28 _ ih _ _ _ _ _ hf hP hS (lv_sub hl [1, 2, 0, 3] rfl)
  unfold fX0_cutsBy at hf
  refine lv_iconst (v := (0 : Int32)) hx hb dX0_cutsBy_0 (by decide) ?_
  refine lv_istore_n (lv' := [(2, .int (0 : Int32)), (0, .ref (a (2+h))), (1, .int p1)]) hx hb dX0_cutsBy_1 rfl hl (by decide) rfl (fun ls hl => ?_)
  refine lv_iconst (v := (0 : Int32)) hx hb dX0_cutsBy_2 (by decide) ?_
  refine lv_istore_n (lv' := [(3, .int (0 : Int32)), (2, .int (0 : Int32)), (0, .ref (a (2+h))), (1, .int p1)]) hx hb dX0_cutsBy_3 rfl hl (by decide) rfl (fun ls hl => ?_)
  exact hB4 _ _ _ _ _ _ hf hP hS (lv_sub hl [2, 3, 1, 0] rfl)
set_option maxHeartbeats 4000000 in
set_option maxRecDepth 100000 in
theorem cX0_gain_c {l : Launch} {D : va_G} {cI cS : ClassId} {a : Nat → Nat} (hap : kAp a 29) {h : Nat} (hh : h < 2) {v : kV} {ar : kR} {p1 : Int32} {r : Int32} (hf : fX0_gain h v ar p1 = some r) : kMet l D cI cS (xW cI cS a) (kA a 29) yX0_gain cX0_gain 2 (some .int) 2 45 [.ref (a (2+h)), .int p1] v ar (some (.int r)) v ar := by
  refine kstart (by decide) (Nat.le_of_ble_eq_true rfl) ?_
  intro p e s m args below meth c ls C0 hr hlk hl hP hS
  have C0 : kC p s m c args cX0_gain 2 RX0 D cI cS := C0
  have hx := C0.1.1
  have hb := C0.1.2.1
  have hl : lv_has ls 2 [(0, .ref (a (2+h))), (1, .int p1)] := hl
  unfold fX0_gain at hf
  refine lv_aload_n hx hb dX0_gain_0 rfl (lv_at hl 0 rfl) ?_
  refine lv_aload_n hx hb dX0_gain_1 rfl (lv_at hl 0 rfl) ?_
  refine xg_H_2 C0 hh hP q_36 dX0_gain_2 ?_
  obtain ⟨r2, e1, hf⟩ := kb1_s hf
  refine kcallV (As := [.int (v (2+5*h+2))]) (rest := []) C0 (cX0_cutsBy_c hap hh e1) q_298 kw_X0_cutsBy (xv_H hh C0.2 hP) hP hS ⟨Nat.le_of_ble_eq_true rfl, Nat.le_of_ble_eq_true rfl⟩ rfl hl.1 rfl (Nat.le_of_ble_eq_true rfl) dX0_gain_5 (fun H locs hP hS => ?_)
  refine lv_aload_n hx hb dX0_gain_8 rfl (lv_at hl 0 rfl) ?_
  refine lv_aload_n hx hb dX0_gain_9 rfl (lv_at hl 0 rfl) ?_
  refine xg_H_2 C0 hh hP q_36 dX0_gain_10 ?_
  refine lv_iconst (v := (1 : Int32)) hx hb dX0_gain_13 (by decide) ?_
  refine lv_iload_n hx hb dX0_gain_14 rfl (lv_at hl 1 rfl) ?_
  refine lv_ishl hx hb dX0_gain_15 ?_
  refine lv_ixor hx hb dX0_gain_16 ?_
  obtain ⟨r4, e3, hf⟩ := kb1_s hf
  refine kcallV (As := [.int ((v (2+5*h+2)) ^^^ ((1 : Int32) <<< (p1 &&& 31)))]) (rest := [.int r2]) C0 (cX0_cutsBy_c hap hh e3) q_298 kw_X0_cutsBy (xv_H hh C0.2 hP) hP hS ⟨Nat.le_of_ble_eq_true rfl, Nat.le_of_ble_eq_true rfl⟩ rfl hl.1 rfl (Nat.le_of_ble_eq_true rfl) dX0_gain_17 (fun H locs hP hS => ?_)
  refine lv_isub hx hb dX0_gain_20 ?_
  obtain rfl := Option.some.inj hf
  exact kret_i C0 hr hlk hP hS dX0_gain_21
set_option maxHeartbeats 4000000 in
set_option maxRecDepth 100000 in
theorem cX0_weightOf_c {l : Launch} {D : va_G} {cI cS : ClassId} {a : Nat → Nat} (hap : kAp a 29) {h : Nat} (hh : h < 2) {v : kV} {ar : kR} {p1 : Int32} {r : Int32} (hf : fX0_weightOf h v ar p1 = some r) : kMet l D cI cS (xW cI cS a) (kA a 29) yX0_weightOf cX0_weightOf 4 (some .int) 0 0 [.ref (a (2+h)), .int p1] v ar (some (.int r)) v ar := by
  refine kstart (by decide) (Nat.le_of_ble_eq_true rfl) ?_
  intro p e s m args below meth c ls C0 hr hlk hl hP hS
  have C0 : kC p s m c args cX0_weightOf 4 RX0 D cI cS := C0
  have hx := C0.1.1
  have hb := C0.1.2.1
  have hl : lv_has ls 4 [(0, .ref (a (2+h))), (1, .int p1)] := hl
  have hB30 : ∀ (rec4 : Int32 → Int32 → Option Int32) (hrec4 : ∀ (x2 : Int32) (x3 : Int32) (H : Heap) (locs : List Loc) (ls : Array Slot), rec4 x2 x3 = some r → va_P D vwCl (xW cI cS a v ar) H → va_S (kA a 29) s.heap H locs → lv_has ls 4 [(0, .ref (a (2+h))), (1, .int p1), (2, .int x2), (3, .int x3)] → kGo p l e 0 0 s m args below meth c D (xW cI cS a) (kA a 29) (some (.int r)) v ar H locs (F0 m 4 ls [])) , ∀ (x2 : Int32) (x3 : Int32) (H : Heap) (locs : List Loc) (ls : Array Slot), fX0_weightOf_30 h v ar p1 rec4 x2 x3 = some r → va_P D vwCl (xW cI cS a v ar) H → va_S (kA a 29) s.heap H locs → lv_has ls 4 [(0, .ref (a (2+h))), (1, .int p1), (2, .int x2), (3, .int x3)] → kGo p l e 0 0 s m args below meth c D (xW cI cS a) (kA a 29) (some (.int r)) v ar H locs (F0 m 30 ls []) := by
    intro rec4 hrec4 x2 x3 H locs ls hf hP hS hl
    unfold fX0_weightOf_30 at hf
    refine lv_iinc (v := (x3 + (1 : Int32))) (lv' := [(3, .int (x3 + (1 : Int32))), (0, .ref (a (2+h))), (1, .int p1), (2, .int x2)]) hx hb dX0_weightOf_30 hl (k := 3) rfl rfl (by decide) rfl (fun ls hl => ?_)
    refine lv_goto (tgt := 4) hx hb dX0_weightOf_33 (by decide) ?_
    exact hrec4 _ _ _ _ _ hf hP hS (lv_sub hl [1, 2, 3, 0] rfl)
  have hB4 : ∀ (n : Nat), ∀ (x2 : Int32) (x3 : Int32) (H : Heap) (locs : List Loc) (ls : Array Slot), fX0_weightOf_4 h v ar p1 n x2 x3 = some r → va_P D vwCl (xW cI cS a v ar) H → va_S (kA a 29) s.heap H locs → lv_has ls 4 [(0, .ref (a (2+h))), (1, .int p1), (2, .int x2), (3, .int x3)] → kGo p l e 0 0 s m args below meth c D (xW cI cS a) (kA a 29) (some (.int r)) v ar H locs (F0 m 4 ls []) := by
    intro  n
    induction n with
    | zero =>
      intro x2 x3 H locs ls hf
      have hf : (none : Option Int32) = some r := hf
      cases hf
    | succ n ih =>
      intro x2 x3 H locs ls hf hP hS hl
      have hf : fX0_weightOf_4b h v ar p1 (fX0_weightOf_4 h v ar p1 n) x2 x3 = some r := hf
      unfold fX0_weightOf_4b at hf
      refine lv_iload_n hx hb dX0_weightOf_4 rfl (lv_at hl 3 rfl) ?_
      refine lv_aload_n hx hb dX0_weightOf_5 rfl (lv_at hl 0 rfl) ?_
      refine xg_H_0 C0 hh hP q_29 dX0_weightOf_6 ?_
      refine lv_icmp_ge (tgt := 36) hx hb dX0_weightOf_9 (by decide) (fun c1 => ?_) (fun c1 => ?_)
      · have hf := kif_t c1 hf
        refine lv_iload_n hx hb dX0_weightOf_36 rfl (lv_at hl 2 rfl) ?_
        obtain rfl := Option.some.inj hf
        exact kret_i C0 hr hlk hP hS dX0_weightOf_37
      · have hf := kif_f c1 hf
        refine lv_iload_n hx hb dX0_weightOf_12 rfl (lv_at hl 1 rfl) ?_
        refine lv_iload_n hx hb dX0_weightOf_13 rfl (lv_at hl 3 rfl) ?_
        refine lv_ishr hx hb dX0_weightOf_14 ?_
        refine lv_iconst (v := (1 : Int32)) hx hb dX0_weightOf_15 (by decide) ?_
        refine lv_iand hx hb dX0_weightOf_16 ?_
        refine lv_iconst (v := (1 : Int32)) hx hb dX0_weightOf_17 (by decide) ?_
        refine lv_icmp_ne (tgt := 30) hx hb dX0_weightOf_18 (by decide) (fun c2 => ?_) (fun c2 => ?_)
        · have hf := kif_f c2 hf
          exact hB30 _ ih _ _ _ _ _ hf hP hS (lv_sub hl [0, 1, 2, 3] rfl)
        · have hf := kif_t c2 hf
          refine lv_iload_n hx hb dX0_weightOf_21 rfl (lv_at hl 2 rfl) ?_
          refine lv_aload_n hx hb dX0_weightOf_22 rfl (lv_at hl 0 rfl) ?_
          refine xg_H_7 C0 hh hP q_49 dX0_weightOf_23 ?_
          refine lv_iload_n hx hb dX0_weightOf_26 rfl (lv_at hl 3 rfl) ?_
          obtain ⟨g3, hf⟩ := kgd hf
          refine xl_weight C0 hh hP g3 dX0_weightOf_27 ?_
          refine lv_iadd hx hb dX0_weightOf_28 ?_
          refine lv_istore_n (lv' := [(2, .int (x2 + (ar (4*h+2) x3.toNatClampNeg))), (0, .ref (a (2+h))), (1, .int p1), (3, .int x3)]) hx hb dX0_weightOf_29 rfl hl (by decide) rfl (fun ls hl => ?_)
          exact hB30 _ ih _ _ _ _ _ hf hP hS (lv_sub hl [1, 2, 0, 3] rfl)
  unfold fX0_weightOf at hf
  refine lv_iconst (v := (0 : Int32)) hx hb dX0_weightOf_0 (by decide) ?_
  refine lv_istore_n (lv' := [(2, .int (0 : Int32)), (0, .ref (a (2+h))), (1, .int p1)]) hx hb dX0_weightOf_1 rfl hl (by decide) rfl (fun ls hl => ?_)
  refine lv_iconst (v := (0 : Int32)) hx hb dX0_weightOf_2 (by decide) ?_
  refine lv_istore_n (lv' := [(3, .int (0 : Int32)), (2, .int (0 : Int32)), (0, .ref (a (2+h))), (1, .int p1)]) hx hb dX0_weightOf_3 rfl hl (by decide) rfl (fun ls hl => ?_)
  exact hB4 _ _ _ _ _ _ hf hP hS (lv_sub hl [2, 3, 1, 0] rfl)
set_option maxHeartbeats 4000000 in
set_option maxRecDepth 100000 in
theorem cX0_all_c {l : Launch} {D : va_G} {cI cS : ClassId} {a : Nat → Nat} (hap : kAp a 29) {h : Nat} (hh : h < 2) {v : kV} {ar : kR} {r : Int32} (hf : fX0_all h v ar = some r) : kMet l D cI cS (xW cI cS a) (kA a 29) yX0_all cX0_all 1 (some .int) 0 0 [.ref (a (2+h))] v ar (some (.int r)) v ar := by
  refine kstart (by decide) (Nat.le_of_ble_eq_true rfl) ?_
  intro p e s m args below meth c ls C0 hr hlk hl hP hS
  have C0 : kC p s m c args cX0_all 1 RX0 D cI cS := C0
  have hx := C0.1.1
  have hb := C0.1.2.1
  have hl : lv_has ls 1 [(0, .ref (a (2+h)))] := hl
  unfold fX0_all at hf
  refine lv_iconst (v := (1 : Int32)) hx hb dX0_all_0 (by decide) ?_
  refine lv_aload_n hx hb dX0_all_1 rfl (lv_at hl 0 rfl) ?_
  refine xg_H_0 C0 hh hP q_29 dX0_all_2 ?_
  refine lv_ishl hx hb dX0_all_5 ?_
  refine lv_iconst (v := (1 : Int32)) hx hb dX0_all_6 (by decide) ?_
  refine lv_isub hx hb dX0_all_7 ?_
  obtain rfl := Option.some.inj hf
  exact kret_i C0 hr hlk hP hS dX0_all_8
set_option maxHeartbeats 4000000 in
set_option maxRecDepth 100000 in
theorem cX6_floatBits_c {l : Launch} {D : va_G} {cI cS : ClassId} {a : Nat → Nat} (hap : kAp a 29) {v : kV} {ar : kR} {p0 : Int32} {p1 : Int32} {r : Int32} (hf : fX6_floatBits p0 p1 = some r) : kMet l D cI cS (xW cI cS a) (kA a 29) yX6_floatBits cX6_floatBits 9 (some .int) 0 0 [.int p0, .int p1] v ar (some (.int r)) v ar := by
  refine kstart (by decide) (Nat.le_of_ble_eq_true rfl) ?_
  intro p e s m args below meth c ls C0 hr hlk hl hP hS
  have C0 : kC p s m c args cX6_floatBits 9 RX6 D cI cS := C0
  have hx := C0.1.1
  have hb := C0.1.2.1
  have hl : lv_has ls 9 [(0, .int p0), (1, .int p1)] := hl
  have hB103 : ∀ (x4 : Int32) (x5 : Int64) (H : Heap) (locs : List Loc) (ls : Array Slot), fX6_floatBits_103 p0 p1 x4 x5 = some r → va_P D vwCl (xW cI cS a v ar) H → va_S (kA a 29) s.heap H locs → lv_has ls 9 [(4, .int x4), (5, .long x5)] → kGo p l e 0 0 s m args below meth c D (xW cI cS a) (kA a 29) (some (.int r)) v ar H locs (F0 m 103 ls []) := by
    intro  x4 x5 H locs ls hf hP hS hl
    unfold fX6_floatBits_103 at hf
    refine lv_iload hx hb dX6_floatBits_103 (lv_at hl 0 rfl) ?_
    refine lv_iconst (v := (1 : Int32)) hx hb dX6_floatBits_105 (by decide) ?_
    refine lv_isub hx hb dX6_floatBits_106 ?_
    refine lv_i2l (v := ((x4 - (1 : Int32)).toInt64)) hx hb dX6_floatBits_107 rfl ?_
    refine lv_bipush (v := (23 : Int32)) hx hb dX6_floatBits_108 (by decide) ?_
    refine lv_lshl (v := (((x4 - (1 : Int32)).toInt64) <<< ((23 : Int32).toInt64 &&& 63))) hx hb dX6_floatBits_110 rfl ?_
    refine lv_lload hx hb dX6_floatBits_111 (lv_at hl 1 rfl) ?_
    refine lv_ladd hx hb dX6_floatBits_113 ?_
    refine lv_l2i (v := (((((x4 - (1 : Int32)).toInt64) <<< ((23 : Int32).toInt64 &&& 63)) + x5).toInt32)) hx hb dX6_floatBits_114 rfl ?_
    obtain rfl := Option.some.inj hf
    exact kret_i C0 hr hlk hP hS dX6_floatBits_115
  have hB97 : ∀ (x4 : Int32) (x5 : Int64) (H : Heap) (locs : List Loc) (ls : Array Slot), fX6_floatBits_97 p0 p1 x4 x5 = some r → va_P D vwCl (xW cI cS a v ar) H → va_S (kA a 29) s.heap H locs → lv_has ls 9 [(4, .int x4), (5, .long x5)] → kGo p l e 0 0 s m args below meth c D (xW cI cS a) (kA a 29) (some (.int r)) v ar H locs (F0 m 97 ls []) := by
    intro  x4 x5 H locs ls hf hP hS hl
    unfold fX6_floatBits_97 at hf
    refine lv_lload hx hb dX6_floatBits_97 (lv_at hl 1 rfl) ?_
    refine lv_lconst (v := (1 : Int64)) hx hb dX6_floatBits_99 (by decide) ?_
    refine lv_ladd hx hb dX6_floatBits_100 ?_
    refine lv_lstore (lv' := [(5, .long (x5 + (1 : Int64))), (4, .int x4)]) hx hb dX6_floatBits_101 hl (by decide) rfl (fun ls hl => ?_)
    exact hB103 _ _ _ _ _ hf hP hS (lv_sub hl [1, 0] rfl)
  have hB49 : ∀ (x2 : Int64) (x4 : Int32) (H : Heap) (locs : List Loc) (ls : Array Slot), fX6_floatBits_49 p0 p1 x2 x4 = some r → va_P D vwCl (xW cI cS a v ar) H → va_S (kA a 29) s.heap H locs → lv_has ls 9 [(1, .int p1), (2, .long x2), (4, .int x4)] → kGo p l e 0 0 s m args below meth c D (xW cI cS a) (kA a 29) (some (.int r)) v ar H locs (F0 m 49 ls []) := by
    intro  x2 x4 H locs ls hf hP hS hl
    unfold fX6_floatBits_49 at hf
    refine lv_lload_n hx hb dX6_floatBits_49 rfl (lv_at hl 1 rfl) ?_
    refine lv_bipush (v := (23 : Int32)) hx hb dX6_floatBits_50 (by decide) ?_
    refine lv_lshl (v := (x2 <<< ((23 : Int32).toInt64 &&& 63))) hx hb dX6_floatBits_52 rfl ?_
    refine lv_lstore_n (lv' := [(2, .long (x2 <<< ((23 : Int32).toInt64 &&& 63))), (1, .int p1), (4, .int x4)]) hx hb dX6_floatBits_53 rfl hl (by decide) rfl (fun ls hl => ?_)
    refine lv_lload_n hx hb dX6_floatBits_54 rfl (lv_at hl 0 rfl) ?_
    refine lv_iload_n hx hb dX6_floatBits_55 rfl (lv_at hl 1 rfl) ?_
    refine lv_i2l (v := (p1.toInt64)) hx hb dX6_floatBits_56 rfl ?_
    obtain ⟨g4, hf⟩ := kgd hf
    refine lv_ldiv hx hb dX6_floatBits_57 g4 ?_
    refine lv_lstore (lv' := [(5, .long ((x2 <<< ((23 : Int32).toInt64 &&& 63)) / (p1.toInt64))), (2, .long (x2 <<< ((23 : Int32).toInt64 &&& 63))), (1, .int p1), (4, .int x4)]) hx hb dX6_floatBits_58 hl (by decide) rfl (fun ls hl => ?_)
    refine lv_ldc2 (v := (2 : Int64)) hx hb C0.1.2.2.2.1 (C0.1.2.2.2.2 _ q_320) dX6_floatBits_60 ?_
    refine lv_lload_n hx hb dX6_floatBits_63 rfl (lv_at hl 1 rfl) ?_
    refine lv_iload_n hx hb dX6_floatBits_64 rfl (lv_at hl 2 rfl) ?_
    refine lv_i2l (v := (p1.toInt64)) hx hb dX6_floatBits_65 rfl ?_
    obtain ⟨g5, hf⟩ := kgd hf
    refine lv_lrem hx hb dX6_floatBits_66 g5 ?_
    refine lv_lmul hx hb dX6_floatBits_67 ?_
    refine lv_lstore (lv' := [(7, .long ((2 : Int64) * ((x2 <<< ((23 : Int32).toInt64 &&& 63)) - (x2 <<< ((23 : Int32).toInt64 &&& 63)) / (p1.toInt64) * (p1.toInt64)))), (5, .long ((x2 <<< ((23 : Int32).toInt64 &&& 63)) / (p1.toInt64))), (2, .long (x2 <<< ((23 : Int32).toInt64 &&& 63))), (1, .int p1), (4, .int x4)]) hx hb dX6_floatBits_68 hl (by decide) rfl (fun ls hl => ?_)
    refine lv_lload hx hb dX6_floatBits_70 (lv_at hl 0 rfl) ?_
    refine lv_iload_n hx hb dX6_floatBits_72 rfl (lv_at hl 3 rfl) ?_
    refine lv_i2l (v := (p1.toInt64)) hx hb dX6_floatBits_73 rfl ?_
    refine W.lcmp hx hb dX6_floatBits_74 ?_
    refine lv_if_gt (tgt := 97) hx hb dX6_floatBits_75 (by decide) (fun c6 => ?_) (fun c6 => ?_)
    · have hf := kif_t c6 hf
      exact hB97 _ _ _ _ _ hf hP hS (lv_sub hl [4, 1] rfl)
    · have hf := kif_f c6 hf
      refine lv_lload hx hb dX6_floatBits_78 (lv_at hl 0 rfl) ?_
      refine lv_iload_n hx hb dX6_floatBits_80 rfl (lv_at hl 3 rfl) ?_
      refine lv_i2l (v := (p1.toInt64)) hx hb dX6_floatBits_81 rfl ?_
      refine W.lcmp hx hb dX6_floatBits_82 ?_
      refine lv_if_ne (tgt := 103) hx hb dX6_floatBits_83 (by decide) (fun c7 => ?_) (fun c7 => ?_)
      · have hf := kif_f c7 hf
        exact hB103 _ _ _ _ _ hf hP hS (lv_sub hl [4, 1] rfl)
      · have hf := kif_t c7 hf
        refine lv_lload hx hb dX6_floatBits_86 (lv_at hl 1 rfl) ?_
        refine lv_ldc2 (v := (2 : Int64)) hx hb C0.1.2.2.2.1 (C0.1.2.2.2.2 _ q_320) dX6_floatBits_88 ?_
        obtain ⟨g8, hf⟩ := kgd hf
        refine lv_lrem hx hb dX6_floatBits_91 g8 ?_
        refine lv_lconst (v := (1 : Int64)) hx hb dX6_floatBits_92 (by decide) ?_
        refine W.lcmp hx hb dX6_floatBits_93 ?_
        refine lv_if_ne (tgt := 103) hx hb dX6_floatBits_94 (by decide) (fun c9 => ?_) (fun c9 => ?_)
        · have hf := kif_f c9 hf
          exact hB103 _ _ _ _ _ hf hP hS (lv_sub hl [4, 1] rfl)
        · have hf := kif_t c9 hf
          exact hB97 _ _ _ _ _ hf hP hS (lv_sub hl [4, 1] rfl)
  have hB20 : ∀ (n : Nat), ∀ (x2 : Int64) (x4 : Int32) (x5 : Int32) (H : Heap) (locs : List Loc) (ls : Array Slot), fX6_floatBits_20 p0 p1 n x2 x4 x5 = some r → va_P D vwCl (xW cI cS a v ar) H → va_S (kA a 29) s.heap H locs → lv_has ls 9 [(1, .int p1), (2, .long x2), (4, .int x4), (5, .int x5)] → kGo p l e 0 0 s m args below meth c D (xW cI cS a) (kA a 29) (some (.int r)) v ar H locs (F0 m 20 ls []) := by
    intro  n
    induction n with
    | zero =>
      intro x2 x4 x5 H locs ls hf
      have hf : (none : Option Int32) = some r := hf
      cases hf
    | succ n ih =>
      intro x2 x4 x5 H locs ls hf hP hS hl
      have hf : fX6_floatBits_20b p0 p1 (fX6_floatBits_20 p0 p1 n) x2 x4 x5 = some r := hf
      unfold fX6_floatBits_20b at hf
      refine lv_iload hx hb dX6_floatBits_20 (lv_at hl 3 rfl) ?_
      refine lv_bipush (v := (31 : Int32)) hx hb dX6_floatBits_22 (by decide) ?_
      refine lv_icmp_ge (tgt := 49) hx hb dX6_floatBits_24 (by decide) (fun c3 => ?_) (fun c3 => ?_)
      · have hf := kif_t c3 hf
        exact hB49 _ _ _ _ _ hf hP hS (lv_sub hl [0, 1, 2] rfl)
      · have hf := kif_f c3 hf
        refine lv_lload_n hx hb dX6_floatBits_27 rfl (lv_at hl 1 rfl) ?_
        refine lv_iload_n hx hb dX6_floatBits_28 rfl (lv_at hl 0 rfl) ?_
        refine lv_i2l (v := (p1.toInt64)) hx hb dX6_floatBits_29 rfl ?_
        refine W.lcmp hx hb dX6_floatBits_30 ?_
        refine lv_if_ge (tgt := 49) hx hb dX6_floatBits_31 (by decide) (fun c10 => ?_) (fun c10 => ?_)
        · have hf := kif_t c10 hf
          exact hB49 _ _ _ _ _ hf hP hS (lv_sub hl [0, 1, 2] rfl)
        · have hf := kif_f c10 hf
          refine lv_lload_n hx hb dX6_floatBits_34 rfl (lv_at hl 1 rfl) ?_
          refine lv_ldc2 (v := (2 : Int64)) hx hb C0.1.2.2.2.1 (C0.1.2.2.2.2 _ q_320) dX6_floatBits_35 ?_
          refine lv_lmul hx hb dX6_floatBits_38 ?_
          refine lv_lstore_n (lv' := [(2, .long (x2 * (2 : Int64))), (1, .int p1), (4, .int x4), (5, .int x5)]) hx hb dX6_floatBits_39 rfl hl (by decide) rfl (fun ls hl => ?_)
          refine lv_iinc (v := (x4 + (-1 : Int32))) (lv' := [(4, .int (x4 + (-1 : Int32))), (2, .long (x2 * (2 : Int64))), (1, .int p1), (5, .int x5)]) hx hb dX6_floatBits_40 hl (k := 2) rfl rfl (by decide) rfl (fun ls hl => ?_)
          refine lv_iinc (v := (x5 + (1 : Int32))) (lv' := [(5, .int (x5 + (1 : Int32))), (4, .int (x4 + (-1 : Int32))), (2, .long (x2 * (2 : Int64))), (1, .int p1)]) hx hb dX6_floatBits_43 hl (k := 3) rfl rfl (by decide) rfl (fun ls hl => ?_)
          refine lv_goto (tgt := 20) hx hb dX6_floatBits_46 (by decide) ?_
          exact ih _ _ _ _ _ _ hf hP hS (lv_sub hl [3, 2, 1, 0] rfl)
  unfold fX6_floatBits at hf
  refine lv_iload_n hx hb dX6_floatBits_0 rfl (lv_at hl 0 rfl) ?_
  refine lv_if_le (tgt := 8) hx hb dX6_floatBits_1 (by decide) (fun c1 => ?_) (fun c1 => ?_)
  · have hf := kif_t c1 hf
    refine lv_iconst (v := (0 : Int32)) hx hb dX6_floatBits_8 (by decide) ?_
    obtain rfl := Option.some.inj hf
    exact kret_i C0 hr hlk hP hS dX6_floatBits_9
  · have hf := kif_f c1 hf
    refine lv_iload_n hx hb dX6_floatBits_4 rfl (lv_at hl 1 rfl) ?_
    refine lv_if_gt (tgt := 10) hx hb dX6_floatBits_5 (by decide) (fun c2 => ?_) (fun c2 => ?_)
    · have hf := kif_t c2 hf
      refine lv_iload_n hx hb dX6_floatBits_10 rfl (lv_at hl 0 rfl) ?_
      refine lv_i2l (v := (p0.toInt64)) hx hb dX6_floatBits_11 rfl ?_
      refine lv_lstore_n (lv' := [(2, .long (p0.toInt64)), (0, .int p0), (1, .int p1)]) hx hb dX6_floatBits_12 rfl hl (by decide) rfl (fun ls hl => ?_)
      refine lv_bipush (v := (127 : Int32)) hx hb dX6_floatBits_13 (by decide) ?_
      refine lv_istore (lv' := [(4, .int (127 : Int32)), (2, .long (p0.toInt64)), (0, .int p0), (1, .int p1)]) hx hb dX6_floatBits_15 hl (by decide) rfl (fun ls hl => ?_)
      refine lv_iconst (v := (0 : Int32)) hx hb dX6_floatBits_17 (by decide) ?_
      refine lv_istore (lv' := [(5, .int (0 : Int32)), (4, .int (127 : Int32)), (2, .long (p0.toInt64)), (0, .int p0), (1, .int p1)]) hx hb dX6_floatBits_18 hl (by decide) rfl (fun ls hl => ?_)
      exact hB20 _ _ _ _ _ _ _ hf hP hS (lv_sub hl [4, 2, 1, 0] rfl)
    · have hf := kif_f c2 hf
      refine lv_iconst (v := (0 : Int32)) hx hb dX6_floatBits_8 (by decide) ?_
      obtain rfl := Option.some.inj hf
      exact kret_i C0 hr hlk hP hS dX6_floatBits_9
set_option maxHeartbeats 4000000 in
set_option maxRecDepth 100000 in
theorem cX0_shareOf_c {l : Launch} {D : va_G} {cI cS : ClassId} {a : Nat → Nat} (hap : kAp a 29) {h : Nat} (hh : h < 2) {v : kV} {ar : kR} {p1 : Int32} {r : Int32} (hf : fX0_shareOf h v ar p1 = some r) : kMet l D cI cS (xW cI cS a) (kA a 29) yX0_shareOf cX0_shareOf 2 (some .int) 1 28 [.ref (a (2+h)), .int p1] v ar (some (.int r)) v ar := by
  refine kstart (by decide) (Nat.le_of_ble_eq_true rfl) ?_
  intro p e s m args below meth c ls C0 hr hlk hl hP hS
  have C0 : kC p s m c args cX0_shareOf 2 RX0 D cI cS := C0
  have hx := C0.1.1
  have hb := C0.1.2.1
  have hl : lv_has ls 2 [(0, .ref (a (2+h))), (1, .int p1)] := hl
  unfold fX0_shareOf at hf
  refine lv_aload_n hx hb dX0_shareOf_0 rfl (lv_at hl 0 rfl) ?_
  refine lv_iload_n hx hb dX0_shareOf_1 rfl (lv_at hl 1 rfl) ?_
  obtain ⟨r2, e1, hf⟩ := kb1_s hf
  refine kcallV (As := [.int p1]) (rest := []) C0 (cX0_weightOf_c hap hh e1) q_309 kw_X0_weightOf (xv_H hh C0.2 hP) hP hS ⟨Nat.le_of_ble_eq_true rfl, Nat.le_of_ble_eq_true rfl⟩ rfl hl.1 rfl (Nat.le_of_ble_eq_true rfl) dX0_shareOf_2 (fun H locs hP hS => ?_)
  refine lv_aload_n hx hb dX0_shareOf_5 rfl (lv_at hl 0 rfl) ?_
  refine lv_aload_n hx hb dX0_shareOf_6 rfl (lv_at hl 0 rfl) ?_
  obtain ⟨r4, e3, hf⟩ := kb1_s hf
  refine kcallV (As := []) (rest := [.ref (a (2+h)), .int r2]) C0 (cX0_all_c hap hh e3) q_313 kw_X0_all (xv_H hh C0.2 hP) hP hS ⟨Nat.le_of_ble_eq_true rfl, Nat.le_of_ble_eq_true rfl⟩ rfl hl.1 rfl (Nat.le_of_ble_eq_true rfl) dX0_shareOf_7 (fun H locs hP hS => ?_)
  obtain ⟨r6, e5, hf⟩ := kb1_s hf
  refine kcallV (As := [.int r4]) (rest := [.int r2]) C0 (cX0_weightOf_c hap hh e5) q_309 kw_X0_weightOf (xv_H hh C0.2 hP) hP hS ⟨Nat.le_of_ble_eq_true rfl, Nat.le_of_ble_eq_true rfl⟩ rfl hl.1 rfl (Nat.le_of_ble_eq_true rfl) dX0_shareOf_10 (fun H locs hP hS => ?_)
  obtain ⟨r8, e7, hf⟩ := kb1_s hf
  refine kcallN (As := [.int r2, .int r6]) (rest := []) C0 (cX6_floatBits_c hap e7) C0.2.2.1 kw_X6_floatBits hP hS ⟨Nat.le_of_ble_eq_true rfl, Nat.le_of_ble_eq_true rfl⟩ rfl hl.1 rfl (Nat.le_of_ble_eq_true rfl) dX0_shareOf_13 (fun H locs hP hS => ?_)
  obtain rfl := Option.some.inj hf
  exact kret_i C0 hr hlk hP hS dX0_shareOf_16
