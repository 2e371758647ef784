theorem q_197 : Cond.methodLink RL 13 yX6_circuit ∈ lwG := lwG_at 240 (by decide +kernel) (by decide +kernel)
theorem q_274 : Cond.methodLink RL 18 yX6_ofCell ∈ lwG := lwG_at 317 (by decide +kernel) (by decide +kernel)
theorem q_321 : Cond.methodLink RL 23 yX6_ofNet ∈ lwG := lwG_at 364 (by decide +kernel) (by decide +kernel)
theorem q_326 : Cond.methodLink RL 27 yX6_ofSide ∈ lwG := lwG_at 369 (by decide +kernel) (by decide +kernel)
theorem q_344 : Cond.methodLink RL 31 yX6_bulk ∈ lwG := lwG_at 387 (by decide +kernel) (by decide +kernel)
theorem q_352 : Cond.methodLink RL 35 yX6_bound ∈ lwG := lwG_at 395 (by decide +kernel) (by decide +kernel)
theorem q_358 : Cond.methodLink RL 40 yX6_move ∈ lwG := lwG_at 401 (by decide +kernel) (by decide +kernel)
theorem q_370 : Cond.methodLink RL 44 yX6_pass ∈ lwG := lwG_at 413 (by decide +kernel) (by decide +kernel)
theorem q_396 : Cond.methodLink RL 48 yX6_tries ∈ lwG := lwG_at 439 (by decide +kernel) (by decide +kernel)
theorem q_407 : Cond.methodLink RL 52 yX6_settle ∈ lwG := lwG_at 450 (by decide +kernel) (by decide +kernel)
theorem q_411 : Cond.methodLink RL 56 yX6_day ∈ lwG := lwG_at 454 (by decide +kernel) (by decide +kernel)
theorem q_433 : Cond.methodLink RL 61 yX6_least ∈ lwG := lwG_at 476 (by decide +kernel) (by decide +kernel)
theorem q_447 : Cond.methodLink RL 65 yX6_apart ∈ lwG := lwG_at 490 (by decide +kernel) (by decide +kernel)
theorem q_455 : Cond.methodLink RL 69 yX6_closest ∈ lwG := lwG_at 498 (by decide +kernel) (by decide +kernel)
theorem q_460 : Cond.methodLink RL 73 yX6_rack ∈ lwG := lwG_at 503 (by decide +kernel) (by decide +kernel)
theorem q_474 : Cond.methodLink RL 77 yX6_stow ∈ lwG := lwG_at 517 (by decide +kernel) (by decide +kernel)
theorem q_486 : Cond.methodLink RL 81 yX6_stowed ∈ lwG := lwG_at 529 (by decide +kernel) (by decide +kernel)
theorem q_490 : Cond.methodLink RL 85 yX6_reading ∈ lwG := lwG_at 533 (by decide +kernel) (by decide +kernel)
theorem q_498 : Cond.methodLink RL 89 yX6_back ∈ lwG := lwG_at 541 (by decide +kernel) (by decide +kernel)
theorem q_502 : Cond.methodLink RL 93 yX6_kinds ∈ lwG := lwG_at 545 (by decide +kernel) (by decide +kernel)
theorem q_511 : Cond.methodLink RL 97 yX6_bulks ∈ lwG := lwG_at 554 (by decide +kernel) (by decide +kernel)
theorem q_515 : Cond.methodLink RL 101 yX6_odds ∈ lwG := lwG_at 558 (by decide +kernel) (by decide +kernel)
theorem q_521 : Cond.methodLink RL 106 yX6_sheet ∈ lwG := lwG_at 564 (by decide +kernel) (by decide +kernel)
theorem q_530 : Cond.methodLink RL 111 yX6_lose ∈ lwG := lwG_at 573 (by decide +kernel) (by decide +kernel)
theorem q_534 : Cond.methodLink RL 115 yX6_put ∈ lwG := lwG_at 577 (by decide +kernel) (by decide +kernel)
theorem q_541 : Cond.methodLink RL 119 yX6_cell ∈ lwG := lwG_at 584 (by decide +kernel) (by decide +kernel)
theorem q_545 : Cond.methodLink RL 124 yX6_copy ∈ lwG := lwG_at 588 (by decide +kernel) (by decide +kernel)
theorem q_550 : Cond.methodLink RL 128 yX6_tell ∈ lwG := lwG_at 593 (by decide +kernel) (by decide +kernel)
theorem q_570 : Cond.methodLink RL 132 yX6_probe ∈ lwG := lwG_at 613 (by decide +kernel) (by decide +kernel)
theorem q_574 : Cond.methodLink RL 136 yX6_as ∈ lwG := lwG_at 617 (by decide +kernel) (by decide +kernel)
theorem q_578 : Cond.methodLink RL 140 yX6_trace ∈ lwG := lwG_at 621 (by decide +kernel) (by decide +kernel)
theorem q_582 : Cond.methodLink RL 145 yX6_fault ∈ lwG := lwG_at 625 (by decide +kernel) (by decide +kernel)
theorem q_586 : Cond.methodLink RL 149 yX6_many ∈ lwG := lwG_at 629 (by decide +kernel) (by decide +kernel)
theorem q_694 : Cond.methodLink RL 17 yX7_circuit ∈ lwG := lwG_at 737 (by decide +kernel) (by decide +kernel)
theorem q_737 : Cond.methodLink RL 22 yX7_ofCell ∈ lwG := lwG_at 780 (by decide +kernel) (by decide +kernel)
theorem q_778 : Cond.methodLink RL 26 yX7_ofNet ∈ lwG := lwG_at 821 (by decide +kernel) (by decide +kernel)
theorem q_782 : Cond.methodLink RL 30 yX7_ofSide ∈ lwG := lwG_at 825 (by decide +kernel) (by decide +kernel)
theorem q_794 : Cond.methodLink RL 34 yX7_bulk ∈ lwG := lwG_at 837 (by decide +kernel) (by decide +kernel)
theorem q_798 : Cond.methodLink RL 39 yX7_bound ∈ lwG := lwG_at 841 (by decide +kernel) (by decide +kernel)
theorem q_803 : Cond.methodLink RL 43 yX7_move ∈ lwG := lwG_at 846 (by decide +kernel) (by decide +kernel)
theorem q_807 : Cond.methodLink RL 47 yX7_pass ∈ lwG := lwG_at 850 (by decide +kernel) (by decide +kernel)
theorem q_823 : Cond.methodLink RL 51 yX7_tries ∈ lwG := lwG_at 866 (by decide +kernel) (by decide +kernel)
theorem q_827 : Cond.methodLink RL 55 yX7_settle ∈ lwG := lwG_at 870 (by decide +kernel) (by decide +kernel)
theorem q_831 : Cond.methodLink RL 60 yX7_day ∈ lwG := lwG_at 874 (by decide +kernel) (by decide +kernel)
theorem q_850 : Cond.methodLink RL 64 yX7_least ∈ lwG := lwG_at 893 (by decide +kernel) (by decide +kernel)
theorem q_854 : Cond.methodLink RL 68 yX7_apart ∈ lwG := lwG_at 897 (by decide +kernel) (by decide +kernel)
theorem q_858 : Cond.methodLink RL 72 yX7_closest ∈ lwG := lwG_at 901 (by decide +kernel) (by decide +kernel)
theorem q_862 : Cond.methodLink RL 76 yX7_rack ∈ lwG := lwG_at 905 (by decide +kernel) (by decide +kernel)
theorem q_866 : Cond.methodLink RL 80 yX7_stow ∈ lwG := lwG_at 909 (by decide +kernel) (by decide +kernel)
theorem q_870 : Cond.methodLink RL 84 yX7_stowed ∈ lwG := lwG_at 913 (by decide +kernel) (by decide +kernel)
theorem q_874 : Cond.methodLink RL 88 yX7_reading ∈ lwG := lwG_at 917 (by decide +kernel) (by decide +kernel)
theorem q_878 : Cond.methodLink RL 92 yX7_back ∈ lwG := lwG_at 921 (by decide +kernel) (by decide +kernel)
theorem q_882 : Cond.methodLink RL 96 yX7_kinds ∈ lwG := lwG_at 925 (by decide +kernel) (by decide +kernel)
theorem q_890 : Cond.methodLink RL 100 yX7_bulks ∈ lwG := lwG_at 933 (by decide +kernel) (by decide +kernel)
theorem q_894 : Cond.methodLink RL 105 yX7_odds ∈ lwG := lwG_at 937 (by decide +kernel) (by decide +kernel)
theorem q_902 : Cond.methodLink RL 110 yX7_sheet ∈ lwG := lwG_at 945 (by decide +kernel) (by decide +kernel)
theorem q_906 : Cond.methodLink RL 114 yX7_lose ∈ lwG := lwG_at 949 (by decide +kernel) (by decide +kernel)
theorem q_910 : Cond.methodLink RL 118 yX7_put ∈ lwG := lwG_at 953 (by decide +kernel) (by decide +kernel)
theorem q_914 : Cond.methodLink RL 123 yX7_cell ∈ lwG := lwG_at 957 (by decide +kernel) (by decide +kernel)
theorem q_922 : Cond.methodLink RL 127 yX7_copy ∈ lwG := lwG_at 965 (by decide +kernel) (by decide +kernel)
theorem q_926 : Cond.methodLink RL 131 yX7_tell ∈ lwG := lwG_at 969 (by decide +kernel) (by decide +kernel)
theorem q_934 : Cond.methodLink RL 135 yX7_probe ∈ lwG := lwG_at 977 (by decide +kernel) (by decide +kernel)
theorem q_938 : Cond.methodLink RL 139 yX7_as ∈ lwG := lwG_at 981 (by decide +kernel) (by decide +kernel)
theorem q_942 : Cond.methodLink RL 144 yX7_trace ∈ lwG := lwG_at 985 (by decide +kernel) (by decide +kernel)
theorem q_946 : Cond.methodLink RL 148 yX7_fault ∈ lwG := lwG_at 989 (by decide +kernel) (by decide +kernel)
theorem q_950 : Cond.methodLink RL 152 yX7_many ∈ lwG := lwG_at 993 (by decide +kernel) (by decide +kernel)
def lC (p : Program) (s : State) (m : MethodId) (c : Code) (D : va_G) (cI cS : ClassId) (a bb : Nat → Nat) (b L : Nat) (xs : Nat → Int32) : Prop := kC p s m c #[Value.ref b] cL_law 4 RL D cI cS ∧ kAp a 29 ∧ kAp bb 15 ∧ (∀ i j, i < 29 → j < 15 → a i ≠ bb j) ∧ (∀ i, i < 29 → s.heap.size ≤ a i) ∧ (∀ j, j < 15 → s.heap.size ≤ bb j) ∧ va_X b L xs s s.heap ∧ b < s.heap.size
abbrev lA (s : State) : Nat → Prop := fun q => s.heap.size ≤ q
theorem lgc_self (x : Int64) : lg_cmp x x = 0 := by
  unfold lg_cmp
  rw [if_neg (by simp [Int64.lt_iff_toInt_lt]), if_pos rfl]
section LK
variable {p : Program} {l : Launch} {e : Env} {s : State} {m : MethodId} {below : List Frame} {meth : Method} {c : Code} {H : Heap} {locs : List Loc} {Q : State → Prop} {pc : Nat} {ls : Array Slot} {rest st0 : List Value} {D : va_G} {cI cS : ClassId} {a bb : Nat → Nat} {b L : Nat} {xs : Nat → Int32} {v ar2v v2 mv mv2 : kV} {ar ar2 mar mar2 : kR}
theorem lafter {wf wg : kV → kR → va_W} {A : Nat → Prop} {o : Option Value} {aa : Array Value} (hr : va_Run p l e room_1 s m #[Value.ref b] below meth c H locs 44 801 0 0 (F0 m pc ls st0) rest (kQ D wf A o v2 ar2 aa) A) (hS : va_S (lA s) s.heap H locs) (hAA : ∀ q, A q → s.heap.size ≤ q) (hg : va_P D vwCl (wg mv mar) H) (hgA : ∀ (k : Nat) (q : Nat × va_E), (wg mv mar)[k]? = some q → ¬ A q.1)
    (kk : ∀ (H1 : Heap) (locs1 : List Loc), va_P D vwCl (wf v2 ar2) H1 → va_P D vwCl (wg mv mar) H1 → va_S (lA s) s.heap H1 locs1 → W p l e room_1 s m #[Value.ref b] below meth c H1 locs1 44 801 Q (F0 m (pc + 3) ls (o.toList ++ rest))) : W p l e room_1 s m #[Value.ref b] below meth c H locs 44 801 Q (F0 m pc ls st0) := by
  intro T hT X
  obtain ⟨v, st₀, t, T', L, h0, X', hL, e1, e2, ⟨hv, hb, hz, hk⟩, st⟩ := hr T hT X
  cases hv
  rw [h0] at hz hk
  obtain ⟨t2, a1, b1⟩ := kk T'.heap (locs ++ L) (by rw [e1]; exact hb) (hg.kept (fun k q hq => by rw [e1]; exact hk q.1 ((hg k q hq).lt) (hgA k q hq)))
    ⟨Nat.le_trans hS.1 (by rw [e1]; exact hz), fun q h1 h2 => by rw [e1, hk q (Nat.lt_of_lt_of_le h1 hS.1) (fun z => h2 (hAA q z))]; exact hS.2.1 q h1 h2, fun q hq => by
      rcases List.mem_append.mp hq with h | h
      · exact hS.2.2 q h
      · exact hAA _ (hL q h)⟩ T' rfl X'
  exact ⟨t2, st t2 a1, b1⟩
theorem lA_x (X : lC p s m c D cI cS a bb b L xs) : ∀ q, kA a 29 q → s.heap.size ≤ q := fun q ⟨k, h1, h2⟩ => by rw [h2]; exact X.2.2.2.2.1 k h1
theorem lA_m (X : lC p s m c D cI cS a bb b L xs) : ∀ q, kA bb 15 q → s.heap.size ≤ q := fun q ⟨k, h1, h2⟩ => by rw [h2]; exact X.2.2.2.2.2.1 k h1
theorem lD_xm (X : lC p s m c D cI cS a bb b L xs) : ∀ (k : Nat) (q : Nat × va_E), (mW cI bb mv mar)[k]? = some q → ¬ kA a 29 q.1 := fun k q hq ⟨j, h1, h2⟩ => by
  obtain ⟨h3, h4⟩ := kkey (a := bb) (n := 15) rfl k q hq
  exact X.2.2.2.1 j k h1 h3 (by rw [← h2, h4])
theorem lD_mx (X : lC p s m c D cI cS a bb b L xs) : ∀ (k : Nat) (q : Nat × va_E), (xW cI cS a v ar)[k]? = some q → ¬ kA bb 15 q.1 := fun k q hq ⟨j, h1, h2⟩ => by
  obtain ⟨h3, h4⟩ := kkey (a := a) (n := 29) rfl k q hq
  exact X.2.2.2.1 k j h3 h1 (by rw [← h2, h4])
theorem lcallX {y : MethodName} {bytes : ByteArray} {maxL n idx fr lo : Nat} {ret : Option FieldType} {As : List Value} {o : Option Value} (X : lC p s m c D cI cS a bb b L xs) (hM : kMet l D cI cS (xW cI cS a) (kA a 29) y bytes maxL ret fr lo (.ref (a 0) :: As) v ar o v2 ar2) (hl : Cond.methodLink RL idx y ∈ lwG) (hw : kCal RX6 y bytes maxL ret n) (hP : va_P D vwCl (xW cI cS a v ar) H) (hQ : va_P D vwCl (mW cI bb mv mar) H) (hS : va_S (lA s) s.heap H locs) (hR : fr + 1 ≤ room_1.frames ∧ 8 + (maxL + 11) + lo ≤ room_1.locals) (hn : As.length = n) (hls : ls.size = 4) (hst : st0 = As.reverse ++ .ref (a 0) :: rest) (hW : (rest.map fun v => v.category).sum ≤ 8) (hdg : decode cL_law pc = .ok (.invokevirtual idx, 3))
    (kk : ∀ (H1 : Heap) (locs1 : List Loc), va_P D vwCl (xW cI cS a v2 ar2) H1 → va_P D vwCl (mW cI bb mv mar) H1 → va_S (lA s) s.heap H1 locs1 → W p l e room_1 s m #[Value.ref b] below meth c H1 locs1 44 801 Q (F0 m (pc + 3) ls (o.toList ++ rest))) : W p l e room_1 s m #[Value.ref b] below meth c H locs 44 801 Q (F0 m pc ls st0) :=
  lafter (wf := xW cI cS a) (wg := mW cI bb) (va_runV (As := As) (rest := rest) X.1.1 hM (cwV (mc := 0) (ms := 0) n X.1.1.2.2.2.2 (kG_V hl hw.1 hw.2.1 hw.2.2.1 hw.2.2.2.1) rfl rfl rfl hw.2.2.2.2 hR) ⟨(kpre X.1.2 hP).1, xv_HC X.1.2 hP, (kpre X.1.2 hP).2⟩ rfl hn hls hst (lv_room hW) hdg ⟨Nat.le_of_ble_eq_true rfl, Nat.le_of_ble_eq_true rfl⟩) hS (lA_x X) hQ (lD_xm X) kk
theorem lcallM {y : MethodName} {bytes : ByteArray} {maxL n idx fr lo : Nat} {ret : Option FieldType} {As : List Value} {o : Option Value} (X : lC p s m c D cI cS a bb b L xs) (hM : kMet l D cI cS (mW cI bb) (kA bb 15) y bytes maxL ret fr lo (.ref (bb 0) :: As) mv mar o mv2 mar2) (hl : Cond.methodLink RL idx y ∈ lwG) (hw : kCal RX7 y bytes maxL ret n) (hP : va_P D vwCl (xW cI cS a v ar) H) (hQ : va_P D vwCl (mW cI bb mv mar) H) (hS : va_S (lA s) s.heap H locs) (hR : fr + 1 ≤ room_1.frames ∧ 8 + (maxL + 11) + lo ≤ room_1.locals) (hn : As.length = n) (hls : ls.size = 4) (hst : st0 = As.reverse ++ .ref (bb 0) :: rest) (hW : (rest.map fun v => v.category).sum ≤ 8) (hdg : decode cL_law pc = .ok (.invokevirtual idx, 3))
    (kk : ∀ (H1 : Heap) (locs1 : List Loc), va_P D vwCl (mW cI bb mv2 mar2) H1 → va_P D vwCl (xW cI cS a v ar) H1 → va_S (lA s) s.heap H1 locs1 → W p l e room_1 s m #[Value.ref b] below meth c H1 locs1 44 801 Q (F0 m (pc + 3) ls (o.toList ++ rest))) : W p l e room_1 s m #[Value.ref b] below meth c H locs 44 801 Q (F0 m pc ls st0) :=
  lafter (wf := mW cI bb) (wg := xW cI cS a) (va_runV (As := As) (rest := rest) X.1.1 hM (cwV (mc := 0) (ms := 0) n X.1.1.2.2.2.2 (kG_V hl hw.1 hw.2.1 hw.2.2.1 hw.2.2.2.1) rfl rfl rfl hw.2.2.2.2 hR) ⟨(kpre X.1.2 hQ).1, xv_M X.1.2 hQ, (kpre X.1.2 hQ).2⟩ rfl hn hls hst (lv_room hW) hdg ⟨Nat.le_of_ble_eq_true rfl, Nat.le_of_ble_eq_true rfl⟩) hS (lA_m X) hP (lD_mx X) kk
theorem lc_0 (X : lC p s m c D cI cS a bb b L xs) (hsim : Sim_circuit) (hR : Rel v ar mv mar) {x3 : Int32} (h1 : vp_in (x3 + (1 : Int32)) L) (h2 : vp_in (x3 + (2 : Int32)) L) (h3 : vp_in (x3 + (3 : Int32)) L) (h4 : vp_in (x3 + (4 : Int32)) L) (h5 : vp_in (x3 + (5 : Int32)) L) (hP : va_P D vwCl (xW cI cS a v ar) H) (hQ : va_P D vwCl (mW cI bb mv mar) H) (hS : va_S (lA s) s.heap H locs) (hl : lv_has ls 4 [(0, .ref b), (1, .ref (a 0)), (2, .ref (bb 0)), (3, .int x3)])
    (kk : ∀ (v2 : kV) (ar2 : kR) (mv2 : kV) (mar2 : kR) (H1 : Heap) (locs1 : List Loc), Rel v2 ar2 mv2 mar2 → va_P D vwCl (xW cI cS a v2 ar2) H1 → va_P D vwCl (mW cI bb mv2 mar2) H1 → va_S (lA s) s.heap H1 locs1 → W p l e room_1 s m #[Value.ref b] below meth c H1 locs1 44 801 Q (F0 m 1201 ls [])) : W p l e room_1 s m #[Value.ref b] below meth c H locs 44 801 Q (F0 m 180 ls []) := by
  have hx := X.1.1.1
  have hb := X.1.1.2.1
  have hX := X.2.2.2.2.2.2.1
  have hbl := X.2.2.2.2.2.2.2
  have hbA : ¬ lA s b := Nat.not_le.mpr hbl
  obtain ⟨r, v2, ar2, mv2, mar2, e1, e2, hR2⟩ := hsim v ar mv mar hR (xs (x3 + (1 : Int32)).toNatClampNeg) (xs (x3 + (2 : Int32)).toNatClampNeg) (xs (x3 + (3 : Int32)).toNatClampNeg) (xs (x3 + (4 : Int32)).toNatClampNeg)
  refine lv_aload_n hx hb dL_law_180 rfl (lv_at hl 1 rfl) ?_
  refine lv_aload_n hx hb dL_law_181 rfl (lv_at hl 0 rfl) ?_
  refine lv_iload_n hx hb dL_law_182 rfl (lv_at hl 3 rfl) ?_
  refine lv_iconst (v := (1 : Int32)) hx hb dL_law_183 (by decide) ?_
  refine lv_iadd hx hb dL_law_184 ?_
  refine va_sld hx hb hX hbl hbA hS h1 dL_law_185 ?_
  refine lv_aload_n hx hb dL_law_186 rfl (lv_at hl 0 rfl) ?_
  refine lv_iload_n hx hb dL_law_187 rfl (lv_at hl 3 rfl) ?_
  refine lv_iconst (v := (2 : Int32)) hx hb dL_law_188 (by decide) ?_
  refine lv_iadd hx hb dL_law_189 ?_
  refine va_sld hx hb hX hbl hbA hS h2 dL_law_190 ?_
  refine lv_aload_n hx hb dL_law_191 rfl (lv_at hl 0 rfl) ?_
  refine lv_iload_n hx hb dL_law_192 rfl (lv_at hl 3 rfl) ?_
  refine lv_iconst (v := (3 : Int32)) hx hb dL_law_193 (by decide) ?_
  refine lv_iadd hx hb dL_law_194 ?_
  refine va_sld hx hb hX hbl hbA hS h3 dL_law_195 ?_
  refine lv_aload_n hx hb dL_law_196 rfl (lv_at hl 0 rfl) ?_
  refine lv_iload_n hx hb dL_law_197 rfl (lv_at hl 3 rfl) ?_
  refine lv_iconst (v := (4 : Int32)) hx hb dL_law_198 (by decide) ?_
  refine lv_iadd hx hb dL_law_199 ?_
  refine va_sld hx hb hX hbl hbA hS h4 dL_law_200 ?_
  refine lcallX (As := [.int (xs (x3 + (1 : Int32)).toNatClampNeg), .int (xs (x3 + (2 : Int32)).toNatClampNeg), .int (xs (x3 + (3 : Int32)).toNatClampNeg), .int (xs (x3 + (4 : Int32)).toNatClampNeg)]) (rest := []) X (cX6_circuit_c X.2.1 e1) q_197 kw_X6_circuit hP hQ hS ⟨Nat.le_of_ble_eq_true rfl, Nat.le_of_ble_eq_true rfl⟩ rfl hl.1 rfl (Nat.le_of_ble_eq_true rfl) dL_law_201 (fun H locs hP hQ hS => ?_)
  refine lv_aload_n hx hb dL_law_204 rfl (lv_at hl 2 rfl) ?_
  refine lv_aload_n hx hb dL_law_205 rfl (lv_at hl 0 rfl) ?_
  refine lv_iload_n hx hb dL_law_206 rfl (lv_at hl 3 rfl) ?_
  refine lv_iconst (v := (1 : Int32)) hx hb dL_law_207 (by decide) ?_
  refine lv_iadd hx hb dL_law_208 ?_
  refine va_sld hx hb hX hbl hbA hS h1 dL_law_209 ?_
  refine lv_aload_n hx hb dL_law_210 rfl (lv_at hl 0 rfl) ?_
  refine lv_iload_n hx hb dL_law_211 rfl (lv_at hl 3 rfl) ?_
  refine lv_iconst (v := (2 : Int32)) hx hb dL_law_212 (by decide) ?_
  refine lv_iadd hx hb dL_law_213 ?_
  refine va_sld hx hb hX hbl hbA hS h2 dL_law_214 ?_
  refine lv_aload_n hx hb dL_law_215 rfl (lv_at hl 0 rfl) ?_
  refine lv_iload_n hx hb dL_law_216 rfl (lv_at hl 3 rfl) ?_
  refine lv_iconst (v := (3 : Int32)) hx hb dL_law_217 (by decide) ?_
  refine lv_iadd hx hb dL_law_218 ?_
  refine va_sld hx hb hX hbl hbA hS h3 dL_law_219 ?_
  refine lv_aload_n hx hb dL_law_220 rfl (lv_at hl 0 rfl) ?_
  refine lv_iload_n hx hb dL_law_221 rfl (lv_at hl 3 rfl) ?_
  refine lv_iconst (v := (4 : Int32)) hx hb dL_law_222 (by decide) ?_
  refine lv_iadd hx hb dL_law_223 ?_
  refine va_sld hx hb hX hbl hbA hS h4 dL_law_224 ?_
  refine lcallM (As := [.int (xs (x3 + (1 : Int32)).toNatClampNeg), .int (xs (x3 + (2 : Int32)).toNatClampNeg), .int (xs (x3 + (3 : Int32)).toNatClampNeg), .int (xs (x3 + (4 : Int32)).toNatClampNeg)]) (rest := [.int r]) X (cX7_circuit_c X.2.2.1 e2) q_694 kw_X7_circuit hP hQ hS ⟨Nat.le_of_ble_eq_true rfl, Nat.le_of_ble_eq_true rfl⟩ rfl hl.1 rfl (Nat.le_of_ble_eq_true rfl) dL_law_225 (fun H locs hQ hP hS => ?_)
  refine lv_icmp_eq (tgt := 1201) hx hb dL_law_228 (by decide) (fun _ => ?_) (fun z => absurd rfl z)
  exact kk v2 ar2 mv2 mar2 H locs hR2 hP hQ hS
theorem lc_1 (X : lC p s m c D cI cS a bb b L xs) (hsim : Sim_ofCell) (hR : Rel v ar mv mar) {x3 : Int32} (h1 : vp_in (x3 + (1 : Int32)) L) (h2 : vp_in (x3 + (2 : Int32)) L) (h3 : vp_in (x3 + (3 : Int32)) L) (h4 : vp_in (x3 + (4 : Int32)) L) (h5 : vp_in (x3 + (5 : Int32)) L) (hP : va_P D vwCl (xW cI cS a v ar) H) (hQ : va_P D vwCl (mW cI bb mv mar) H) (hS : va_S (lA s) s.heap H locs) (hl : lv_has ls 4 [(0, .ref b), (1, .ref (a 0)), (2, .ref (bb 0)), (3, .int x3)])
    (kk : ∀ (v2 : kV) (ar2 : kR) (mv2 : kV) (mar2 : kR) (H1 : Heap) (locs1 : List Loc), Rel v2 ar2 mv2 mar2 → va_P D vwCl (xW cI cS a v2 ar2) H1 → va_P D vwCl (mW cI bb mv2 mar2) H1 → va_S (lA s) s.heap H1 locs1 → W p l e room_1 s m #[Value.ref b] below meth c H1 locs1 44 801 Q (F0 m 1201 ls [])) : W p l e room_1 s m #[Value.ref b] below meth c H locs 44 801 Q (F0 m 233 ls []) := by
  have hx := X.1.1.1
  have hb := X.1.1.2.1
  have hX := X.2.2.2.2.2.2.1
  have hbl := X.2.2.2.2.2.2.2
  have hbA : ¬ lA s b := Nat.not_le.mpr hbl
  obtain ⟨r, e1, e2⟩ := hsim v ar mv mar hR (xs (x3 + (1 : Int32)).toNatClampNeg) (xs (x3 + (2 : Int32)).toNatClampNeg)
  refine lv_aload_n hx hb dL_law_233 rfl (lv_at hl 1 rfl) ?_
  refine lv_aload_n hx hb dL_law_234 rfl (lv_at hl 0 rfl) ?_
  refine lv_iload_n hx hb dL_law_235 rfl (lv_at hl 3 rfl) ?_
  refine lv_iconst (v := (1 : Int32)) hx hb dL_law_236 (by decide) ?_
  refine lv_iadd hx hb dL_law_237 ?_
  refine va_sld hx hb hX hbl hbA hS h1 dL_law_238 ?_
  refine lv_aload_n hx hb dL_law_239 rfl (lv_at hl 0 rfl) ?_
  refine lv_iload_n hx hb dL_law_240 rfl (lv_at hl 3 rfl) ?_
  refine lv_iconst (v := (2 : Int32)) hx hb dL_law_241 (by decide) ?_
  refine lv_iadd hx hb dL_law_242 ?_
  refine va_sld hx hb hX hbl hbA hS h2 dL_law_243 ?_
  refine lcallX (As := [.int (xs (x3 + (1 : Int32)).toNatClampNeg), .int (xs (x3 + (2 : Int32)).toNatClampNeg)]) (rest := []) X (cX6_ofCell_c X.2.1 e1) q_274 kw_X6_ofCell hP hQ hS ⟨Nat.le_of_ble_eq_true rfl, Nat.le_of_ble_eq_true rfl⟩ rfl hl.1 rfl (Nat.le_of_ble_eq_true rfl) dL_law_244 (fun H locs hP hQ hS => ?_)
  refine lv_aload_n hx hb dL_law_247 rfl (lv_at hl 2 rfl) ?_
  refine lv_aload_n hx hb dL_law_248 rfl (lv_at hl 0 rfl) ?_
  refine lv_iload_n hx hb dL_law_249 rfl (lv_at hl 3 rfl) ?_
  refine lv_iconst (v := (1 : Int32)) hx hb dL_law_250 (by decide) ?_
  refine lv_iadd hx hb dL_law_251 ?_
  refine va_sld hx hb hX hbl hbA hS h1 dL_law_252 ?_
  refine lv_aload_n hx hb dL_law_253 rfl (lv_at hl 0 rfl) ?_
  refine lv_iload_n hx hb dL_law_254 rfl (lv_at hl 3 rfl) ?_
  refine lv_iconst (v := (2 : Int32)) hx hb dL_law_255 (by decide) ?_
  refine lv_iadd hx hb dL_law_256 ?_
  refine va_sld hx hb hX hbl hbA hS h2 dL_law_257 ?_
  refine lcallM (As := [.int (xs (x3 + (1 : Int32)).toNatClampNeg), .int (xs (x3 + (2 : Int32)).toNatClampNeg)]) (rest := [.int r]) X (cX7_ofCell_c X.2.2.1 e2) q_737 kw_X7_ofCell hP hQ hS ⟨Nat.le_of_ble_eq_true rfl, Nat.le_of_ble_eq_true rfl⟩ rfl hl.1 rfl (Nat.le_of_ble_eq_true rfl) dL_law_258 (fun H locs hQ hP hS => ?_)
  refine lv_icmp_eq (tgt := 1201) hx hb dL_law_261 (by decide) (fun _ => ?_) (fun z => absurd rfl z)
  exact kk v ar mv mar H locs hR hP hQ hS
theorem lc_2 (X : lC p s m c D cI cS a bb b L xs) (hsim : Sim_ofNet) (hR : Rel v ar mv mar) {x3 : Int32} (h1 : vp_in (x3 + (1 : Int32)) L) (h2 : vp_in (x3 + (2 : Int32)) L) (h3 : vp_in (x3 + (3 : Int32)) L) (h4 : vp_in (x3 + (4 : Int32)) L) (h5 : vp_in (x3 + (5 : Int32)) L) (hP : va_P D vwCl (xW cI cS a v ar) H) (hQ : va_P D vwCl (mW cI bb mv mar) H) (hS : va_S (lA s) s.heap H locs) (hl : lv_has ls 4 [(0, .ref b), (1, .ref (a 0)), (2, .ref (bb 0)), (3, .int x3)])
    (kk : ∀ (v2 : kV) (ar2 : kR) (mv2 : kV) (mar2 : kR) (H1 : Heap) (locs1 : List Loc), Rel v2 ar2 mv2 mar2 → va_P D vwCl (xW cI cS a v2 ar2) H1 → va_P D vwCl (mW cI bb mv2 mar2) H1 → va_S (lA s) s.heap H1 locs1 → W p l e room_1 s m #[Value.ref b] below meth c H1 locs1 44 801 Q (F0 m 1201 ls [])) : W p l e room_1 s m #[Value.ref b] below meth c H locs 44 801 Q (F0 m 266 ls []) := by
  have hx := X.1.1.1
  have hb := X.1.1.2.1
  have hX := X.2.2.2.2.2.2.1
  have hbl := X.2.2.2.2.2.2.2
  have hbA : ¬ lA s b := Nat.not_le.mpr hbl
  obtain ⟨r, e1, e2⟩ := hsim v ar mv mar hR (xs (x3 + (1 : Int32)).toNatClampNeg) (xs (x3 + (2 : Int32)).toNatClampNeg)
  refine lv_aload_n hx hb dL_law_266 rfl (lv_at hl 1 rfl) ?_
  refine lv_aload_n hx hb dL_law_267 rfl (lv_at hl 0 rfl) ?_
  refine lv_iload_n hx hb dL_law_268 rfl (lv_at hl 3 rfl) ?_
  refine lv_iconst (v := (1 : Int32)) hx hb dL_law_269 (by decide) ?_
  refine lv_iadd hx hb dL_law_270 ?_
  refine va_sld hx hb hX hbl hbA hS h1 dL_law_271 ?_
  refine lv_aload_n hx hb dL_law_272 rfl (lv_at hl 0 rfl) ?_
  refine lv_iload_n hx hb dL_law_273 rfl (lv_at hl 3 rfl) ?_
  refine lv_iconst (v := (2 : Int32)) hx hb dL_law_274 (by decide) ?_
  refine lv_iadd hx hb dL_law_275 ?_
  refine va_sld hx hb hX hbl hbA hS h2 dL_law_276 ?_
  refine lcallX (As := [.int (xs (x3 + (1 : Int32)).toNatClampNeg), .int (xs (x3 + (2 : Int32)).toNatClampNeg)]) (rest := []) X (cX6_ofNet_c X.2.1 e1) q_321 kw_X6_ofNet hP hQ hS ⟨Nat.le_of_ble_eq_true rfl, Nat.le_of_ble_eq_true rfl⟩ rfl hl.1 rfl (Nat.le_of_ble_eq_true rfl) dL_law_277 (fun H locs hP hQ hS => ?_)
  refine lv_aload_n hx hb dL_law_280 rfl (lv_at hl 2 rfl) ?_
  refine lv_aload_n hx hb dL_law_281 rfl (lv_at hl 0 rfl) ?_
  refine lv_iload_n hx hb dL_law_282 rfl (lv_at hl 3 rfl) ?_
  refine lv_iconst (v := (1 : Int32)) hx hb dL_law_283 (by decide) ?_
  refine lv_iadd hx hb dL_law_284 ?_
  refine va_sld hx hb hX hbl hbA hS h1 dL_law_285 ?_
  refine lv_aload_n hx hb dL_law_286 rfl (lv_at hl 0 rfl) ?_
  refine lv_iload_n hx hb dL_law_287 rfl (lv_at hl 3 rfl) ?_
  refine lv_iconst (v := (2 : Int32)) hx hb dL_law_288 (by decide) ?_
  refine lv_iadd hx hb dL_law_289 ?_
  refine va_sld hx hb hX hbl hbA hS h2 dL_law_290 ?_
  refine lcallM (As := [.int (xs (x3 + (1 : Int32)).toNatClampNeg), .int (xs (x3 + (2 : Int32)).toNatClampNeg)]) (rest := [.int r]) X (cX7_ofNet_c X.2.2.1 e2) q_778 kw_X7_ofNet hP hQ hS ⟨Nat.le_of_ble_eq_true rfl, Nat.le_of_ble_eq_true rfl⟩ rfl hl.1 rfl (Nat.le_of_ble_eq_true rfl) dL_law_291 (fun H locs hQ hP hS => ?_)
  refine lv_icmp_eq (tgt := 1201) hx hb dL_law_294 (by decide) (fun _ => ?_) (fun z => absurd rfl z)
  exact kk v ar mv mar H locs hR hP hQ hS
theorem lc_3 (X : lC p s m c D cI cS a bb b L xs) (hsim : Sim_ofSide) (hR : Rel v ar mv mar) {x3 : Int32} (h1 : vp_in (x3 + (1 : Int32)) L) (h2 : vp_in (x3 + (2 : Int32)) L) (h3 : vp_in (x3 + (3 : Int32)) L) (h4 : vp_in (x3 + (4 : Int32)) L) (h5 : vp_in (x3 + (5 : Int32)) L) (hP : va_P D vwCl (xW cI cS a v ar) H) (hQ : va_P D vwCl (mW cI bb mv mar) H) (hS : va_S (lA s) s.heap H locs) (hl : lv_has ls 4 [(0, .ref b), (1, .ref (a 0)), (2, .ref (bb 0)), (3, .int x3)])
    (kk : ∀ (v2 : kV) (ar2 : kR) (mv2 : kV) (mar2 : kR) (H1 : Heap) (locs1 : List Loc), Rel v2 ar2 mv2 mar2 → va_P D vwCl (xW cI cS a v2 ar2) H1 → va_P D vwCl (mW cI bb mv2 mar2) H1 → va_S (lA s) s.heap H1 locs1 → W p l e room_1 s m #[Value.ref b] below meth c H1 locs1 44 801 Q (F0 m 1201 ls [])) : W p l e room_1 s m #[Value.ref b] below meth c H locs 44 801 Q (F0 m 299 ls []) := by
  have hx := X.1.1.1
  have hb := X.1.1.2.1
  have hX := X.2.2.2.2.2.2.1
  have hbl := X.2.2.2.2.2.2.2
  have hbA : ¬ lA s b := Nat.not_le.mpr hbl
  obtain ⟨r, e1, e2⟩ := hsim v ar mv mar hR (xs (x3 + (1 : Int32)).toNatClampNeg) (xs (x3 + (2 : Int32)).toNatClampNeg)
  refine lv_aload_n hx hb dL_law_299 rfl (lv_at hl 1 rfl) ?_
  refine lv_aload_n hx hb dL_law_300 rfl (lv_at hl 0 rfl) ?_
  refine lv_iload_n hx hb dL_law_301 rfl (lv_at hl 3 rfl) ?_
  refine lv_iconst (v := (1 : Int32)) hx hb dL_law_302 (by decide) ?_
  refine lv_iadd hx hb dL_law_303 ?_
  refine va_sld hx hb hX hbl hbA hS h1 dL_law_304 ?_
  refine lv_aload_n hx hb dL_law_305 rfl (lv_at hl 0 rfl) ?_
  refine lv_iload_n hx hb dL_law_306 rfl (lv_at hl 3 rfl) ?_
  refine lv_iconst (v := (2 : Int32)) hx hb dL_law_307 (by decide) ?_
  refine lv_iadd hx hb dL_law_308 ?_
  refine va_sld hx hb hX hbl hbA hS h2 dL_law_309 ?_
  refine lcallX (As := [.int (xs (x3 + (1 : Int32)).toNatClampNeg), .int (xs (x3 + (2 : Int32)).toNatClampNeg)]) (rest := []) X (cX6_ofSide_c X.2.1 e1) q_326 kw_X6_ofSide hP hQ hS ⟨Nat.le_of_ble_eq_true rfl, Nat.le_of_ble_eq_true rfl⟩ rfl hl.1 rfl (Nat.le_of_ble_eq_true rfl) dL_law_310 (fun H locs hP hQ hS => ?_)
  refine lv_aload_n hx hb dL_law_313 rfl (lv_at hl 2 rfl) ?_
  refine lv_aload_n hx hb dL_law_314 rfl (lv_at hl 0 rfl) ?_
  refine lv_iload_n hx hb dL_law_315 rfl (lv_at hl 3 rfl) ?_
  refine lv_iconst (v := (1 : Int32)) hx hb dL_law_316 (by decide) ?_
  refine lv_iadd hx hb dL_law_317 ?_
  refine va_sld hx hb hX hbl hbA hS h1 dL_law_318 ?_
  refine lv_aload_n hx hb dL_law_319 rfl (lv_at hl 0 rfl) ?_
  refine lv_iload_n hx hb dL_law_320 rfl (lv_at hl 3 rfl) ?_
  refine lv_iconst (v := (2 : Int32)) hx hb dL_law_321 (by decide) ?_
  refine lv_iadd hx hb dL_law_322 ?_
  refine va_sld hx hb hX hbl hbA hS h2 dL_law_323 ?_
  refine lcallM (As := [.int (xs (x3 + (1 : Int32)).toNatClampNeg), .int (xs (x3 + (2 : Int32)).toNatClampNeg)]) (rest := [.int r]) X (cX7_ofSide_c X.2.2.1 e2) q_782 kw_X7_ofSide hP hQ hS ⟨Nat.le_of_ble_eq_true rfl, Nat.le_of_ble_eq_true rfl⟩ rfl hl.1 rfl (Nat.le_of_ble_eq_true rfl) dL_law_324 (fun H locs hQ hP hS => ?_)
  refine lv_icmp_eq (tgt := 1201) hx hb dL_law_327 (by decide) (fun _ => ?_) (fun z => absurd rfl z)
  exact kk v ar mv mar H locs hR hP hQ hS
theorem lc_4 (X : lC p s m c D cI cS a bb b L xs) (hsim : Sim_bulk) (hR : Rel v ar mv mar) {x3 : Int32} (h1 : vp_in (x3 + (1 : Int32)) L) (h2 : vp_in (x3 + (2 : Int32)) L) (h3 : vp_in (x3 + (3 : Int32)) L) (h4 : vp_in (x3 + (4 : Int32)) L) (h5 : vp_in (x3 + (5 : Int32)) L) (hP : va_P D vwCl (xW cI cS a v ar) H) (hQ : va_P D vwCl (mW cI bb mv mar) H) (hS : va_S (lA s) s.heap H locs) (hl : lv_has ls 4 [(0, .ref b), (1, .ref (a 0)), (2, .ref (bb 0)), (3, .int x3)])
    (kk : ∀ (v2 : kV) (ar2 : kR) (mv2 : kV) (mar2 : kR) (H1 : Heap) (locs1 : List Loc), Rel v2 ar2 mv2 mar2 → va_P D vwCl (xW cI cS a v2 ar2) H1 → va_P D vwCl (mW cI bb mv2 mar2) H1 → va_S (lA s) s.heap H1 locs1 → W p l e room_1 s m #[Value.ref b] below meth c H1 locs1 44 801 Q (F0 m 1201 ls [])) : W p l e room_1 s m #[Value.ref b] below meth c H locs 44 801 Q (F0 m 332 ls []) := by
  have hx := X.1.1.1
  have hb := X.1.1.2.1
  have hX := X.2.2.2.2.2.2.1
  have hbl := X.2.2.2.2.2.2.2
  have hbA : ¬ lA s b := Nat.not_le.mpr hbl
  obtain ⟨r, v2, ar2, mv2, mar2, e1, e2, hR2⟩ := hsim v ar mv mar hR (xs (x3 + (1 : Int32)).toNatClampNeg) (xs (x3 + (2 : Int32)).toNatClampNeg)
  refine lv_aload_n hx hb dL_law_332 rfl (lv_at hl 1 rfl) ?_
  refine lv_aload_n hx hb dL_law_333 rfl (lv_at hl 0 rfl) ?_
  refine lv_iload_n hx hb dL_law_334 rfl (lv_at hl 3 rfl) ?_
  refine lv_iconst (v := (1 : Int32)) hx hb dL_law_335 (by decide) ?_
  refine lv_iadd hx hb dL_law_336 ?_
  refine va_sld hx hb hX hbl hbA hS h1 dL_law_337 ?_
  refine lv_aload_n hx hb dL_law_338 rfl (lv_at hl 0 rfl) ?_
  refine lv_iload_n hx hb dL_law_339 rfl (lv_at hl 3 rfl) ?_
  refine lv_iconst (v := (2 : Int32)) hx hb dL_law_340 (by decide) ?_
  refine lv_iadd hx hb dL_law_341 ?_
  refine va_sld hx hb hX hbl hbA hS h2 dL_law_342 ?_
  refine lcallX (As := [.int (xs (x3 + (1 : Int32)).toNatClampNeg), .int (xs (x3 + (2 : Int32)).toNatClampNeg)]) (rest := []) X (cX6_bulk_c X.2.1 e1) q_344 kw_X6_bulk hP hQ hS ⟨Nat.le_of_ble_eq_true rfl, Nat.le_of_ble_eq_true rfl⟩ rfl hl.1 rfl (Nat.le_of_ble_eq_true rfl) dL_law_343 (fun H locs hP hQ hS => ?_)
  refine lv_aload_n hx hb dL_law_346 rfl (lv_at hl 2 rfl) ?_
  refine lv_aload_n hx hb dL_law_347 rfl (lv_at hl 0 rfl) ?_
  refine lv_iload_n hx hb dL_law_348 rfl (lv_at hl 3 rfl) ?_
  refine lv_iconst (v := (1 : Int32)) hx hb dL_law_349 (by decide) ?_
  refine lv_iadd hx hb dL_law_350 ?_
  refine va_sld hx hb hX hbl hbA hS h1 dL_law_351 ?_
  refine lv_aload_n hx hb dL_law_352 rfl (lv_at hl 0 rfl) ?_
  refine lv_iload_n hx hb dL_law_353 rfl (lv_at hl 3 rfl) ?_
  refine lv_iconst (v := (2 : Int32)) hx hb dL_law_354 (by decide) ?_
  refine lv_iadd hx hb dL_law_355 ?_
  refine va_sld hx hb hX hbl hbA hS h2 dL_law_356 ?_
  refine lcallM (As := [.int (xs (x3 + (1 : Int32)).toNatClampNeg), .int (xs (x3 + (2 : Int32)).toNatClampNeg)]) (rest := [.int r]) X (cX7_bulk_c X.2.2.1 e2) q_794 kw_X7_bulk hP hQ hS ⟨Nat.le_of_ble_eq_true rfl, Nat.le_of_ble_eq_true rfl⟩ rfl hl.1 rfl (Nat.le_of_ble_eq_true rfl) dL_law_357 (fun H locs hQ hP hS => ?_)
  refine lv_icmp_eq (tgt := 1201) hx hb dL_law_360 (by decide) (fun _ => ?_) (fun z => absurd rfl z)
  exact kk v2 ar2 mv2 mar2 H locs hR2 hP hQ hS
theorem lc_5 (X : lC p s m c D cI cS a bb b L xs) (hsim : Sim_bound) (hR : Rel v ar mv mar) {x3 : Int32} (h1 : vp_in (x3 + (1 : Int32)) L) (h2 : vp_in (x3 + (2 : Int32)) L) (h3 : vp_in (x3 + (3 : Int32)) L) (h4 : vp_in (x3 + (4 : Int32)) L) (h5 : vp_in (x3 + (5 : Int32)) L) (hP : va_P D vwCl (xW cI cS a v ar) H) (hQ : va_P D vwCl (mW cI bb mv mar) H) (hS : va_S (lA s) s.heap H locs) (hl : lv_has ls 4 [(0, .ref b), (1, .ref (a 0)), (2, .ref (bb 0)), (3, .int x3)])
    (kk : ∀ (v2 : kV) (ar2 : kR) (mv2 : kV) (mar2 : kR) (H1 : Heap) (locs1 : List Loc), Rel v2 ar2 mv2 mar2 → va_P D vwCl (xW cI cS a v2 ar2) H1 → va_P D vwCl (mW cI bb mv2 mar2) H1 → va_S (lA s) s.heap H1 locs1 → W p l e room_1 s m #[Value.ref b] below meth c H1 locs1 44 801 Q (F0 m 1201 ls [])) : W p l e room_1 s m #[Value.ref b] below meth c H locs 44 801 Q (F0 m 365 ls []) := by
  have hx := X.1.1.1
  have hb := X.1.1.2.1
  have hX := X.2.2.2.2.2.2.1
  have hbl := X.2.2.2.2.2.2.2
  have hbA : ¬ lA s b := Nat.not_le.mpr hbl
  obtain ⟨r, v2, ar2, mv2, mar2, e1, e2, hR2⟩ := hsim v ar mv mar hR (xs (x3 + (1 : Int32)).toNatClampNeg)
  refine lv_aload_n hx hb dL_law_365 rfl (lv_at hl 1 rfl) ?_
  refine lv_aload_n hx hb dL_law_366 rfl (lv_at hl 0 rfl) ?_
  refine lv_iload_n hx hb dL_law_367 rfl (lv_at hl 3 rfl) ?_
  refine lv_iconst (v := (1 : Int32)) hx hb dL_law_368 (by decide) ?_
  refine lv_iadd hx hb dL_law_369 ?_
  refine va_sld hx hb hX hbl hbA hS h1 dL_law_370 ?_
  refine lcallX (As := [.int (xs (x3 + (1 : Int32)).toNatClampNeg)]) (rest := []) X (cX6_bound_c X.2.1 e1) q_352 kw_X6_bound hP hQ hS ⟨Nat.le_of_ble_eq_true rfl, Nat.le_of_ble_eq_true rfl⟩ rfl hl.1 rfl (Nat.le_of_ble_eq_true rfl) dL_law_371 (fun H locs hP hQ hS => ?_)
  refine lv_aload_n hx hb dL_law_374 rfl (lv_at hl 2 rfl) ?_
  refine lv_aload_n hx hb dL_law_375 rfl (lv_at hl 0 rfl) ?_
  refine lv_iload_n hx hb dL_law_376 rfl (lv_at hl 3 rfl) ?_
  refine lv_iconst (v := (1 : Int32)) hx hb dL_law_377 (by decide) ?_
  refine lv_iadd hx hb dL_law_378 ?_
  refine va_sld hx hb hX hbl hbA hS h1 dL_law_379 ?_
  refine lcallM (As := [.int (xs (x3 + (1 : Int32)).toNatClampNeg)]) (rest := [.int r]) X (cX7_bound_c X.2.2.1 e2) q_798 kw_X7_bound hP hQ hS ⟨Nat.le_of_ble_eq_true rfl, Nat.le_of_ble_eq_true rfl⟩ rfl hl.1 rfl (Nat.le_of_ble_eq_true rfl) dL_law_380 (fun H locs hQ hP hS => ?_)
  refine lv_icmp_eq (tgt := 1201) hx hb dL_law_383 (by decide) (fun _ => ?_) (fun z => absurd rfl z)
  exact kk v2 ar2 mv2 mar2 H locs hR2 hP hQ hS
theorem lc_6 (X : lC p s m c D cI cS a bb b L xs) (hsim : Sim_move) (hR : Rel v ar mv mar) {x3 : Int32} (h1 : vp_in (x3 + (1 : Int32)) L) (h2 : vp_in (x3 + (2 : Int32)) L) (h3 : vp_in (x3 + (3 : Int32)) L) (h4 : vp_in (x3 + (4 : Int32)) L) (h5 : vp_in (x3 + (5 : Int32)) L) (hP : va_P D vwCl (xW cI cS a v ar) H) (hQ : va_P D vwCl (mW cI bb mv mar) H) (hS : va_S (lA s) s.heap H locs) (hl : lv_has ls 4 [(0, .ref b), (1, .ref (a 0)), (2, .ref (bb 0)), (3, .int x3)])
    (kk : ∀ (v2 : kV) (ar2 : kR) (mv2 : kV) (mar2 : kR) (H1 : Heap) (locs1 : List Loc), Rel v2 ar2 mv2 mar2 → va_P D vwCl (xW cI cS a v2 ar2) H1 → va_P D vwCl (mW cI bb mv2 mar2) H1 → va_S (lA s) s.heap H1 locs1 → W p l e room_1 s m #[Value.ref b] below meth c H1 locs1 44 801 Q (F0 m 1201 ls [])) : W p l e room_1 s m #[Value.ref b] below meth c H locs 44 801 Q (F0 m 388 ls []) := by
  have hx := X.1.1.1
  have hb := X.1.1.2.1
  have hX := X.2.2.2.2.2.2.1
  have hbl := X.2.2.2.2.2.2.2
  have hbA : ¬ lA s b := Nat.not_le.mpr hbl
  obtain ⟨r, v2, ar2, mv2, mar2, e1, e2, hR2⟩ := hsim v ar mv mar hR (xs (x3 + (1 : Int32)).toNatClampNeg)
  refine lv_aload_n hx hb dL_law_388 rfl (lv_at hl 1 rfl) ?_
  refine lv_aload_n hx hb dL_law_389 rfl (lv_at hl 0 rfl) ?_
  refine lv_iload_n hx hb dL_law_390 rfl (lv_at hl 3 rfl) ?_
  refine lv_iconst (v := (1 : Int32)) hx hb dL_law_391 (by decide) ?_
  refine lv_iadd hx hb dL_law_392 ?_
  refine va_sld hx hb hX hbl hbA hS h1 dL_law_393 ?_
  refine lcallX (As := [.int (xs (x3 + (1 : Int32)).toNatClampNeg)]) (rest := []) X (cX6_move_c X.2.1 e1) q_358 kw_X6_move hP hQ hS ⟨Nat.le_of_ble_eq_true rfl, Nat.le_of_ble_eq_true rfl⟩ rfl hl.1 rfl (Nat.le_of_ble_eq_true rfl) dL_law_394 (fun H locs hP hQ hS => ?_)
  refine lv_aload_n hx hb dL_law_397 rfl (lv_at hl 2 rfl) ?_
  refine lv_aload_n hx hb dL_law_398 rfl (lv_at hl 0 rfl) ?_
  refine lv_iload_n hx hb dL_law_399 rfl (lv_at hl 3 rfl) ?_
  refine lv_iconst (v := (1 : Int32)) hx hb dL_law_400 (by decide) ?_
  refine lv_iadd hx hb dL_law_401 ?_
  refine va_sld hx hb hX hbl hbA hS h1 dL_law_402 ?_
  refine lcallM (As := [.int (xs (x3 + (1 : Int32)).toNatClampNeg)]) (rest := [.int r]) X (cX7_move_c X.2.2.1 e2) q_803 kw_X7_move hP hQ hS ⟨Nat.le_of_ble_eq_true rfl, Nat.le_of_ble_eq_true rfl⟩ rfl hl.1 rfl (Nat.le_of_ble_eq_true rfl) dL_law_403 (fun H locs hQ hP hS => ?_)
  refine lv_icmp_eq (tgt := 1201) hx hb dL_law_406 (by decide) (fun _ => ?_) (fun z => absurd rfl z)
  exact kk v2 ar2 mv2 mar2 H locs hR2 hP hQ hS
theorem lc_7 (X : lC p s m c D cI cS a bb b L xs) (hsim : Sim_pass) (hR : Rel v ar mv mar) {x3 : Int32} (h1 : vp_in (x3 + (1 : Int32)) L) (h2 : vp_in (x3 + (2 : Int32)) L) (h3 : vp_in (x3 + (3 : Int32)) L) (h4 : vp_in (x3 + (4 : Int32)) L) (h5 : vp_in (x3 + (5 : Int32)) L) (hP : va_P D vwCl (xW cI cS a v ar) H) (hQ : va_P D vwCl (mW cI bb mv mar) H) (hS : va_S (lA s) s.heap H locs) (hl : lv_has ls 4 [(0, .ref b), (1, .ref (a 0)), (2, .ref (bb 0)), (3, .int x3)])
    (kk : ∀ (v2 : kV) (ar2 : kR) (mv2 : kV) (mar2 : kR) (H1 : Heap) (locs1 : List Loc), Rel v2 ar2 mv2 mar2 → va_P D vwCl (xW cI cS a v2 ar2) H1 → va_P D vwCl (mW cI bb mv2 mar2) H1 → va_S (lA s) s.heap H1 locs1 → W p l e room_1 s m #[Value.ref b] below meth c H1 locs1 44 801 Q (F0 m 1201 ls [])) : W p l e room_1 s m #[Value.ref b] below meth c H locs 44 801 Q (F0 m 411 ls []) := by
  have hx := X.1.1.1
  have hb := X.1.1.2.1
  have hX := X.2.2.2.2.2.2.1
  have hbl := X.2.2.2.2.2.2.2
  have hbA : ¬ lA s b := Nat.not_le.mpr hbl
  obtain ⟨r, v2, ar2, mv2, mar2, e1, e2, hR2⟩ := hsim v ar mv mar hR (xs (x3 + (1 : Int32)).toNatClampNeg)
  refine lv_aload_n hx hb dL_law_411 rfl (lv_at hl 1 rfl) ?_
  refine lv_aload_n hx hb dL_law_412 rfl (lv_at hl 0 rfl) ?_
  refine lv_iload_n hx hb dL_law_413 rfl (lv_at hl 3 rfl) ?_
  refine lv_iconst (v := (1 : Int32)) hx hb dL_law_414 (by decide) ?_
  refine lv_iadd hx hb dL_law_415 ?_
  refine va_sld hx hb hX hbl hbA hS h1 dL_law_416 ?_
  refine lcallX (As := [.int (xs (x3 + (1 : Int32)).toNatClampNeg)]) (rest := []) X (cX6_pass_c X.2.1 e1) q_370 kw_X6_pass hP hQ hS ⟨Nat.le_of_ble_eq_true rfl, Nat.le_of_ble_eq_true rfl⟩ rfl hl.1 rfl (Nat.le_of_ble_eq_true rfl) dL_law_417 (fun H locs hP hQ hS => ?_)
  refine lv_aload_n hx hb dL_law_420 rfl (lv_at hl 2 rfl) ?_
  refine lv_aload_n hx hb dL_law_421 rfl (lv_at hl 0 rfl) ?_
  refine lv_iload_n hx hb dL_law_422 rfl (lv_at hl 3 rfl) ?_
  refine lv_iconst (v := (1 : Int32)) hx hb dL_law_423 (by decide) ?_
  refine lv_iadd hx hb dL_law_424 ?_
  refine va_sld hx hb hX hbl hbA hS h1 dL_law_425 ?_
  refine lcallM (As := [.int (xs (x3 + (1 : Int32)).toNatClampNeg)]) (rest := [.int r]) X (cX7_pass_c X.2.2.1 e2) q_807 kw_X7_pass hP hQ hS ⟨Nat.le_of_ble_eq_true rfl, Nat.le_of_ble_eq_true rfl⟩ rfl hl.1 rfl (Nat.le_of_ble_eq_true rfl) dL_law_426 (fun H locs hQ hP hS => ?_)
  refine lv_icmp_eq (tgt := 1201) hx hb dL_law_429 (by decide) (fun _ => ?_) (fun z => absurd rfl z)
  exact kk v2 ar2 mv2 mar2 H locs hR2 hP hQ hS
theorem lc_8 (X : lC p s m c D cI cS a bb b L xs) (hsim : Sim_tries) (hR : Rel v ar mv mar) {x3 : Int32} (h1 : vp_in (x3 + (1 : Int32)) L) (h2 : vp_in (x3 + (2 : Int32)) L) (h3 : vp_in (x3 + (3 : Int32)) L) (h4 : vp_in (x3 + (4 : Int32)) L) (h5 : vp_in (x3 + (5 : Int32)) L) (hP : va_P D vwCl (xW cI cS a v ar) H) (hQ : va_P D vwCl (mW cI bb mv mar) H) (hS : va_S (lA s) s.heap H locs) (hl : lv_has ls 4 [(0, .ref b), (1, .ref (a 0)), (2, .ref (bb 0)), (3, .int x3)])
    (kk : ∀ (v2 : kV) (ar2 : kR) (mv2 : kV) (mar2 : kR) (H1 : Heap) (locs1 : List Loc), Rel v2 ar2 mv2 mar2 → va_P D vwCl (xW cI cS a v2 ar2) H1 → va_P D vwCl (mW cI bb mv2 mar2) H1 → va_S (lA s) s.heap H1 locs1 → W p l e room_1 s m #[Value.ref b] below meth c H1 locs1 44 801 Q (F0 m 1201 ls [])) : W p l e room_1 s m #[Value.ref b] below meth c H locs 44 801 Q (F0 m 434 ls []) := by
  have hx := X.1.1.1
  have hb := X.1.1.2.1
  have hX := X.2.2.2.2.2.2.1
  have hbl := X.2.2.2.2.2.2.2
  have hbA : ¬ lA s b := Nat.not_le.mpr hbl
  obtain ⟨r, v2, ar2, mv2, mar2, e1, e2, hR2⟩ := hsim v ar mv mar hR (xs (x3 + (1 : Int32)).toNatClampNeg) (xs (x3 + (2 : Int32)).toNatClampNeg)
  refine lv_aload_n hx hb dL_law_434 rfl (lv_at hl 1 rfl) ?_
  refine lv_aload_n hx hb dL_law_435 rfl (lv_at hl 0 rfl) ?_
  refine lv_iload_n hx hb dL_law_436 rfl (lv_at hl 3 rfl) ?_
  refine lv_iconst (v := (1 : Int32)) hx hb dL_law_437 (by decide) ?_
  refine lv_iadd hx hb dL_law_438 ?_
  refine va_sld hx hb hX hbl hbA hS h1 dL_law_439 ?_
  refine lv_aload_n hx hb dL_law_440 rfl (lv_at hl 0 rfl) ?_
  refine lv_iload_n hx hb dL_law_441 rfl (lv_at hl 3 rfl) ?_
  refine lv_iconst (v := (2 : Int32)) hx hb dL_law_442 (by decide) ?_
  refine lv_iadd hx hb dL_law_443 ?_
  refine va_sld hx hb hX hbl hbA hS h2 dL_law_444 ?_
  refine lcallX (As := [.int (xs (x3 + (1 : Int32)).toNatClampNeg), .int (xs (x3 + (2 : Int32)).toNatClampNeg)]) (rest := []) X (cX6_tries_c X.2.1 e1) q_396 kw_X6_tries hP hQ hS ⟨Nat.le_of_ble_eq_true rfl, Nat.le_of_ble_eq_true rfl⟩ rfl hl.1 rfl (Nat.le_of_ble_eq_true rfl) dL_law_445 (fun H locs hP hQ hS => ?_)
  refine lv_aload_n hx hb dL_law_448 rfl (lv_at hl 2 rfl) ?_
  refine lv_aload_n hx hb dL_law_449 rfl (lv_at hl 0 rfl) ?_
  refine lv_iload_n hx hb dL_law_450 rfl (lv_at hl 3 rfl) ?_
  refine lv_iconst (v := (1 : Int32)) hx hb dL_law_451 (by decide) ?_
  refine lv_iadd hx hb dL_law_452 ?_
  refine va_sld hx hb hX hbl hbA hS h1 dL_law_453 ?_
  refine lv_aload_n hx hb dL_law_454 rfl (lv_at hl 0 rfl) ?_
  refine lv_iload_n hx hb dL_law_455 rfl (lv_at hl 3 rfl) ?_
  refine lv_iconst (v := (2 : Int32)) hx hb dL_law_456 (by decide) ?_
  refine lv_iadd hx hb dL_law_457 ?_
  refine va_sld hx hb hX hbl hbA hS h2 dL_law_458 ?_
  refine lcallM (As := [.int (xs (x3 + (1 : Int32)).toNatClampNeg), .int (xs (x3 + (2 : Int32)).toNatClampNeg)]) (rest := [.int r]) X (cX7_tries_c X.2.2.1 e2) q_823 kw_X7_tries hP hQ hS ⟨Nat.le_of_ble_eq_true rfl, Nat.le_of_ble_eq_true rfl⟩ rfl hl.1 rfl (Nat.le_of_ble_eq_true rfl) dL_law_459 (fun H locs hQ hP hS => ?_)
  refine lv_icmp_eq (tgt := 1201) hx hb dL_law_462 (by decide) (fun _ => ?_) (fun z => absurd rfl z)
  exact kk v2 ar2 mv2 mar2 H locs hR2 hP hQ hS
theorem lc_9 (X : lC p s m c D cI cS a bb b L xs) (hsim : Sim_settle) (hR : Rel v ar mv mar) {x3 : Int32} (h1 : vp_in (x3 + (1 : Int32)) L) (h2 : vp_in (x3 + (2 : Int32)) L) (h3 : vp_in (x3 + (3 : Int32)) L) (h4 : vp_in (x3 + (4 : Int32)) L) (h5 : vp_in (x3 + (5 : Int32)) L) (hP : va_P D vwCl (xW cI cS a v ar) H) (hQ : va_P D vwCl (mW cI bb mv mar) H) (hS : va_S (lA s) s.heap H locs) (hl : lv_has ls 4 [(0, .ref b), (1, .ref (a 0)), (2, .ref (bb 0)), (3, .int x3)])
    (kk : ∀ (v2 : kV) (ar2 : kR) (mv2 : kV) (mar2 : kR) (H1 : Heap) (locs1 : List Loc), Rel v2 ar2 mv2 mar2 → va_P D vwCl (xW cI cS a v2 ar2) H1 → va_P D vwCl (mW cI bb mv2 mar2) H1 → va_S (lA s) s.heap H1 locs1 → W p l e room_1 s m #[Value.ref b] below meth c H1 locs1 44 801 Q (F0 m 1201 ls [])) : W p l e room_1 s m #[Value.ref b] below meth c H locs 44 801 Q (F0 m 467 ls []) := by
  have hx := X.1.1.1
  have hb := X.1.1.2.1
  have hX := X.2.2.2.2.2.2.1
  have hbl := X.2.2.2.2.2.2.2
  have hbA : ¬ lA s b := Nat.not_le.mpr hbl
  obtain ⟨r, v2, ar2, mv2, mar2, e1, e2, hR2⟩ := hsim v ar mv mar hR (xs (x3 + (1 : Int32)).toNatClampNeg)
  refine lv_aload_n hx hb dL_law_467 rfl (lv_at hl 1 rfl) ?_
  refine lv_aload_n hx hb dL_law_468 rfl (lv_at hl 0 rfl) ?_
  refine lv_iload_n hx hb dL_law_469 rfl (lv_at hl 3 rfl) ?_
  refine lv_iconst (v := (1 : Int32)) hx hb dL_law_470 (by decide) ?_
  refine lv_iadd hx hb dL_law_471 ?_
  refine va_sld hx hb hX hbl hbA hS h1 dL_law_472 ?_
  refine lcallX (As := [.int (xs (x3 + (1 : Int32)).toNatClampNeg)]) (rest := []) X (cX6_settle_c X.2.1 e1) q_407 kw_X6_settle hP hQ hS ⟨Nat.le_of_ble_eq_true rfl, Nat.le_of_ble_eq_true rfl⟩ rfl hl.1 rfl (Nat.le_of_ble_eq_true rfl) dL_law_473 (fun H locs hP hQ hS => ?_)
  refine lv_aload_n hx hb dL_law_476 rfl (lv_at hl 2 rfl) ?_
  refine lv_aload_n hx hb dL_law_477 rfl (lv_at hl 0 rfl) ?_
  refine lv_iload_n hx hb dL_law_478 rfl (lv_at hl 3 rfl) ?_
  refine lv_iconst (v := (1 : Int32)) hx hb dL_law_479 (by decide) ?_
  refine lv_iadd hx hb dL_law_480 ?_
  refine va_sld hx hb hX hbl hbA hS h1 dL_law_481 ?_
  refine lcallM (As := [.int (xs (x3 + (1 : Int32)).toNatClampNeg)]) (rest := [.int r]) X (cX7_settle_c X.2.2.1 e2) q_827 kw_X7_settle hP hQ hS ⟨Nat.le_of_ble_eq_true rfl, Nat.le_of_ble_eq_true rfl⟩ rfl hl.1 rfl (Nat.le_of_ble_eq_true rfl) dL_law_482 (fun H locs hQ hP hS => ?_)
  refine lv_icmp_eq (tgt := 1201) hx hb dL_law_485 (by decide) (fun _ => ?_) (fun z => absurd rfl z)
  exact kk v2 ar2 mv2 mar2 H locs hR2 hP hQ hS
theorem lc_10 (X : lC p s m c D cI cS a bb b L xs) (hsim : Sim_day) (hR : Rel v ar mv mar) {x3 : Int32} (h1 : vp_in (x3 + (1 : Int32)) L) (h2 : vp_in (x3 + (2 : Int32)) L) (h3 : vp_in (x3 + (3 : Int32)) L) (h4 : vp_in (x3 + (4 : Int32)) L) (h5 : vp_in (x3 + (5 : Int32)) L) (hP : va_P D vwCl (xW cI cS a v ar) H) (hQ : va_P D vwCl (mW cI bb mv mar) H) (hS : va_S (lA s) s.heap H locs) (hl : lv_has ls 4 [(0, .ref b), (1, .ref (a 0)), (2, .ref (bb 0)), (3, .int x3)])
    (kk : ∀ (v2 : kV) (ar2 : kR) (mv2 : kV) (mar2 : kR) (H1 : Heap) (locs1 : List Loc), Rel v2 ar2 mv2 mar2 → va_P D vwCl (xW cI cS a v2 ar2) H1 → va_P D vwCl (mW cI bb mv2 mar2) H1 → va_S (lA s) s.heap H1 locs1 → W p l e room_1 s m #[Value.ref b] below meth c H1 locs1 44 801 Q (F0 m 1201 ls [])) : W p l e room_1 s m #[Value.ref b] below meth c H locs 44 801 Q (F0 m 490 ls []) := by
  have hx := X.1.1.1
  have hb := X.1.1.2.1
  have hX := X.2.2.2.2.2.2.1
  have hbl := X.2.2.2.2.2.2.2
  have hbA : ¬ lA s b := Nat.not_le.mpr hbl
  obtain ⟨r, v2, ar2, mv2, mar2, e1, e2, hR2⟩ := hsim v ar mv mar hR (xs (x3 + (1 : Int32)).toNatClampNeg) (xs (x3 + (2 : Int32)).toNatClampNeg) (xs (x3 + (3 : Int32)).toNatClampNeg) (xs (x3 + (4 : Int32)).toNatClampNeg) (xs (x3 + (5 : Int32)).toNatClampNeg)
  refine lv_aload_n hx hb dL_law_490 rfl (lv_at hl 1 rfl) ?_
  refine lv_aload_n hx hb dL_law_491 rfl (lv_at hl 0 rfl) ?_
  refine lv_iload_n hx hb dL_law_492 rfl (lv_at hl 3 rfl) ?_
  refine lv_iconst (v := (1 : Int32)) hx hb dL_law_493 (by decide) ?_
  refine lv_iadd hx hb dL_law_494 ?_
  refine va_sld hx hb hX hbl hbA hS h1 dL_law_495 ?_
  refine lv_aload_n hx hb dL_law_496 rfl (lv_at hl 0 rfl) ?_
  refine lv_iload_n hx hb dL_law_497 rfl (lv_at hl 3 rfl) ?_
  refine lv_iconst (v := (2 : Int32)) hx hb dL_law_498 (by decide) ?_
  refine lv_iadd hx hb dL_law_499 ?_
  refine va_sld hx hb hX hbl hbA hS h2 dL_law_500 ?_
  refine lv_aload_n hx hb dL_law_501 rfl (lv_at hl 0 rfl) ?_
  refine lv_iload_n hx hb dL_law_502 rfl (lv_at hl 3 rfl) ?_
  refine lv_iconst (v := (3 : Int32)) hx hb dL_law_503 (by decide) ?_
  refine lv_iadd hx hb dL_law_504 ?_
  refine va_sld hx hb hX hbl hbA hS h3 dL_law_505 ?_
  refine lv_aload_n hx hb dL_law_506 rfl (lv_at hl 0 rfl) ?_
  refine lv_iload_n hx hb dL_law_507 rfl (lv_at hl 3 rfl) ?_
  refine lv_iconst (v := (4 : Int32)) hx hb dL_law_508 (by decide) ?_
  refine lv_iadd hx hb dL_law_509 ?_
  refine va_sld hx hb hX hbl hbA hS h4 dL_law_510 ?_
  refine lv_aload_n hx hb dL_law_511 rfl (lv_at hl 0 rfl) ?_
  refine lv_iload_n hx hb dL_law_512 rfl (lv_at hl 3 rfl) ?_
  refine lv_iconst (v := (5 : Int32)) hx hb dL_law_513 (by decide) ?_
  refine lv_iadd hx hb dL_law_514 ?_
  refine va_sld hx hb hX hbl hbA hS h5 dL_law_515 ?_
  refine lcallX (As := [.int (xs (x3 + (1 : Int32)).toNatClampNeg), .int (xs (x3 + (2 : Int32)).toNatClampNeg), .int (xs (x3 + (3 : Int32)).toNatClampNeg), .int (xs (x3 + (4 : Int32)).toNatClampNeg), .int (xs (x3 + (5 : Int32)).toNatClampNeg)]) (rest := []) X (cX6_day_c X.2.1 e1) q_411 kw_X6_day hP hQ hS ⟨Nat.le_of_ble_eq_true rfl, Nat.le_of_ble_eq_true rfl⟩ rfl hl.1 rfl (Nat.le_of_ble_eq_true rfl) dL_law_516 (fun H locs hP hQ hS => ?_)
  refine lv_aload_n hx hb dL_law_519 rfl (lv_at hl 2 rfl) ?_
  refine lv_aload_n hx hb dL_law_520 rfl (lv_at hl 0 rfl) ?_
  refine lv_iload_n hx hb dL_law_521 rfl (lv_at hl 3 rfl) ?_
  refine lv_iconst (v := (1 : Int32)) hx hb dL_law_522 (by decide) ?_
  refine lv_iadd hx hb dL_law_523 ?_
  refine va_sld hx hb hX hbl hbA hS h1 dL_law_524 ?_
  refine lv_aload_n hx hb dL_law_525 rfl (lv_at hl 0 rfl) ?_
  refine lv_iload_n hx hb dL_law_526 rfl (lv_at hl 3 rfl) ?_
  refine lv_iconst (v := (2 : Int32)) hx hb dL_law_527 (by decide) ?_
  refine lv_iadd hx hb dL_law_528 ?_
  refine va_sld hx hb hX hbl hbA hS h2 dL_law_529 ?_
  refine lv_aload_n hx hb dL_law_530 rfl (lv_at hl 0 rfl) ?_
  refine lv_iload_n hx hb dL_law_531 rfl (lv_at hl 3 rfl) ?_
  refine lv_iconst (v := (3 : Int32)) hx hb dL_law_532 (by decide) ?_
  refine lv_iadd hx hb dL_law_533 ?_
  refine va_sld hx hb hX hbl hbA hS h3 dL_law_534 ?_
  refine lv_aload_n hx hb dL_law_535 rfl (lv_at hl 0 rfl) ?_
  refine lv_iload_n hx hb dL_law_536 rfl (lv_at hl 3 rfl) ?_
  refine lv_iconst (v := (4 : Int32)) hx hb dL_law_537 (by decide) ?_
  refine lv_iadd hx hb dL_law_538 ?_
  refine va_sld hx hb hX hbl hbA hS h4 dL_law_539 ?_
  refine lv_aload_n hx hb dL_law_540 rfl (lv_at hl 0 rfl) ?_
  refine lv_iload_n hx hb dL_law_541 rfl (lv_at hl 3 rfl) ?_
  refine lv_iconst (v := (5 : Int32)) hx hb dL_law_542 (by decide) ?_
  refine lv_iadd hx hb dL_law_543 ?_
  refine va_sld hx hb hX hbl hbA hS h5 dL_law_544 ?_
  refine lcallM (As := [.int (xs (x3 + (1 : Int32)).toNatClampNeg), .int (xs (x3 + (2 : Int32)).toNatClampNeg), .int (xs (x3 + (3 : Int32)).toNatClampNeg), .int (xs (x3 + (4 : Int32)).toNatClampNeg), .int (xs (x3 + (5 : Int32)).toNatClampNeg)]) (rest := [.int r]) X (cX7_day_c X.2.2.1 e2) q_831 kw_X7_day hP hQ hS ⟨Nat.le_of_ble_eq_true rfl, Nat.le_of_ble_eq_true rfl⟩ rfl hl.1 rfl (Nat.le_of_ble_eq_true rfl) dL_law_545 (fun H locs hQ hP hS => ?_)
  refine lv_icmp_eq (tgt := 1201) hx hb dL_law_548 (by decide) (fun _ => ?_) (fun z => absurd rfl z)
  exact kk v2 ar2 mv2 mar2 H locs hR2 hP hQ hS
theorem lc_11 (X : lC p s m c D cI cS a bb b L xs) (hsim : Sim_least) (hR : Rel v ar mv mar) {x3 : Int32} (h1 : vp_in (x3 + (1 : Int32)) L) (h2 : vp_in (x3 + (2 : Int32)) L) (h3 : vp_in (x3 + (3 : Int32)) L) (h4 : vp_in (x3 + (4 : Int32)) L) (h5 : vp_in (x3 + (5 : Int32)) L) (hP : va_P D vwCl (xW cI cS a v ar) H) (hQ : va_P D vwCl (mW cI bb mv mar) H) (hS : va_S (lA s) s.heap H locs) (hl : lv_has ls 4 [(0, .ref b), (1, .ref (a 0)), (2, .ref (bb 0)), (3, .int x3)])
    (kk : ∀ (v2 : kV) (ar2 : kR) (mv2 : kV) (mar2 : kR) (H1 : Heap) (locs1 : List Loc), Rel v2 ar2 mv2 mar2 → va_P D vwCl (xW cI cS a v2 ar2) H1 → va_P D vwCl (mW cI bb mv2 mar2) H1 → va_S (lA s) s.heap H1 locs1 → W p l e room_1 s m #[Value.ref b] below meth c H1 locs1 44 801 Q (F0 m 1201 ls [])) : W p l e room_1 s m #[Value.ref b] below meth c H locs 44 801 Q (F0 m 553 ls []) := by
  have hx := X.1.1.1
  have hb := X.1.1.2.1
  have hX := X.2.2.2.2.2.2.1
  have hbl := X.2.2.2.2.2.2.2
  have hbA : ¬ lA s b := Nat.not_le.mpr hbl
  obtain ⟨r, e1, e2⟩ := hsim v ar mv mar hR (xs (x3 + (1 : Int32)).toNatClampNeg)
  refine lv_aload_n hx hb dL_law_553 rfl (lv_at hl 1 rfl) ?_
  refine lv_aload_n hx hb dL_law_554 rfl (lv_at hl 0 rfl) ?_
  refine lv_iload_n hx hb dL_law_555 rfl (lv_at hl 3 rfl) ?_
  refine lv_iconst (v := (1 : Int32)) hx hb dL_law_556 (by decide) ?_
  refine lv_iadd hx hb dL_law_557 ?_
  refine va_sld hx hb hX hbl hbA hS h1 dL_law_558 ?_
  refine lcallX (As := [.int (xs (x3 + (1 : Int32)).toNatClampNeg)]) (rest := []) X (cX6_least_c X.2.1 e1) q_433 kw_X6_least hP hQ hS ⟨Nat.le_of_ble_eq_true rfl, Nat.le_of_ble_eq_true rfl⟩ rfl hl.1 rfl (Nat.le_of_ble_eq_true rfl) dL_law_559 (fun H locs hP hQ hS => ?_)
  refine lv_aload_n hx hb dL_law_562 rfl (lv_at hl 2 rfl) ?_
  refine lv_aload_n hx hb dL_law_563 rfl (lv_at hl 0 rfl) ?_
  refine lv_iload_n hx hb dL_law_564 rfl (lv_at hl 3 rfl) ?_
  refine lv_iconst (v := (1 : Int32)) hx hb dL_law_565 (by decide) ?_
  refine lv_iadd hx hb dL_law_566 ?_
  refine va_sld hx hb hX hbl hbA hS h1 dL_law_567 ?_
  refine lcallM (As := [.int (xs (x3 + (1 : Int32)).toNatClampNeg)]) (rest := [.int r]) X (cX7_least_c X.2.2.1 e2) q_850 kw_X7_least hP hQ hS ⟨Nat.le_of_ble_eq_true rfl, Nat.le_of_ble_eq_true rfl⟩ rfl hl.1 rfl (Nat.le_of_ble_eq_true rfl) dL_law_568 (fun H locs hQ hP hS => ?_)
  refine lv_icmp_eq (tgt := 1201) hx hb dL_law_571 (by decide) (fun _ => ?_) (fun z => absurd rfl z)
  exact kk v ar mv mar H locs hR hP hQ hS
theorem lc_12 (X : lC p s m c D cI cS a bb b L xs) (hsim : Sim_apart) (hR : Rel v ar mv mar) {x3 : Int32} (h1 : vp_in (x3 + (1 : Int32)) L) (h2 : vp_in (x3 + (2 : Int32)) L) (h3 : vp_in (x3 + (3 : Int32)) L) (h4 : vp_in (x3 + (4 : Int32)) L) (h5 : vp_in (x3 + (5 : Int32)) L) (hP : va_P D vwCl (xW cI cS a v ar) H) (hQ : va_P D vwCl (mW cI bb mv mar) H) (hS : va_S (lA s) s.heap H locs) (hl : lv_has ls 4 [(0, .ref b), (1, .ref (a 0)), (2, .ref (bb 0)), (3, .int x3)])
    (kk : ∀ (v2 : kV) (ar2 : kR) (mv2 : kV) (mar2 : kR) (H1 : Heap) (locs1 : List Loc), Rel v2 ar2 mv2 mar2 → va_P D vwCl (xW cI cS a v2 ar2) H1 → va_P D vwCl (mW cI bb mv2 mar2) H1 → va_S (lA s) s.heap H1 locs1 → W p l e room_1 s m #[Value.ref b] below meth c H1 locs1 44 801 Q (F0 m 1201 ls [])) : W p l e room_1 s m #[Value.ref b] below meth c H locs 44 801 Q (F0 m 576 ls []) := by
  have hx := X.1.1.1
  have hb := X.1.1.2.1
  have hX := X.2.2.2.2.2.2.1
  have hbl := X.2.2.2.2.2.2.2
  have hbA : ¬ lA s b := Nat.not_le.mpr hbl
  obtain ⟨r, e1, e2⟩ := hsim v ar mv mar hR (xs (x3 + (1 : Int32)).toNatClampNeg) (xs (x3 + (2 : Int32)).toNatClampNeg)
  refine lv_aload_n hx hb dL_law_576 rfl (lv_at hl 1 rfl) ?_
  refine lv_aload_n hx hb dL_law_577 rfl (lv_at hl 0 rfl) ?_
  refine lv_iload_n hx hb dL_law_578 rfl (lv_at hl 3 rfl) ?_
  refine lv_iconst (v := (1 : Int32)) hx hb dL_law_579 (by decide) ?_
  refine lv_iadd hx hb dL_law_580 ?_
  refine va_sld hx hb hX hbl hbA hS h1 dL_law_581 ?_
  refine lv_aload_n hx hb dL_law_582 rfl (lv_at hl 0 rfl) ?_
  refine lv_iload_n hx hb dL_law_583 rfl (lv_at hl 3 rfl) ?_
  refine lv_iconst (v := (2 : Int32)) hx hb dL_law_584 (by decide) ?_
  refine lv_iadd hx hb dL_law_585 ?_
  refine va_sld hx hb hX hbl hbA hS h2 dL_law_586 ?_
  refine lcallX (As := [.int (xs (x3 + (1 : Int32)).toNatClampNeg), .int (xs (x3 + (2 : Int32)).toNatClampNeg)]) (rest := []) X (cX6_apart_c X.2.1 e1) q_447 kw_X6_apart hP hQ hS ⟨Nat.le_of_ble_eq_true rfl, Nat.le_of_ble_eq_true rfl⟩ rfl hl.1 rfl (Nat.le_of_ble_eq_true rfl) dL_law_587 (fun H locs hP hQ hS => ?_)
  refine lv_aload_n hx hb dL_law_590 rfl (lv_at hl 2 rfl) ?_
  refine lv_aload_n hx hb dL_law_591 rfl (lv_at hl 0 rfl) ?_
  refine lv_iload_n hx hb dL_law_592 rfl (lv_at hl 3 rfl) ?_
  refine lv_iconst (v := (1 : Int32)) hx hb dL_law_593 (by decide) ?_
  refine lv_iadd hx hb dL_law_594 ?_
  refine va_sld hx hb hX hbl hbA hS h1 dL_law_595 ?_
  refine lv_aload_n hx hb dL_law_596 rfl (lv_at hl 0 rfl) ?_
  refine lv_iload_n hx hb dL_law_597 rfl (lv_at hl 3 rfl) ?_
  refine lv_iconst (v := (2 : Int32)) hx hb dL_law_598 (by decide) ?_
  refine lv_iadd hx hb dL_law_599 ?_
  refine va_sld hx hb hX hbl hbA hS h2 dL_law_600 ?_
  refine lcallM (As := [.int (xs (x3 + (1 : Int32)).toNatClampNeg), .int (xs (x3 + (2 : Int32)).toNatClampNeg)]) (rest := [.int r]) X (cX7_apart_c X.2.2.1 e2) q_854 kw_X7_apart hP hQ hS ⟨Nat.le_of_ble_eq_true rfl, Nat.le_of_ble_eq_true rfl⟩ rfl hl.1 rfl (Nat.le_of_ble_eq_true rfl) dL_law_601 (fun H locs hQ hP hS => ?_)
  refine lv_icmp_eq (tgt := 1201) hx hb dL_law_604 (by decide) (fun _ => ?_) (fun z => absurd rfl z)
  exact kk v ar mv mar H locs hR hP hQ hS
theorem lc_13 (X : lC p s m c D cI cS a bb b L xs) (hsim : Sim_closest) (hR : Rel v ar mv mar) {x3 : Int32} (h1 : vp_in (x3 + (1 : Int32)) L) (h2 : vp_in (x3 + (2 : Int32)) L) (h3 : vp_in (x3 + (3 : Int32)) L) (h4 : vp_in (x3 + (4 : Int32)) L) (h5 : vp_in (x3 + (5 : Int32)) L) (hP : va_P D vwCl (xW cI cS a v ar) H) (hQ : va_P D vwCl (mW cI bb mv mar) H) (hS : va_S (lA s) s.heap H locs) (hl : lv_has ls 4 [(0, .ref b), (1, .ref (a 0)), (2, .ref (bb 0)), (3, .int x3)])
    (kk : ∀ (v2 : kV) (ar2 : kR) (mv2 : kV) (mar2 : kR) (H1 : Heap) (locs1 : List Loc), Rel v2 ar2 mv2 mar2 → va_P D vwCl (xW cI cS a v2 ar2) H1 → va_P D vwCl (mW cI bb mv2 mar2) H1 → va_S (lA s) s.heap H1 locs1 → W p l e room_1 s m #[Value.ref b] below meth c H1 locs1 44 801 Q (F0 m 1201 ls [])) : W p l e room_1 s m #[Value.ref b] below meth c H locs 44 801 Q (F0 m 609 ls []) := by
  have hx := X.1.1.1
  have hb := X.1.1.2.1
  have hX := X.2.2.2.2.2.2.1
  have hbl := X.2.2.2.2.2.2.2
  have hbA : ¬ lA s b := Nat.not_le.mpr hbl
  obtain ⟨r, e1, e2⟩ := hsim v ar mv mar hR (xs (x3 + (1 : Int32)).toNatClampNeg)
  refine lv_aload_n hx hb dL_law_609 rfl (lv_at hl 1 rfl) ?_
  refine lv_aload_n hx hb dL_law_610 rfl (lv_at hl 0 rfl) ?_
  refine lv_iload_n hx hb dL_law_611 rfl (lv_at hl 3 rfl) ?_
  refine lv_iconst (v := (1 : Int32)) hx hb dL_law_612 (by decide) ?_
  refine lv_iadd hx hb dL_law_613 ?_
  refine va_sld hx hb hX hbl hbA hS h1 dL_law_614 ?_
  refine lcallX (As := [.int (xs (x3 + (1 : Int32)).toNatClampNeg)]) (rest := []) X (cX6_closest_c X.2.1 e1) q_455 kw_X6_closest hP hQ hS ⟨Nat.le_of_ble_eq_true rfl, Nat.le_of_ble_eq_true rfl⟩ rfl hl.1 rfl (Nat.le_of_ble_eq_true rfl) dL_law_615 (fun H locs hP hQ hS => ?_)
  refine lv_aload_n hx hb dL_law_618 rfl (lv_at hl 2 rfl) ?_
  refine lv_aload_n hx hb dL_law_619 rfl (lv_at hl 0 rfl) ?_
  refine lv_iload_n hx hb dL_law_620 rfl (lv_at hl 3 rfl) ?_
  refine lv_iconst (v := (1 : Int32)) hx hb dL_law_621 (by decide) ?_
  refine lv_iadd hx hb dL_law_622 ?_
  refine va_sld hx hb hX hbl hbA hS h1 dL_law_623 ?_
  refine lcallM (As := [.int (xs (x3 + (1 : Int32)).toNatClampNeg)]) (rest := [.int r]) X (cX7_closest_c X.2.2.1 e2) q_858 kw_X7_closest hP hQ hS ⟨Nat.le_of_ble_eq_true rfl, Nat.le_of_ble_eq_true rfl⟩ rfl hl.1 rfl (Nat.le_of_ble_eq_true rfl) dL_law_624 (fun H locs hQ hP hS => ?_)
  refine lv_icmp_eq (tgt := 1201) hx hb dL_law_627 (by decide) (fun _ => ?_) (fun z => absurd rfl z)
  exact kk v ar mv mar H locs hR hP hQ hS
theorem lc_14 (X : lC p s m c D cI cS a bb b L xs) (hsim : Sim_rack) (hR : Rel v ar mv mar) {x3 : Int32} (h1 : vp_in (x3 + (1 : Int32)) L) (h2 : vp_in (x3 + (2 : Int32)) L) (h3 : vp_in (x3 + (3 : Int32)) L) (h4 : vp_in (x3 + (4 : Int32)) L) (h5 : vp_in (x3 + (5 : Int32)) L) (hP : va_P D vwCl (xW cI cS a v ar) H) (hQ : va_P D vwCl (mW cI bb mv mar) H) (hS : va_S (lA s) s.heap H locs) (hl : lv_has ls 4 [(0, .ref b), (1, .ref (a 0)), (2, .ref (bb 0)), (3, .int x3)])
    (kk : ∀ (v2 : kV) (ar2 : kR) (mv2 : kV) (mar2 : kR) (H1 : Heap) (locs1 : List Loc), Rel v2 ar2 mv2 mar2 → va_P D vwCl (xW cI cS a v2 ar2) H1 → va_P D vwCl (mW cI bb mv2 mar2) H1 → va_S (lA s) s.heap H1 locs1 → W p l e room_1 s m #[Value.ref b] below meth c H1 locs1 44 801 Q (F0 m 1201 ls [])) : W p l e room_1 s m #[Value.ref b] below meth c H locs 44 801 Q (F0 m 632 ls []) := by
  have hx := X.1.1.1
  have hb := X.1.1.2.1
  have hX := X.2.2.2.2.2.2.1
  have hbl := X.2.2.2.2.2.2.2
  have hbA : ¬ lA s b := Nat.not_le.mpr hbl
  obtain ⟨r, v2, ar2, mv2, mar2, e1, e2, hR2⟩ := hsim v ar mv mar hR (xs (x3 + (1 : Int32)).toNatClampNeg) (xs (x3 + (2 : Int32)).toNatClampNeg)
  refine lv_aload_n hx hb dL_law_632 rfl (lv_at hl 1 rfl) ?_
  refine lv_aload_n hx hb dL_law_633 rfl (lv_at hl 0 rfl) ?_
  refine lv_iload_n hx hb dL_law_634 rfl (lv_at hl 3 rfl) ?_
  refine lv_iconst (v := (1 : Int32)) hx hb dL_law_635 (by decide) ?_
  refine lv_iadd hx hb dL_law_636 ?_
  refine va_sld hx hb hX hbl hbA hS h1 dL_law_637 ?_
  refine lv_aload_n hx hb dL_law_638 rfl (lv_at hl 0 rfl) ?_
  refine lv_iload_n hx hb dL_law_639 rfl (lv_at hl 3 rfl) ?_
  refine lv_iconst (v := (2 : Int32)) hx hb dL_law_640 (by decide) ?_
  refine lv_iadd hx hb dL_law_641 ?_
  refine va_sld hx hb hX hbl hbA hS h2 dL_law_642 ?_
  refine lcallX (As := [.int (xs (x3 + (1 : Int32)).toNatClampNeg), .int (xs (x3 + (2 : Int32)).toNatClampNeg)]) (rest := []) X (cX6_rack_c X.2.1 e1) q_460 kw_X6_rack hP hQ hS ⟨Nat.le_of_ble_eq_true rfl, Nat.le_of_ble_eq_true rfl⟩ rfl hl.1 rfl (Nat.le_of_ble_eq_true rfl) dL_law_643 (fun H locs hP hQ hS => ?_)
  refine lv_aload_n hx hb dL_law_646 rfl (lv_at hl 2 rfl) ?_
  refine lv_aload_n hx hb dL_law_647 rfl (lv_at hl 0 rfl) ?_
  refine lv_iload_n hx hb dL_law_648 rfl (lv_at hl 3 rfl) ?_
  refine lv_iconst (v := (1 : Int32)) hx hb dL_law_649 (by decide) ?_
  refine lv_iadd hx hb dL_law_650 ?_
  refine va_sld hx hb hX hbl hbA hS h1 dL_law_651 ?_
  refine lv_aload_n hx hb dL_law_652 rfl (lv_at hl 0 rfl) ?_
  refine lv_iload_n hx hb dL_law_653 rfl (lv_at hl 3 rfl) ?_
  refine lv_iconst (v := (2 : Int32)) hx hb dL_law_654 (by decide) ?_
  refine lv_iadd hx hb dL_law_655 ?_
  refine va_sld hx hb hX hbl hbA hS h2 dL_law_656 ?_
  refine lcallM (As := [.int (xs (x3 + (1 : Int32)).toNatClampNeg), .int (xs (x3 + (2 : Int32)).toNatClampNeg)]) (rest := [.int r]) X (cX7_rack_c X.2.2.1 e2) q_862 kw_X7_rack hP hQ hS ⟨Nat.le_of_ble_eq_true rfl, Nat.le_of_ble_eq_true rfl⟩ rfl hl.1 rfl (Nat.le_of_ble_eq_true rfl) dL_law_657 (fun H locs hQ hP hS => ?_)
  refine lv_icmp_eq (tgt := 1201) hx hb dL_law_660 (by decide) (fun _ => ?_) (fun z => absurd rfl z)
  exact kk v2 ar2 mv2 mar2 H locs hR2 hP hQ hS
theorem lc_15 (X : lC p s m c D cI cS a bb b L xs) (hsim : Sim_stow) (hR : Rel v ar mv mar) {x3 : Int32} (h1 : vp_in (x3 + (1 : Int32)) L) (h2 : vp_in (x3 + (2 : Int32)) L) (h3 : vp_in (x3 + (3 : Int32)) L) (h4 : vp_in (x3 + (4 : Int32)) L) (h5 : vp_in (x3 + (5 : Int32)) L) (hP : va_P D vwCl (xW cI cS a v ar) H) (hQ : va_P D vwCl (mW cI bb mv mar) H) (hS : va_S (lA s) s.heap H locs) (hl : lv_has ls 4 [(0, .ref b), (1, .ref (a 0)), (2, .ref (bb 0)), (3, .int x3)])
    (kk : ∀ (v2 : kV) (ar2 : kR) (mv2 : kV) (mar2 : kR) (H1 : Heap) (locs1 : List Loc), Rel v2 ar2 mv2 mar2 → va_P D vwCl (xW cI cS a v2 ar2) H1 → va_P D vwCl (mW cI bb mv2 mar2) H1 → va_S (lA s) s.heap H1 locs1 → W p l e room_1 s m #[Value.ref b] below meth c H1 locs1 44 801 Q (F0 m 1201 ls [])) : W p l e room_1 s m #[Value.ref b] below meth c H locs 44 801 Q (F0 m 665 ls []) := by
  have hx := X.1.1.1
  have hb := X.1.1.2.1
  have hX := X.2.2.2.2.2.2.1
  have hbl := X.2.2.2.2.2.2.2
  have hbA : ¬ lA s b := Nat.not_le.mpr hbl
  obtain ⟨r, v2, ar2, mv2, mar2, e1, e2, hR2⟩ := hsim v ar mv mar hR (xs (x3 + (1 : Int32)).toNatClampNeg) (xs (x3 + (2 : Int32)).toNatClampNeg)
  refine lv_aload_n hx hb dL_law_665 rfl (lv_at hl 1 rfl) ?_
  refine lv_aload_n hx hb dL_law_666 rfl (lv_at hl 0 rfl) ?_
  refine lv_iload_n hx hb dL_law_667 rfl (lv_at hl 3 rfl) ?_
  refine lv_iconst (v := (1 : Int32)) hx hb dL_law_668 (by decide) ?_
  refine lv_iadd hx hb dL_law_669 ?_
  refine va_sld hx hb hX hbl hbA hS h1 dL_law_670 ?_
  refine lv_aload_n hx hb dL_law_671 rfl (lv_at hl 0 rfl) ?_
  refine lv_iload_n hx hb dL_law_672 rfl (lv_at hl 3 rfl) ?_
  refine lv_iconst (v := (2 : Int32)) hx hb dL_law_673 (by decide) ?_
  refine lv_iadd hx hb dL_law_674 ?_
  refine va_sld hx hb hX hbl hbA hS h2 dL_law_675 ?_
  refine lcallX (As := [.int (xs (x3 + (1 : Int32)).toNatClampNeg), .int (xs (x3 + (2 : Int32)).toNatClampNeg)]) (rest := []) X (cX6_stow_c X.2.1 e1) q_474 kw_X6_stow hP hQ hS ⟨Nat.le_of_ble_eq_true rfl, Nat.le_of_ble_eq_true rfl⟩ rfl hl.1 rfl (Nat.le_of_ble_eq_true rfl) dL_law_676 (fun H locs hP hQ hS => ?_)
  refine lv_aload_n hx hb dL_law_679 rfl (lv_at hl 2 rfl) ?_
  refine lv_aload_n hx hb dL_law_680 rfl (lv_at hl 0 rfl) ?_
  refine lv_iload_n hx hb dL_law_681 rfl (lv_at hl 3 rfl) ?_
  refine lv_iconst (v := (1 : Int32)) hx hb dL_law_682 (by decide) ?_
  refine lv_iadd hx hb dL_law_683 ?_
  refine va_sld hx hb hX hbl hbA hS h1 dL_law_684 ?_
  refine lv_aload_n hx hb dL_law_685 rfl (lv_at hl 0 rfl) ?_
  refine lv_iload_n hx hb dL_law_686 rfl (lv_at hl 3 rfl) ?_
  refine lv_iconst (v := (2 : Int32)) hx hb dL_law_687 (by decide) ?_
  refine lv_iadd hx hb dL_law_688 ?_
  refine va_sld hx hb hX hbl hbA hS h2 dL_law_689 ?_
  refine lcallM (As := [.int (xs (x3 + (1 : Int32)).toNatClampNeg), .int (xs (x3 + (2 : Int32)).toNatClampNeg)]) (rest := [.int r]) X (cX7_stow_c X.2.2.1 e2) q_866 kw_X7_stow hP hQ hS ⟨Nat.le_of_ble_eq_true rfl, Nat.le_of_ble_eq_true rfl⟩ rfl hl.1 rfl (Nat.le_of_ble_eq_true rfl) dL_law_690 (fun H locs hQ hP hS => ?_)
  refine lv_icmp_eq (tgt := 1201) hx hb dL_law_693 (by decide) (fun _ => ?_) (fun z => absurd rfl z)
  exact kk v2 ar2 mv2 mar2 H locs hR2 hP hQ hS
theorem lc_16 (X : lC p s m c D cI cS a bb b L xs) (hsim : Sim_stowed) (hR : Rel v ar mv mar) {x3 : Int32} (h1 : vp_in (x3 + (1 : Int32)) L) (h2 : vp_in (x3 + (2 : Int32)) L) (h3 : vp_in (x3 + (3 : Int32)) L) (h4 : vp_in (x3 + (4 : Int32)) L) (h5 : vp_in (x3 + (5 : Int32)) L) (hP : va_P D vwCl (xW cI cS a v ar) H) (hQ : va_P D vwCl (mW cI bb mv mar) H) (hS : va_S (lA s) s.heap H locs) (hl : lv_has ls 4 [(0, .ref b), (1, .ref (a 0)), (2, .ref (bb 0)), (3, .int x3)])
    (kk : ∀ (v2 : kV) (ar2 : kR) (mv2 : kV) (mar2 : kR) (H1 : Heap) (locs1 : List Loc), Rel v2 ar2 mv2 mar2 → va_P D vwCl (xW cI cS a v2 ar2) H1 → va_P D vwCl (mW cI bb mv2 mar2) H1 → va_S (lA s) s.heap H1 locs1 → W p l e room_1 s m #[Value.ref b] below meth c H1 locs1 44 801 Q (F0 m 1201 ls [])) : W p l e room_1 s m #[Value.ref b] below meth c H locs 44 801 Q (F0 m 698 ls []) := by
  have hx := X.1.1.1
  have hb := X.1.1.2.1
  have hX := X.2.2.2.2.2.2.1
  have hbl := X.2.2.2.2.2.2.2
  have hbA : ¬ lA s b := Nat.not_le.mpr hbl
  obtain ⟨r, v2, ar2, mv2, mar2, e1, e2, hR2⟩ := hsim v ar mv mar hR (xs (x3 + (1 : Int32)).toNatClampNeg)
  refine lv_aload_n hx hb dL_law_698 rfl (lv_at hl 1 rfl) ?_
  refine lv_aload_n hx hb dL_law_699 rfl (lv_at hl 0 rfl) ?_
  refine lv_iload_n hx hb dL_law_700 rfl (lv_at hl 3 rfl) ?_
  refine lv_iconst (v := (1 : Int32)) hx hb dL_law_701 (by decide) ?_
  refine lv_iadd hx hb dL_law_702 ?_
  refine va_sld hx hb hX hbl hbA hS h1 dL_law_703 ?_
  refine lcallX (As := [.int (xs (x3 + (1 : Int32)).toNatClampNeg)]) (rest := []) X (cX6_stowed_c X.2.1 e1) q_486 kw_X6_stowed hP hQ hS ⟨Nat.le_of_ble_eq_true rfl, Nat.le_of_ble_eq_true rfl⟩ rfl hl.1 rfl (Nat.le_of_ble_eq_true rfl) dL_law_704 (fun H locs hP hQ hS => ?_)
  refine lv_aload_n hx hb dL_law_707 rfl (lv_at hl 2 rfl) ?_
  refine lv_aload_n hx hb dL_law_708 rfl (lv_at hl 0 rfl) ?_
  refine lv_iload_n hx hb dL_law_709 rfl (lv_at hl 3 rfl) ?_
  refine lv_iconst (v := (1 : Int32)) hx hb dL_law_710 (by decide) ?_
  refine lv_iadd hx hb dL_law_711 ?_
  refine va_sld hx hb hX hbl hbA hS h1 dL_law_712 ?_
  refine lcallM (As := [.int (xs (x3 + (1 : Int32)).toNatClampNeg)]) (rest := [.int r]) X (cX7_stowed_c X.2.2.1 e2) q_870 kw_X7_stowed hP hQ hS ⟨Nat.le_of_ble_eq_true rfl, Nat.le_of_ble_eq_true rfl⟩ rfl hl.1 rfl (Nat.le_of_ble_eq_true rfl) dL_law_713 (fun H locs hQ hP hS => ?_)
  refine lv_icmp_eq (tgt := 1201) hx hb dL_law_716 (by decide) (fun _ => ?_) (fun z => absurd rfl z)
  exact kk v2 ar2 mv2 mar2 H locs hR2 hP hQ hS
theorem lc_17 (X : lC p s m c D cI cS a bb b L xs) (hsim : Sim_reading) (hR : Rel v ar mv mar) {x3 : Int32} (h1 : vp_in (x3 + (1 : Int32)) L) (h2 : vp_in (x3 + (2 : Int32)) L) (h3 : vp_in (x3 + (3 : Int32)) L) (h4 : vp_in (x3 + (4 : Int32)) L) (h5 : vp_in (x3 + (5 : Int32)) L) (hP : va_P D vwCl (xW cI cS a v ar) H) (hQ : va_P D vwCl (mW cI bb mv mar) H) (hS : va_S (lA s) s.heap H locs) (hl : lv_has ls 4 [(0, .ref b), (1, .ref (a 0)), (2, .ref (bb 0)), (3, .int x3)])
    (kk : ∀ (v2 : kV) (ar2 : kR) (mv2 : kV) (mar2 : kR) (H1 : Heap) (locs1 : List Loc), Rel v2 ar2 mv2 mar2 → va_P D vwCl (xW cI cS a v2 ar2) H1 → va_P D vwCl (mW cI bb mv2 mar2) H1 → va_S (lA s) s.heap H1 locs1 → W p l e room_1 s m #[Value.ref b] below meth c H1 locs1 44 801 Q (F0 m 1201 ls [])) : W p l e room_1 s m #[Value.ref b] below meth c H locs 44 801 Q (F0 m 721 ls []) := by
  have hx := X.1.1.1
  have hb := X.1.1.2.1
  have hX := X.2.2.2.2.2.2.1
  have hbl := X.2.2.2.2.2.2.2
  have hbA : ¬ lA s b := Nat.not_le.mpr hbl
  obtain ⟨r, v2, ar2, mv2, mar2, e1, e2, hR2⟩ := hsim v ar mv mar hR (xs (x3 + (1 : Int32)).toNatClampNeg) (xs (x3 + (2 : Int32)).toNatClampNeg)
  refine lv_aload_n hx hb dL_law_721 rfl (lv_at hl 1 rfl) ?_
  refine lv_aload_n hx hb dL_law_722 rfl (lv_at hl 0 rfl) ?_
  refine lv_iload_n hx hb dL_law_723 rfl (lv_at hl 3 rfl) ?_
  refine lv_iconst (v := (1 : Int32)) hx hb dL_law_724 (by decide) ?_
  refine lv_iadd hx hb dL_law_725 ?_
  refine va_sld hx hb hX hbl hbA hS h1 dL_law_726 ?_
  refine lv_aload_n hx hb dL_law_727 rfl (lv_at hl 0 rfl) ?_
  refine lv_iload_n hx hb dL_law_728 rfl (lv_at hl 3 rfl) ?_
  refine lv_iconst (v := (2 : Int32)) hx hb dL_law_729 (by decide) ?_
  refine lv_iadd hx hb dL_law_730 ?_
  refine va_sld hx hb hX hbl hbA hS h2 dL_law_731 ?_
  refine lcallX (As := [.int (xs (x3 + (1 : Int32)).toNatClampNeg), .int (xs (x3 + (2 : Int32)).toNatClampNeg)]) (rest := []) X (cX6_reading_c X.2.1 e1) q_490 kw_X6_reading hP hQ hS ⟨Nat.le_of_ble_eq_true rfl, Nat.le_of_ble_eq_true rfl⟩ rfl hl.1 rfl (Nat.le_of_ble_eq_true rfl) dL_law_732 (fun H locs hP hQ hS => ?_)
  refine lv_aload_n hx hb dL_law_735 rfl (lv_at hl 2 rfl) ?_
  refine lv_aload_n hx hb dL_law_736 rfl (lv_at hl 0 rfl) ?_
  refine lv_iload_n hx hb dL_law_737 rfl (lv_at hl 3 rfl) ?_
  refine lv_iconst (v := (1 : Int32)) hx hb dL_law_738 (by decide) ?_
  refine lv_iadd hx hb dL_law_739 ?_
  refine va_sld hx hb hX hbl hbA hS h1 dL_law_740 ?_
  refine lv_aload_n hx hb dL_law_741 rfl (lv_at hl 0 rfl) ?_
  refine lv_iload_n hx hb dL_law_742 rfl (lv_at hl 3 rfl) ?_
  refine lv_iconst (v := (2 : Int32)) hx hb dL_law_743 (by decide) ?_
  refine lv_iadd hx hb dL_law_744 ?_
  refine va_sld hx hb hX hbl hbA hS h2 dL_law_745 ?_
  refine lcallM (As := [.int (xs (x3 + (1 : Int32)).toNatClampNeg), .int (xs (x3 + (2 : Int32)).toNatClampNeg)]) (rest := [.int r]) X (cX7_reading_c X.2.2.1 e2) q_874 kw_X7_reading hP hQ hS ⟨Nat.le_of_ble_eq_true rfl, Nat.le_of_ble_eq_true rfl⟩ rfl hl.1 rfl (Nat.le_of_ble_eq_true rfl) dL_law_746 (fun H locs hQ hP hS => ?_)
  refine lv_icmp_eq (tgt := 1201) hx hb dL_law_749 (by decide) (fun _ => ?_) (fun z => absurd rfl z)
  exact kk v2 ar2 mv2 mar2 H locs hR2 hP hQ hS
theorem lc_18 (X : lC p s m c D cI cS a bb b L xs) (hsim : Sim_back) (hR : Rel v ar mv mar) {x3 : Int32} (h1 : vp_in (x3 + (1 : Int32)) L) (h2 : vp_in (x3 + (2 : Int32)) L) (h3 : vp_in (x3 + (3 : Int32)) L) (h4 : vp_in (x3 + (4 : Int32)) L) (h5 : vp_in (x3 + (5 : Int32)) L) (hP : va_P D vwCl (xW cI cS a v ar) H) (hQ : va_P D vwCl (mW cI bb mv mar) H) (hS : va_S (lA s) s.heap H locs) (hl : lv_has ls 4 [(0, .ref b), (1, .ref (a 0)), (2, .ref (bb 0)), (3, .int x3)])
    (kk : ∀ (v2 : kV) (ar2 : kR) (mv2 : kV) (mar2 : kR) (H1 : Heap) (locs1 : List Loc), Rel v2 ar2 mv2 mar2 → va_P D vwCl (xW cI cS a v2 ar2) H1 → va_P D vwCl (mW cI bb mv2 mar2) H1 → va_S (lA s) s.heap H1 locs1 → W p l e room_1 s m #[Value.ref b] below meth c H1 locs1 44 801 Q (F0 m 1201 ls [])) : W p l e room_1 s m #[Value.ref b] below meth c H locs 44 801 Q (F0 m 754 ls []) := by
  have hx := X.1.1.1
  have hb := X.1.1.2.1
  have hX := X.2.2.2.2.2.2.1
  have hbl := X.2.2.2.2.2.2.2
  have hbA : ¬ lA s b := Nat.not_le.mpr hbl
  obtain ⟨r, v2, ar2, mv2, mar2, e1, e2, hR2⟩ := hsim v ar mv mar hR (xs (x3 + (1 : Int32)).toNatClampNeg)
  refine lv_aload_n hx hb dL_law_754 rfl (lv_at hl 1 rfl) ?_
  refine lv_aload_n hx hb dL_law_755 rfl (lv_at hl 0 rfl) ?_
  refine lv_iload_n hx hb dL_law_756 rfl (lv_at hl 3 rfl) ?_
  refine lv_iconst (v := (1 : Int32)) hx hb dL_law_757 (by decide) ?_
  refine lv_iadd hx hb dL_law_758 ?_
  refine va_sld hx hb hX hbl hbA hS h1 dL_law_759 ?_
  refine lcallX (As := [.int (xs (x3 + (1 : Int32)).toNatClampNeg)]) (rest := []) X (cX6_back_c X.2.1 e1) q_498 kw_X6_back hP hQ hS ⟨Nat.le_of_ble_eq_true rfl, Nat.le_of_ble_eq_true rfl⟩ rfl hl.1 rfl (Nat.le_of_ble_eq_true rfl) dL_law_760 (fun H locs hP hQ hS => ?_)
  refine lv_aload_n hx hb dL_law_763 rfl (lv_at hl 2 rfl) ?_
  refine lv_aload_n hx hb dL_law_764 rfl (lv_at hl 0 rfl) ?_
  refine lv_iload_n hx hb dL_law_765 rfl (lv_at hl 3 rfl) ?_
  refine lv_iconst (v := (1 : Int32)) hx hb dL_law_766 (by decide) ?_
  refine lv_iadd hx hb dL_law_767 ?_
  refine va_sld hx hb hX hbl hbA hS h1 dL_law_768 ?_
  refine lcallM (As := [.int (xs (x3 + (1 : Int32)).toNatClampNeg)]) (rest := [.int r]) X (cX7_back_c X.2.2.1 e2) q_878 kw_X7_back hP hQ hS ⟨Nat.le_of_ble_eq_true rfl, Nat.le_of_ble_eq_true rfl⟩ rfl hl.1 rfl (Nat.le_of_ble_eq_true rfl) dL_law_769 (fun H locs hQ hP hS => ?_)
  refine lv_icmp_eq (tgt := 1201) hx hb dL_law_772 (by decide) (fun _ => ?_) (fun z => absurd rfl z)
  exact kk v2 ar2 mv2 mar2 H locs hR2 hP hQ hS
theorem lc_19 (X : lC p s m c D cI cS a bb b L xs) (hsim : Sim_kinds) (hR : Rel v ar mv mar) {x3 : Int32} (h1 : vp_in (x3 + (1 : Int32)) L) (h2 : vp_in (x3 + (2 : Int32)) L) (h3 : vp_in (x3 + (3 : Int32)) L) (h4 : vp_in (x3 + (4 : Int32)) L) (h5 : vp_in (x3 + (5 : Int32)) L) (hP : va_P D vwCl (xW cI cS a v ar) H) (hQ : va_P D vwCl (mW cI bb mv mar) H) (hS : va_S (lA s) s.heap H locs) (hl : lv_has ls 4 [(0, .ref b), (1, .ref (a 0)), (2, .ref (bb 0)), (3, .int x3)])
    (kk : ∀ (v2 : kV) (ar2 : kR) (mv2 : kV) (mar2 : kR) (H1 : Heap) (locs1 : List Loc), Rel v2 ar2 mv2 mar2 → va_P D vwCl (xW cI cS a v2 ar2) H1 → va_P D vwCl (mW cI bb mv2 mar2) H1 → va_S (lA s) s.heap H1 locs1 → W p l e room_1 s m #[Value.ref b] below meth c H1 locs1 44 801 Q (F0 m 1201 ls [])) : W p l e room_1 s m #[Value.ref b] below meth c H locs 44 801 Q (F0 m 777 ls []) := by
  have hx := X.1.1.1
  have hb := X.1.1.2.1
  have hX := X.2.2.2.2.2.2.1
  have hbl := X.2.2.2.2.2.2.2
  have hbA : ¬ lA s b := Nat.not_le.mpr hbl
  obtain ⟨r, v2, ar2, mv2, mar2, e1, e2, hR2⟩ := hsim v ar mv mar hR (xs (x3 + (1 : Int32)).toNatClampNeg)
  refine lv_aload_n hx hb dL_law_777 rfl (lv_at hl 1 rfl) ?_
  refine lv_aload_n hx hb dL_law_778 rfl (lv_at hl 0 rfl) ?_
  refine lv_iload_n hx hb dL_law_779 rfl (lv_at hl 3 rfl) ?_
  refine lv_iconst (v := (1 : Int32)) hx hb dL_law_780 (by decide) ?_
  refine lv_iadd hx hb dL_law_781 ?_
  refine va_sld hx hb hX hbl hbA hS h1 dL_law_782 ?_
  refine lcallX (As := [.int (xs (x3 + (1 : Int32)).toNatClampNeg)]) (rest := []) X (cX6_kinds_c X.2.1 e1) q_502 kw_X6_kinds hP hQ hS ⟨Nat.le_of_ble_eq_true rfl, Nat.le_of_ble_eq_true rfl⟩ rfl hl.1 rfl (Nat.le_of_ble_eq_true rfl) dL_law_783 (fun H locs hP hQ hS => ?_)
  refine lv_aload_n hx hb dL_law_786 rfl (lv_at hl 2 rfl) ?_
  refine lv_aload_n hx hb dL_law_787 rfl (lv_at hl 0 rfl) ?_
  refine lv_iload_n hx hb dL_law_788 rfl (lv_at hl 3 rfl) ?_
  refine lv_iconst (v := (1 : Int32)) hx hb dL_law_789 (by decide) ?_
  refine lv_iadd hx hb dL_law_790 ?_
  refine va_sld hx hb hX hbl hbA hS h1 dL_law_791 ?_
  refine lcallM (As := [.int (xs (x3 + (1 : Int32)).toNatClampNeg)]) (rest := [.int r]) X (cX7_kinds_c X.2.2.1 e2) q_882 kw_X7_kinds hP hQ hS ⟨Nat.le_of_ble_eq_true rfl, Nat.le_of_ble_eq_true rfl⟩ rfl hl.1 rfl (Nat.le_of_ble_eq_true rfl) dL_law_792 (fun H locs hQ hP hS => ?_)
  refine lv_icmp_eq (tgt := 1201) hx hb dL_law_795 (by decide) (fun _ => ?_) (fun z => absurd rfl z)
  exact kk v2 ar2 mv2 mar2 H locs hR2 hP hQ hS
theorem lc_20 (X : lC p s m c D cI cS a bb b L xs) (hsim : Sim_bulks) (hR : Rel v ar mv mar) {x3 : Int32} (h1 : vp_in (x3 + (1 : Int32)) L) (h2 : vp_in (x3 + (2 : Int32)) L) (h3 : vp_in (x3 + (3 : Int32)) L) (h4 : vp_in (x3 + (4 : Int32)) L) (h5 : vp_in (x3 + (5 : Int32)) L) (hP : va_P D vwCl (xW cI cS a v ar) H) (hQ : va_P D vwCl (mW cI bb mv mar) H) (hS : va_S (lA s) s.heap H locs) (hl : lv_has ls 4 [(0, .ref b), (1, .ref (a 0)), (2, .ref (bb 0)), (3, .int x3)])
    (kk : ∀ (v2 : kV) (ar2 : kR) (mv2 : kV) (mar2 : kR) (H1 : Heap) (locs1 : List Loc), Rel v2 ar2 mv2 mar2 → va_P D vwCl (xW cI cS a v2 ar2) H1 → va_P D vwCl (mW cI bb mv2 mar2) H1 → va_S (lA s) s.heap H1 locs1 → W p l e room_1 s m #[Value.ref b] below meth c H1 locs1 44 801 Q (F0 m 1201 ls [])) : W p l e room_1 s m #[Value.ref b] below meth c H locs 44 801 Q (F0 m 800 ls []) := by
  have hx := X.1.1.1
  have hb := X.1.1.2.1
  have hX := X.2.2.2.2.2.2.1
  have hbl := X.2.2.2.2.2.2.2
  have hbA : ¬ lA s b := Nat.not_le.mpr hbl
  obtain ⟨r, v2, ar2, mv2, mar2, e1, e2, hR2⟩ := hsim v ar mv mar hR (xs (x3 + (1 : Int32)).toNatClampNeg)
  refine lv_aload_n hx hb dL_law_800 rfl (lv_at hl 1 rfl) ?_
  refine lv_aload_n hx hb dL_law_801 rfl (lv_at hl 0 rfl) ?_
  refine lv_iload_n hx hb dL_law_802 rfl (lv_at hl 3 rfl) ?_
  refine lv_iconst (v := (1 : Int32)) hx hb dL_law_803 (by decide) ?_
  refine lv_iadd hx hb dL_law_804 ?_
  refine va_sld hx hb hX hbl hbA hS h1 dL_law_805 ?_
  refine lcallX (As := [.int (xs (x3 + (1 : Int32)).toNatClampNeg)]) (rest := []) X (cX6_bulks_c X.2.1 e1) q_511 kw_X6_bulks hP hQ hS ⟨Nat.le_of_ble_eq_true rfl, Nat.le_of_ble_eq_true rfl⟩ rfl hl.1 rfl (Nat.le_of_ble_eq_true rfl) dL_law_806 (fun H locs hP hQ hS => ?_)
  refine lv_aload_n hx hb dL_law_809 rfl (lv_at hl 2 rfl) ?_
  refine lv_aload_n hx hb dL_law_810 rfl (lv_at hl 0 rfl) ?_
  refine lv_iload_n hx hb dL_law_811 rfl (lv_at hl 3 rfl) ?_
  refine lv_iconst (v := (1 : Int32)) hx hb dL_law_812 (by decide) ?_
  refine lv_iadd hx hb dL_law_813 ?_
  refine va_sld hx hb hX hbl hbA hS h1 dL_law_814 ?_
  refine lcallM (As := [.int (xs (x3 + (1 : Int32)).toNatClampNeg)]) (rest := [.int r]) X (cX7_bulks_c X.2.2.1 e2) q_890 kw_X7_bulks hP hQ hS ⟨Nat.le_of_ble_eq_true rfl, Nat.le_of_ble_eq_true rfl⟩ rfl hl.1 rfl (Nat.le_of_ble_eq_true rfl) dL_law_815 (fun H locs hQ hP hS => ?_)
  refine lv_icmp_eq (tgt := 1201) hx hb dL_law_818 (by decide) (fun _ => ?_) (fun z => absurd rfl z)
  exact kk v2 ar2 mv2 mar2 H locs hR2 hP hQ hS
theorem lc_21 (X : lC p s m c D cI cS a bb b L xs) (hsim : Sim_odds) (hR : Rel v ar mv mar) {x3 : Int32} (h1 : vp_in (x3 + (1 : Int32)) L) (h2 : vp_in (x3 + (2 : Int32)) L) (h3 : vp_in (x3 + (3 : Int32)) L) (h4 : vp_in (x3 + (4 : Int32)) L) (h5 : vp_in (x3 + (5 : Int32)) L) (hP : va_P D vwCl (xW cI cS a v ar) H) (hQ : va_P D vwCl (mW cI bb mv mar) H) (hS : va_S (lA s) s.heap H locs) (hl : lv_has ls 4 [(0, .ref b), (1, .ref (a 0)), (2, .ref (bb 0)), (3, .int x3)])
    (kk : ∀ (v2 : kV) (ar2 : kR) (mv2 : kV) (mar2 : kR) (H1 : Heap) (locs1 : List Loc), Rel v2 ar2 mv2 mar2 → va_P D vwCl (xW cI cS a v2 ar2) H1 → va_P D vwCl (mW cI bb mv2 mar2) H1 → va_S (lA s) s.heap H1 locs1 → W p l e room_1 s m #[Value.ref b] below meth c H1 locs1 44 801 Q (F0 m 1201 ls [])) : W p l e room_1 s m #[Value.ref b] below meth c H locs 44 801 Q (F0 m 823 ls []) := by
  have hx := X.1.1.1
  have hb := X.1.1.2.1
  have hX := X.2.2.2.2.2.2.1
  have hbl := X.2.2.2.2.2.2.2
  have hbA : ¬ lA s b := Nat.not_le.mpr hbl
  obtain ⟨r, e1, e2⟩ := hsim v ar mv mar hR (xs (x3 + (1 : Int32)).toNatClampNeg) (xs (x3 + (2 : Int32)).toNatClampNeg)
  refine lv_aload_n hx hb dL_law_823 rfl (lv_at hl 1 rfl) ?_
  refine lv_aload_n hx hb dL_law_824 rfl (lv_at hl 0 rfl) ?_
  refine lv_iload_n hx hb dL_law_825 rfl (lv_at hl 3 rfl) ?_
  refine lv_iconst (v := (1 : Int32)) hx hb dL_law_826 (by decide) ?_
  refine lv_iadd hx hb dL_law_827 ?_
  refine va_sld hx hb hX hbl hbA hS h1 dL_law_828 ?_
  refine lv_aload_n hx hb dL_law_829 rfl (lv_at hl 0 rfl) ?_
  refine lv_iload_n hx hb dL_law_830 rfl (lv_at hl 3 rfl) ?_
  refine lv_iconst (v := (2 : Int32)) hx hb dL_law_831 (by decide) ?_
  refine lv_iadd hx hb dL_law_832 ?_
  refine va_sld hx hb hX hbl hbA hS h2 dL_law_833 ?_
  refine lcallX (As := [.int (xs (x3 + (1 : Int32)).toNatClampNeg), .int (xs (x3 + (2 : Int32)).toNatClampNeg)]) (rest := []) X (cX6_odds_c X.2.1 e1) q_515 kw_X6_odds hP hQ hS ⟨Nat.le_of_ble_eq_true rfl, Nat.le_of_ble_eq_true rfl⟩ rfl hl.1 rfl (Nat.le_of_ble_eq_true rfl) dL_law_834 (fun H locs hP hQ hS => ?_)
  refine lv_aload_n hx hb dL_law_837 rfl (lv_at hl 2 rfl) ?_
  refine lv_aload_n hx hb dL_law_838 rfl (lv_at hl 0 rfl) ?_
  refine lv_iload_n hx hb dL_law_839 rfl (lv_at hl 3 rfl) ?_
  refine lv_iconst (v := (1 : Int32)) hx hb dL_law_840 (by decide) ?_
  refine lv_iadd hx hb dL_law_841 ?_
  refine va_sld hx hb hX hbl hbA hS h1 dL_law_842 ?_
  refine lv_aload_n hx hb dL_law_843 rfl (lv_at hl 0 rfl) ?_
  refine lv_iload_n hx hb dL_law_844 rfl (lv_at hl 3 rfl) ?_
  refine lv_iconst (v := (2 : Int32)) hx hb dL_law_845 (by decide) ?_
  refine lv_iadd hx hb dL_law_846 ?_
  refine va_sld hx hb hX hbl hbA hS h2 dL_law_847 ?_
  refine lcallM (As := [.int (xs (x3 + (1 : Int32)).toNatClampNeg), .int (xs (x3 + (2 : Int32)).toNatClampNeg)]) (rest := [.long r]) X (cX7_odds_c X.2.2.1 e2) q_894 kw_X7_odds hP hQ hS ⟨Nat.le_of_ble_eq_true rfl, Nat.le_of_ble_eq_true rfl⟩ rfl hl.1 rfl (Nat.le_of_ble_eq_true rfl) dL_law_848 (fun H locs hQ hP hS => ?_)
  refine W.lcmp hx hb dL_law_851 ?_
  refine lv_if_eq (tgt := 1201) hx hb dL_law_852 (by decide) (fun _ => ?_) (fun z => absurd (lgc_self r) z)
  exact kk v ar mv mar H locs hR hP hQ hS
theorem lc_22 (X : lC p s m c D cI cS a bb b L xs) (hsim : Sim_sheet) (hR : Rel v ar mv mar) {x3 : Int32} (h1 : vp_in (x3 + (1 : Int32)) L) (h2 : vp_in (x3 + (2 : Int32)) L) (h3 : vp_in (x3 + (3 : Int32)) L) (h4 : vp_in (x3 + (4 : Int32)) L) (h5 : vp_in (x3 + (5 : Int32)) L) (hP : va_P D vwCl (xW cI cS a v ar) H) (hQ : va_P D vwCl (mW cI bb mv mar) H) (hS : va_S (lA s) s.heap H locs) (hl : lv_has ls 4 [(0, .ref b), (1, .ref (a 0)), (2, .ref (bb 0)), (3, .int x3)])
    (kk : ∀ (v2 : kV) (ar2 : kR) (mv2 : kV) (mar2 : kR) (H1 : Heap) (locs1 : List Loc), Rel v2 ar2 mv2 mar2 → va_P D vwCl (xW cI cS a v2 ar2) H1 → va_P D vwCl (mW cI bb mv2 mar2) H1 → va_S (lA s) s.heap H1 locs1 → W p l e room_1 s m #[Value.ref b] below meth c H1 locs1 44 801 Q (F0 m 1201 ls [])) : W p l e room_1 s m #[Value.ref b] below meth c H locs 44 801 Q (F0 m 857 ls []) := by
  have hx := X.1.1.1
  have hb := X.1.1.2.1
  have hX := X.2.2.2.2.2.2.1
  have hbl := X.2.2.2.2.2.2.2
  have hbA : ¬ lA s b := Nat.not_le.mpr hbl
  obtain ⟨r, v2, ar2, mv2, mar2, e1, e2, hR2⟩ := hsim v ar mv mar hR (xs (x3 + (1 : Int32)).toNatClampNeg) (xs (x3 + (2 : Int32)).toNatClampNeg) (xs (x3 + (3 : Int32)).toNatClampNeg)
  refine lv_aload_n hx hb dL_law_857 rfl (lv_at hl 1 rfl) ?_
  refine lv_aload_n hx hb dL_law_858 rfl (lv_at hl 0 rfl) ?_
  refine lv_iload_n hx hb dL_law_859 rfl (lv_at hl 3 rfl) ?_
  refine lv_iconst (v := (1 : Int32)) hx hb dL_law_860 (by decide) ?_
  refine lv_iadd hx hb dL_law_861 ?_
  refine va_sld hx hb hX hbl hbA hS h1 dL_law_862 ?_
  refine lv_aload_n hx hb dL_law_863 rfl (lv_at hl 0 rfl) ?_
  refine lv_iload_n hx hb dL_law_864 rfl (lv_at hl 3 rfl) ?_
  refine lv_iconst (v := (2 : Int32)) hx hb dL_law_865 (by decide) ?_
  refine lv_iadd hx hb dL_law_866 ?_
  refine va_sld hx hb hX hbl hbA hS h2 dL_law_867 ?_
  refine lv_aload_n hx hb dL_law_868 rfl (lv_at hl 0 rfl) ?_
  refine lv_iload_n hx hb dL_law_869 rfl (lv_at hl 3 rfl) ?_
  refine lv_iconst (v := (3 : Int32)) hx hb dL_law_870 (by decide) ?_
  refine lv_iadd hx hb dL_law_871 ?_
  refine va_sld hx hb hX hbl hbA hS h3 dL_law_872 ?_
  refine lcallX (As := [.int (xs (x3 + (1 : Int32)).toNatClampNeg), .int (xs (x3 + (2 : Int32)).toNatClampNeg), .int (xs (x3 + (3 : Int32)).toNatClampNeg)]) (rest := []) X (cX6_sheet_c X.2.1 e1) q_521 kw_X6_sheet hP hQ hS ⟨Nat.le_of_ble_eq_true rfl, Nat.le_of_ble_eq_true rfl⟩ rfl hl.1 rfl (Nat.le_of_ble_eq_true rfl) dL_law_873 (fun H locs hP hQ hS => ?_)
  refine lv_aload_n hx hb dL_law_876 rfl (lv_at hl 2 rfl) ?_
  refine lv_aload_n hx hb dL_law_877 rfl (lv_at hl 0 rfl) ?_
  refine lv_iload_n hx hb dL_law_878 rfl (lv_at hl 3 rfl) ?_
  refine lv_iconst (v := (1 : Int32)) hx hb dL_law_879 (by decide) ?_
  refine lv_iadd hx hb dL_law_880 ?_
  refine va_sld hx hb hX hbl hbA hS h1 dL_law_881 ?_
  refine lv_aload_n hx hb dL_law_882 rfl (lv_at hl 0 rfl) ?_
  refine lv_iload_n hx hb dL_law_883 rfl (lv_at hl 3 rfl) ?_
  refine lv_iconst (v := (2 : Int32)) hx hb dL_law_884 (by decide) ?_
  refine lv_iadd hx hb dL_law_885 ?_
  refine va_sld hx hb hX hbl hbA hS h2 dL_law_886 ?_
  refine lv_aload_n hx hb dL_law_887 rfl (lv_at hl 0 rfl) ?_
  refine lv_iload_n hx hb dL_law_888 rfl (lv_at hl 3 rfl) ?_
  refine lv_iconst (v := (3 : Int32)) hx hb dL_law_889 (by decide) ?_
  refine lv_iadd hx hb dL_law_890 ?_
  refine va_sld hx hb hX hbl hbA hS h3 dL_law_891 ?_
  refine lcallM (As := [.int (xs (x3 + (1 : Int32)).toNatClampNeg), .int (xs (x3 + (2 : Int32)).toNatClampNeg), .int (xs (x3 + (3 : Int32)).toNatClampNeg)]) (rest := [.int r]) X (cX7_sheet_c X.2.2.1 e2) q_902 kw_X7_sheet hP hQ hS ⟨Nat.le_of_ble_eq_true rfl, Nat.le_of_ble_eq_true rfl⟩ rfl hl.1 rfl (Nat.le_of_ble_eq_true rfl) dL_law_892 (fun H locs hQ hP hS => ?_)
  refine lv_icmp_eq (tgt := 1201) hx hb dL_law_895 (by decide) (fun _ => ?_) (fun z => absurd rfl z)
  exact kk v2 ar2 mv2 mar2 H locs hR2 hP hQ hS
theorem lc_23 (X : lC p s m c D cI cS a bb b L xs) (hsim : Sim_lose) (hR : Rel v ar mv mar) {x3 : Int32} (h1 : vp_in (x3 + (1 : Int32)) L) (h2 : vp_in (x3 + (2 : Int32)) L) (h3 : vp_in (x3 + (3 : Int32)) L) (h4 : vp_in (x3 + (4 : Int32)) L) (h5 : vp_in (x3 + (5 : Int32)) L) (hP : va_P D vwCl (xW cI cS a v ar) H) (hQ : va_P D vwCl (mW cI bb mv mar) H) (hS : va_S (lA s) s.heap H locs) (hl : lv_has ls 4 [(0, .ref b), (1, .ref (a 0)), (2, .ref (bb 0)), (3, .int x3)])
    (kk : ∀ (v2 : kV) (ar2 : kR) (mv2 : kV) (mar2 : kR) (H1 : Heap) (locs1 : List Loc), Rel v2 ar2 mv2 mar2 → va_P D vwCl (xW cI cS a v2 ar2) H1 → va_P D vwCl (mW cI bb mv2 mar2) H1 → va_S (lA s) s.heap H1 locs1 → W p l e room_1 s m #[Value.ref b] below meth c H1 locs1 44 801 Q (F0 m 1201 ls [])) : W p l e room_1 s m #[Value.ref b] below meth c H locs 44 801 Q (F0 m 900 ls []) := by
  have hx := X.1.1.1
  have hb := X.1.1.2.1
  have hX := X.2.2.2.2.2.2.1
  have hbl := X.2.2.2.2.2.2.2
  have hbA : ¬ lA s b := Nat.not_le.mpr hbl
  obtain ⟨r, v2, ar2, mv2, mar2, e1, e2, hR2⟩ := hsim v ar mv mar hR (xs (x3 + (1 : Int32)).toNatClampNeg)
  refine lv_aload_n hx hb dL_law_900 rfl (lv_at hl 1 rfl) ?_
  refine lv_aload_n hx hb dL_law_901 rfl (lv_at hl 0 rfl) ?_
  refine lv_iload_n hx hb dL_law_902 rfl (lv_at hl 3 rfl) ?_
  refine lv_iconst (v := (1 : Int32)) hx hb dL_law_903 (by decide) ?_
  refine lv_iadd hx hb dL_law_904 ?_
  refine va_sld hx hb hX hbl hbA hS h1 dL_law_905 ?_
  refine lcallX (As := [.int (xs (x3 + (1 : Int32)).toNatClampNeg)]) (rest := []) X (cX6_lose_c X.2.1 e1) q_530 kw_X6_lose hP hQ hS ⟨Nat.le_of_ble_eq_true rfl, Nat.le_of_ble_eq_true rfl⟩ rfl hl.1 rfl (Nat.le_of_ble_eq_true rfl) dL_law_906 (fun H locs hP hQ hS => ?_)
  refine lv_aload_n hx hb dL_law_909 rfl (lv_at hl 2 rfl) ?_
  refine lv_aload_n hx hb dL_law_910 rfl (lv_at hl 0 rfl) ?_
  refine lv_iload_n hx hb dL_law_911 rfl (lv_at hl 3 rfl) ?_
  refine lv_iconst (v := (1 : Int32)) hx hb dL_law_912 (by decide) ?_
  refine lv_iadd hx hb dL_law_913 ?_
  refine va_sld hx hb hX hbl hbA hS h1 dL_law_914 ?_
  refine lcallM (As := [.int (xs (x3 + (1 : Int32)).toNatClampNeg)]) (rest := [.int r]) X (cX7_lose_c X.2.2.1 e2) q_906 kw_X7_lose hP hQ hS ⟨Nat.le_of_ble_eq_true rfl, Nat.le_of_ble_eq_true rfl⟩ rfl hl.1 rfl (Nat.le_of_ble_eq_true rfl) dL_law_915 (fun H locs hQ hP hS => ?_)
  refine lv_icmp_eq (tgt := 1201) hx hb dL_law_918 (by decide) (fun _ => ?_) (fun z => absurd rfl z)
  exact kk v2 ar2 mv2 mar2 H locs hR2 hP hQ hS
theorem lc_24 (X : lC p s m c D cI cS a bb b L xs) (hsim : Sim_put) (hR : Rel v ar mv mar) {x3 : Int32} (h1 : vp_in (x3 + (1 : Int32)) L) (h2 : vp_in (x3 + (2 : Int32)) L) (h3 : vp_in (x3 + (3 : Int32)) L) (h4 : vp_in (x3 + (4 : Int32)) L) (h5 : vp_in (x3 + (5 : Int32)) L) (hP : va_P D vwCl (xW cI cS a v ar) H) (hQ : va_P D vwCl (mW cI bb mv mar) H) (hS : va_S (lA s) s.heap H locs) (hl : lv_has ls 4 [(0, .ref b), (1, .ref (a 0)), (2, .ref (bb 0)), (3, .int x3)])
    (kk : ∀ (v2 : kV) (ar2 : kR) (mv2 : kV) (mar2 : kR) (H1 : Heap) (locs1 : List Loc), Rel v2 ar2 mv2 mar2 → va_P D vwCl (xW cI cS a v2 ar2) H1 → va_P D vwCl (mW cI bb mv2 mar2) H1 → va_S (lA s) s.heap H1 locs1 → W p l e room_1 s m #[Value.ref b] below meth c H1 locs1 44 801 Q (F0 m 1201 ls [])) : W p l e room_1 s m #[Value.ref b] below meth c H locs 44 801 Q (F0 m 923 ls []) := by
  have hx := X.1.1.1
  have hb := X.1.1.2.1
  have hX := X.2.2.2.2.2.2.1
  have hbl := X.2.2.2.2.2.2.2
  have hbA : ¬ lA s b := Nat.not_le.mpr hbl
  obtain ⟨r, v2, ar2, mv2, mar2, e1, e2, hR2⟩ := hsim v ar mv mar hR (xs (x3 + (1 : Int32)).toNatClampNeg) (xs (x3 + (2 : Int32)).toNatClampNeg) (xs (x3 + (3 : Int32)).toNatClampNeg)
  refine lv_aload_n hx hb dL_law_923 rfl (lv_at hl 1 rfl) ?_
  refine lv_aload_n hx hb dL_law_924 rfl (lv_at hl 0 rfl) ?_
  refine lv_iload_n hx hb dL_law_925 rfl (lv_at hl 3 rfl) ?_
  refine lv_iconst (v := (1 : Int32)) hx hb dL_law_926 (by decide) ?_
  refine lv_iadd hx hb dL_law_927 ?_
  refine va_sld hx hb hX hbl hbA hS h1 dL_law_928 ?_
  refine lv_aload_n hx hb dL_law_929 rfl (lv_at hl 0 rfl) ?_
  refine lv_iload_n hx hb dL_law_930 rfl (lv_at hl 3 rfl) ?_
  refine lv_iconst (v := (2 : Int32)) hx hb dL_law_931 (by decide) ?_
  refine lv_iadd hx hb dL_law_932 ?_
  refine va_sld hx hb hX hbl hbA hS h2 dL_law_933 ?_
  refine lv_aload_n hx hb dL_law_934 rfl (lv_at hl 0 rfl) ?_
  refine lv_iload_n hx hb dL_law_935 rfl (lv_at hl 3 rfl) ?_
  refine lv_iconst (v := (3 : Int32)) hx hb dL_law_936 (by decide) ?_
  refine lv_iadd hx hb dL_law_937 ?_
  refine va_sld hx hb hX hbl hbA hS h3 dL_law_938 ?_
  refine lcallX (As := [.int (xs (x3 + (1 : Int32)).toNatClampNeg), .int (xs (x3 + (2 : Int32)).toNatClampNeg), .int (xs (x3 + (3 : Int32)).toNatClampNeg)]) (rest := []) X (cX6_put_c X.2.1 e1) q_534 kw_X6_put hP hQ hS ⟨Nat.le_of_ble_eq_true rfl, Nat.le_of_ble_eq_true rfl⟩ rfl hl.1 rfl (Nat.le_of_ble_eq_true rfl) dL_law_939 (fun H locs hP hQ hS => ?_)
  refine lv_aload_n hx hb dL_law_942 rfl (lv_at hl 2 rfl) ?_
  refine lv_aload_n hx hb dL_law_943 rfl (lv_at hl 0 rfl) ?_
  refine lv_iload_n hx hb dL_law_944 rfl (lv_at hl 3 rfl) ?_
  refine lv_iconst (v := (1 : Int32)) hx hb dL_law_945 (by decide) ?_
  refine lv_iadd hx hb dL_law_946 ?_
  refine va_sld hx hb hX hbl hbA hS h1 dL_law_947 ?_
  refine lv_aload_n hx hb dL_law_948 rfl (lv_at hl 0 rfl) ?_
  refine lv_iload_n hx hb dL_law_949 rfl (lv_at hl 3 rfl) ?_
  refine lv_iconst (v := (2 : Int32)) hx hb dL_law_950 (by decide) ?_
  refine lv_iadd hx hb dL_law_951 ?_
  refine va_sld hx hb hX hbl hbA hS h2 dL_law_952 ?_
  refine lv_aload_n hx hb dL_law_953 rfl (lv_at hl 0 rfl) ?_
  refine lv_iload_n hx hb dL_law_954 rfl (lv_at hl 3 rfl) ?_
  refine lv_iconst (v := (3 : Int32)) hx hb dL_law_955 (by decide) ?_
  refine lv_iadd hx hb dL_law_956 ?_
  refine va_sld hx hb hX hbl hbA hS h3 dL_law_957 ?_
  refine lcallM (As := [.int (xs (x3 + (1 : Int32)).toNatClampNeg), .int (xs (x3 + (2 : Int32)).toNatClampNeg), .int (xs (x3 + (3 : Int32)).toNatClampNeg)]) (rest := [.int r]) X (cX7_put_c X.2.2.1 e2) q_910 kw_X7_put hP hQ hS ⟨Nat.le_of_ble_eq_true rfl, Nat.le_of_ble_eq_true rfl⟩ rfl hl.1 rfl (Nat.le_of_ble_eq_true rfl) dL_law_958 (fun H locs hQ hP hS => ?_)
  refine lv_icmp_eq (tgt := 1201) hx hb dL_law_961 (by decide) (fun _ => ?_) (fun z => absurd rfl z)
  exact kk v2 ar2 mv2 mar2 H locs hR2 hP hQ hS
theorem lc_25 (X : lC p s m c D cI cS a bb b L xs) (hsim : Sim_cell) (hR : Rel v ar mv mar) {x3 : Int32} (h1 : vp_in (x3 + (1 : Int32)) L) (h2 : vp_in (x3 + (2 : Int32)) L) (h3 : vp_in (x3 + (3 : Int32)) L) (h4 : vp_in (x3 + (4 : Int32)) L) (h5 : vp_in (x3 + (5 : Int32)) L) (hP : va_P D vwCl (xW cI cS a v ar) H) (hQ : va_P D vwCl (mW cI bb mv mar) H) (hS : va_S (lA s) s.heap H locs) (hl : lv_has ls 4 [(0, .ref b), (1, .ref (a 0)), (2, .ref (bb 0)), (3, .int x3)])
    (kk : ∀ (v2 : kV) (ar2 : kR) (mv2 : kV) (mar2 : kR) (H1 : Heap) (locs1 : List Loc), Rel v2 ar2 mv2 mar2 → va_P D vwCl (xW cI cS a v2 ar2) H1 → va_P D vwCl (mW cI bb mv2 mar2) H1 → va_S (lA s) s.heap H1 locs1 → W p l e room_1 s m #[Value.ref b] below meth c H1 locs1 44 801 Q (F0 m 1201 ls [])) : W p l e room_1 s m #[Value.ref b] below meth c H locs 44 801 Q (F0 m 966 ls []) := by
  have hx := X.1.1.1
  have hb := X.1.1.2.1
  have hX := X.2.2.2.2.2.2.1
  have hbl := X.2.2.2.2.2.2.2
  have hbA : ¬ lA s b := Nat.not_le.mpr hbl
  obtain ⟨r, v2, ar2, mv2, mar2, e1, e2, hR2⟩ := hsim v ar mv mar hR (xs (x3 + (1 : Int32)).toNatClampNeg) (xs (x3 + (2 : Int32)).toNatClampNeg) (xs (x3 + (3 : Int32)).toNatClampNeg)
  refine lv_aload_n hx hb dL_law_966 rfl (lv_at hl 1 rfl) ?_
  refine lv_aload_n hx hb dL_law_967 rfl (lv_at hl 0 rfl) ?_
  refine lv_iload_n hx hb dL_law_968 rfl (lv_at hl 3 rfl) ?_
  refine lv_iconst (v := (1 : Int32)) hx hb dL_law_969 (by decide) ?_
  refine lv_iadd hx hb dL_law_970 ?_
  refine va_sld hx hb hX hbl hbA hS h1 dL_law_971 ?_
  refine lv_aload_n hx hb dL_law_972 rfl (lv_at hl 0 rfl) ?_
  refine lv_iload_n hx hb dL_law_973 rfl (lv_at hl 3 rfl) ?_
  refine lv_iconst (v := (2 : Int32)) hx hb dL_law_974 (by decide) ?_
  refine lv_iadd hx hb dL_law_975 ?_
  refine va_sld hx hb hX hbl hbA hS h2 dL_law_976 ?_
  refine lv_aload_n hx hb dL_law_977 rfl (lv_at hl 0 rfl) ?_
  refine lv_iload_n hx hb dL_law_978 rfl (lv_at hl 3 rfl) ?_
  refine lv_iconst (v := (3 : Int32)) hx hb dL_law_979 (by decide) ?_
  refine lv_iadd hx hb dL_law_980 ?_
  refine va_sld hx hb hX hbl hbA hS h3 dL_law_981 ?_
  refine lcallX (As := [.int (xs (x3 + (1 : Int32)).toNatClampNeg), .int (xs (x3 + (2 : Int32)).toNatClampNeg), .int (xs (x3 + (3 : Int32)).toNatClampNeg)]) (rest := []) X (cX6_cell_c X.2.1 e1) q_541 kw_X6_cell hP hQ hS ⟨Nat.le_of_ble_eq_true rfl, Nat.le_of_ble_eq_true rfl⟩ rfl hl.1 rfl (Nat.le_of_ble_eq_true rfl) dL_law_982 (fun H locs hP hQ hS => ?_)
  refine lv_aload_n hx hb dL_law_985 rfl (lv_at hl 2 rfl) ?_
  refine lv_aload_n hx hb dL_law_986 rfl (lv_at hl 0 rfl) ?_
  refine lv_iload_n hx hb dL_law_987 rfl (lv_at hl 3 rfl) ?_
  refine lv_iconst (v := (1 : Int32)) hx hb dL_law_988 (by decide) ?_
  refine lv_iadd hx hb dL_law_989 ?_
  refine va_sld hx hb hX hbl hbA hS h1 dL_law_990 ?_
  refine lv_aload_n hx hb dL_law_991 rfl (lv_at hl 0 rfl) ?_
  refine lv_iload_n hx hb dL_law_992 rfl (lv_at hl 3 rfl) ?_
  refine lv_iconst (v := (2 : Int32)) hx hb dL_law_993 (by decide) ?_
  refine lv_iadd hx hb dL_law_994 ?_
  refine va_sld hx hb hX hbl hbA hS h2 dL_law_995 ?_
  refine lv_aload_n hx hb dL_law_996 rfl (lv_at hl 0 rfl) ?_
  refine lv_iload_n hx hb dL_law_997 rfl (lv_at hl 3 rfl) ?_
  refine lv_iconst (v := (3 : Int32)) hx hb dL_law_998 (by decide) ?_
  refine lv_iadd hx hb dL_law_999 ?_
  refine va_sld hx hb hX hbl hbA hS h3 dL_law_1000 ?_
  refine lcallM (As := [.int (xs (x3 + (1 : Int32)).toNatClampNeg), .int (xs (x3 + (2 : Int32)).toNatClampNeg), .int (xs (x3 + (3 : Int32)).toNatClampNeg)]) (rest := [.long r]) X (cX7_cell_c X.2.2.1 e2) q_914 kw_X7_cell hP hQ hS ⟨Nat.le_of_ble_eq_true rfl, Nat.le_of_ble_eq_true rfl⟩ rfl hl.1 rfl (Nat.le_of_ble_eq_true rfl) dL_law_1001 (fun H locs hQ hP hS => ?_)
  refine W.lcmp hx hb dL_law_1004 ?_
  refine lv_if_eq (tgt := 1201) hx hb dL_law_1005 (by decide) (fun _ => ?_) (fun z => absurd (lgc_self r) z)
  exact kk v2 ar2 mv2 mar2 H locs hR2 hP hQ hS
theorem lc_26 (X : lC p s m c D cI cS a bb b L xs) (hsim : Sim_copy) (hR : Rel v ar mv mar) {x3 : Int32} (h1 : vp_in (x3 + (1 : Int32)) L) (h2 : vp_in (x3 + (2 : Int32)) L) (h3 : vp_in (x3 + (3 : Int32)) L) (h4 : vp_in (x3 + (4 : Int32)) L) (h5 : vp_in (x3 + (5 : Int32)) L) (hP : va_P D vwCl (xW cI cS a v ar) H) (hQ : va_P D vwCl (mW cI bb mv mar) H) (hS : va_S (lA s) s.heap H locs) (hl : lv_has ls 4 [(0, .ref b), (1, .ref (a 0)), (2, .ref (bb 0)), (3, .int x3)])
    (kk : ∀ (v2 : kV) (ar2 : kR) (mv2 : kV) (mar2 : kR) (H1 : Heap) (locs1 : List Loc), Rel v2 ar2 mv2 mar2 → va_P D vwCl (xW cI cS a v2 ar2) H1 → va_P D vwCl (mW cI bb mv2 mar2) H1 → va_S (lA s) s.heap H1 locs1 → W p l e room_1 s m #[Value.ref b] below meth c H1 locs1 44 801 Q (F0 m 1201 ls [])) : W p l e room_1 s m #[Value.ref b] below meth c H locs 44 801 Q (F0 m 1010 ls []) := by
  have hx := X.1.1.1
  have hb := X.1.1.2.1
  have hX := X.2.2.2.2.2.2.1
  have hbl := X.2.2.2.2.2.2.2
  have hbA : ¬ lA s b := Nat.not_le.mpr hbl
  obtain ⟨r, v2, ar2, mv2, mar2, e1, e2, hR2⟩ := hsim v ar mv mar hR (xs (x3 + (1 : Int32)).toNatClampNeg) (xs (x3 + (2 : Int32)).toNatClampNeg) (xs (x3 + (3 : Int32)).toNatClampNeg) (xs (x3 + (4 : Int32)).toNatClampNeg) (xs (x3 + (5 : Int32)).toNatClampNeg)
  refine lv_aload_n hx hb dL_law_1010 rfl (lv_at hl 1 rfl) ?_
  refine lv_aload_n hx hb dL_law_1011 rfl (lv_at hl 0 rfl) ?_
  refine lv_iload_n hx hb dL_law_1012 rfl (lv_at hl 3 rfl) ?_
  refine lv_iconst (v := (1 : Int32)) hx hb dL_law_1013 (by decide) ?_
  refine lv_iadd hx hb dL_law_1014 ?_
  refine va_sld hx hb hX hbl hbA hS h1 dL_law_1015 ?_
  refine lv_aload_n hx hb dL_law_1016 rfl (lv_at hl 0 rfl) ?_
  refine lv_iload_n hx hb dL_law_1017 rfl (lv_at hl 3 rfl) ?_
  refine lv_iconst (v := (2 : Int32)) hx hb dL_law_1018 (by decide) ?_
  refine lv_iadd hx hb dL_law_1019 ?_
  refine va_sld hx hb hX hbl hbA hS h2 dL_law_1020 ?_
  refine lv_aload_n hx hb dL_law_1021 rfl (lv_at hl 0 rfl) ?_
  refine lv_iload_n hx hb dL_law_1022 rfl (lv_at hl 3 rfl) ?_
  refine lv_iconst (v := (3 : Int32)) hx hb dL_law_1023 (by decide) ?_
  refine lv_iadd hx hb dL_law_1024 ?_
  refine va_sld hx hb hX hbl hbA hS h3 dL_law_1025 ?_
  refine lv_aload_n hx hb dL_law_1026 rfl (lv_at hl 0 rfl) ?_
  refine lv_iload_n hx hb dL_law_1027 rfl (lv_at hl 3 rfl) ?_
  refine lv_iconst (v := (4 : Int32)) hx hb dL_law_1028 (by decide) ?_
  refine lv_iadd hx hb dL_law_1029 ?_
  refine va_sld hx hb hX hbl hbA hS h4 dL_law_1030 ?_
  refine lv_aload_n hx hb dL_law_1031 rfl (lv_at hl 0 rfl) ?_
  refine lv_iload_n hx hb dL_law_1032 rfl (lv_at hl 3 rfl) ?_
  refine lv_iconst (v := (5 : Int32)) hx hb dL_law_1033 (by decide) ?_
  refine lv_iadd hx hb dL_law_1034 ?_
  refine va_sld hx hb hX hbl hbA hS h5 dL_law_1035 ?_
  refine lcallX (As := [.int (xs (x3 + (1 : Int32)).toNatClampNeg), .int (xs (x3 + (2 : Int32)).toNatClampNeg), .int (xs (x3 + (3 : Int32)).toNatClampNeg), .int (xs (x3 + (4 : Int32)).toNatClampNeg), .int (xs (x3 + (5 : Int32)).toNatClampNeg)]) (rest := []) X (cX6_copy_c X.2.1 e1) q_545 kw_X6_copy hP hQ hS ⟨Nat.le_of_ble_eq_true rfl, Nat.le_of_ble_eq_true rfl⟩ rfl hl.1 rfl (Nat.le_of_ble_eq_true rfl) dL_law_1036 (fun H locs hP hQ hS => ?_)
  refine lv_aload_n hx hb dL_law_1039 rfl (lv_at hl 2 rfl) ?_
  refine lv_aload_n hx hb dL_law_1040 rfl (lv_at hl 0 rfl) ?_
  refine lv_iload_n hx hb dL_law_1041 rfl (lv_at hl 3 rfl) ?_
  refine lv_iconst (v := (1 : Int32)) hx hb dL_law_1042 (by decide) ?_
  refine lv_iadd hx hb dL_law_1043 ?_
  refine va_sld hx hb hX hbl hbA hS h1 dL_law_1044 ?_
  refine lv_aload_n hx hb dL_law_1045 rfl (lv_at hl 0 rfl) ?_
  refine lv_iload_n hx hb dL_law_1046 rfl (lv_at hl 3 rfl) ?_
  refine lv_iconst (v := (2 : Int32)) hx hb dL_law_1047 (by decide) ?_
  refine lv_iadd hx hb dL_law_1048 ?_
  refine va_sld hx hb hX hbl hbA hS h2 dL_law_1049 ?_
  refine lv_aload_n hx hb dL_law_1050 rfl (lv_at hl 0 rfl) ?_
  refine lv_iload_n hx hb dL_law_1051 rfl (lv_at hl 3 rfl) ?_
  refine lv_iconst (v := (3 : Int32)) hx hb dL_law_1052 (by decide) ?_
  refine lv_iadd hx hb dL_law_1053 ?_
  refine va_sld hx hb hX hbl hbA hS h3 dL_law_1054 ?_
  refine lv_aload_n hx hb dL_law_1055 rfl (lv_at hl 0 rfl) ?_
  refine lv_iload_n hx hb dL_law_1056 rfl (lv_at hl 3 rfl) ?_
  refine lv_iconst (v := (4 : Int32)) hx hb dL_law_1057 (by decide) ?_
  refine lv_iadd hx hb dL_law_1058 ?_
  refine va_sld hx hb hX hbl hbA hS h4 dL_law_1059 ?_
  refine lv_aload_n hx hb dL_law_1060 rfl (lv_at hl 0 rfl) ?_
  refine lv_iload_n hx hb dL_law_1061 rfl (lv_at hl 3 rfl) ?_
  refine lv_iconst (v := (5 : Int32)) hx hb dL_law_1062 (by decide) ?_
  refine lv_iadd hx hb dL_law_1063 ?_
  refine va_sld hx hb hX hbl hbA hS h5 dL_law_1064 ?_
  refine lcallM (As := [.int (xs (x3 + (1 : Int32)).toNatClampNeg), .int (xs (x3 + (2 : Int32)).toNatClampNeg), .int (xs (x3 + (3 : Int32)).toNatClampNeg), .int (xs (x3 + (4 : Int32)).toNatClampNeg), .int (xs (x3 + (5 : Int32)).toNatClampNeg)]) (rest := [.int r]) X (cX7_copy_c X.2.2.1 e2) q_922 kw_X7_copy hP hQ hS ⟨Nat.le_of_ble_eq_true rfl, Nat.le_of_ble_eq_true rfl⟩ rfl hl.1 rfl (Nat.le_of_ble_eq_true rfl) dL_law_1065 (fun H locs hQ hP hS => ?_)
  refine lv_icmp_eq (tgt := 1201) hx hb dL_law_1068 (by decide) (fun _ => ?_) (fun z => absurd rfl z)
  exact kk v2 ar2 mv2 mar2 H locs hR2 hP hQ hS
theorem lc_27 (X : lC p s m c D cI cS a bb b L xs) (hsim : Sim_tell) (hR : Rel v ar mv mar) {x3 : Int32} (h1 : vp_in (x3 + (1 : Int32)) L) (h2 : vp_in (x3 + (2 : Int32)) L) (h3 : vp_in (x3 + (3 : Int32)) L) (h4 : vp_in (x3 + (4 : Int32)) L) (h5 : vp_in (x3 + (5 : Int32)) L) (hP : va_P D vwCl (xW cI cS a v ar) H) (hQ : va_P D vwCl (mW cI bb mv mar) H) (hS : va_S (lA s) s.heap H locs) (hl : lv_has ls 4 [(0, .ref b), (1, .ref (a 0)), (2, .ref (bb 0)), (3, .int x3)])
    (kk : ∀ (v2 : kV) (ar2 : kR) (mv2 : kV) (mar2 : kR) (H1 : Heap) (locs1 : List Loc), Rel v2 ar2 mv2 mar2 → va_P D vwCl (xW cI cS a v2 ar2) H1 → va_P D vwCl (mW cI bb mv2 mar2) H1 → va_S (lA s) s.heap H1 locs1 → W p l e room_1 s m #[Value.ref b] below meth c H1 locs1 44 801 Q (F0 m 1201 ls [])) : W p l e room_1 s m #[Value.ref b] below meth c H locs 44 801 Q (F0 m 1073 ls []) := by
  have hx := X.1.1.1
  have hb := X.1.1.2.1
  have hX := X.2.2.2.2.2.2.1
  have hbl := X.2.2.2.2.2.2.2
  have hbA : ¬ lA s b := Nat.not_le.mpr hbl
  obtain ⟨r, v2, ar2, mv2, mar2, e1, e2, hR2⟩ := hsim v ar mv mar hR (xs (x3 + (1 : Int32)).toNatClampNeg)
  refine lv_aload_n hx hb dL_law_1073 rfl (lv_at hl 1 rfl) ?_
  refine lv_aload_n hx hb dL_law_1074 rfl (lv_at hl 0 rfl) ?_
  refine lv_iload_n hx hb dL_law_1075 rfl (lv_at hl 3 rfl) ?_
  refine lv_iconst (v := (1 : Int32)) hx hb dL_law_1076 (by decide) ?_
  refine lv_iadd hx hb dL_law_1077 ?_
  refine va_sld hx hb hX hbl hbA hS h1 dL_law_1078 ?_
  refine lcallX (As := [.int (xs (x3 + (1 : Int32)).toNatClampNeg)]) (rest := []) X (cX6_tell_c X.2.1 e1) q_550 kw_X6_tell hP hQ hS ⟨Nat.le_of_ble_eq_true rfl, Nat.le_of_ble_eq_true rfl⟩ rfl hl.1 rfl (Nat.le_of_ble_eq_true rfl) dL_law_1079 (fun H locs hP hQ hS => ?_)
  refine lv_aload_n hx hb dL_law_1082 rfl (lv_at hl 2 rfl) ?_
  refine lv_aload_n hx hb dL_law_1083 rfl (lv_at hl 0 rfl) ?_
  refine lv_iload_n hx hb dL_law_1084 rfl (lv_at hl 3 rfl) ?_
  refine lv_iconst (v := (1 : Int32)) hx hb dL_law_1085 (by decide) ?_
  refine lv_iadd hx hb dL_law_1086 ?_
  refine va_sld hx hb hX hbl hbA hS h1 dL_law_1087 ?_
  refine lcallM (As := [.int (xs (x3 + (1 : Int32)).toNatClampNeg)]) (rest := [.int r]) X (cX7_tell_c X.2.2.1 e2) q_926 kw_X7_tell hP hQ hS ⟨Nat.le_of_ble_eq_true rfl, Nat.le_of_ble_eq_true rfl⟩ rfl hl.1 rfl (Nat.le_of_ble_eq_true rfl) dL_law_1088 (fun H locs hQ hP hS => ?_)
  refine lv_icmp_eq (tgt := 1201) hx hb dL_law_1091 (by decide) (fun _ => ?_) (fun z => absurd rfl z)
  exact kk v2 ar2 mv2 mar2 H locs hR2 hP hQ hS
theorem lc_28 (X : lC p s m c D cI cS a bb b L xs) (hsim : Sim_probe) (hR : Rel v ar mv mar) {x3 : Int32} (h1 : vp_in (x3 + (1 : Int32)) L) (h2 : vp_in (x3 + (2 : Int32)) L) (h3 : vp_in (x3 + (3 : Int32)) L) (h4 : vp_in (x3 + (4 : Int32)) L) (h5 : vp_in (x3 + (5 : Int32)) L) (hP : va_P D vwCl (xW cI cS a v ar) H) (hQ : va_P D vwCl (mW cI bb mv mar) H) (hS : va_S (lA s) s.heap H locs) (hl : lv_has ls 4 [(0, .ref b), (1, .ref (a 0)), (2, .ref (bb 0)), (3, .int x3)])
    (kk : ∀ (v2 : kV) (ar2 : kR) (mv2 : kV) (mar2 : kR) (H1 : Heap) (locs1 : List Loc), Rel v2 ar2 mv2 mar2 → va_P D vwCl (xW cI cS a v2 ar2) H1 → va_P D vwCl (mW cI bb mv2 mar2) H1 → va_S (lA s) s.heap H1 locs1 → W p l e room_1 s m #[Value.ref b] below meth c H1 locs1 44 801 Q (F0 m 1201 ls [])) : W p l e room_1 s m #[Value.ref b] below meth c H locs 44 801 Q (F0 m 1096 ls []) := by
  have hx := X.1.1.1
  have hb := X.1.1.2.1
  have hX := X.2.2.2.2.2.2.1
  have hbl := X.2.2.2.2.2.2.2
  have hbA : ¬ lA s b := Nat.not_le.mpr hbl
  obtain ⟨r, v2, ar2, mv2, mar2, e1, e2, hR2⟩ := hsim v ar mv mar hR (xs (x3 + (1 : Int32)).toNatClampNeg)
  refine lv_aload_n hx hb dL_law_1096 rfl (lv_at hl 1 rfl) ?_
  refine lv_aload_n hx hb dL_law_1097 rfl (lv_at hl 0 rfl) ?_
  refine lv_iload_n hx hb dL_law_1098 rfl (lv_at hl 3 rfl) ?_
  refine lv_iconst (v := (1 : Int32)) hx hb dL_law_1099 (by decide) ?_
  refine lv_iadd hx hb dL_law_1100 ?_
  refine va_sld hx hb hX hbl hbA hS h1 dL_law_1101 ?_
  refine lcallX (As := [.int (xs (x3 + (1 : Int32)).toNatClampNeg)]) (rest := []) X (cX6_probe_c X.2.1 e1) q_570 kw_X6_probe hP hQ hS ⟨Nat.le_of_ble_eq_true rfl, Nat.le_of_ble_eq_true rfl⟩ rfl hl.1 rfl (Nat.le_of_ble_eq_true rfl) dL_law_1102 (fun H locs hP hQ hS => ?_)
  refine lv_aload_n hx hb dL_law_1105 rfl (lv_at hl 2 rfl) ?_
  refine lv_aload_n hx hb dL_law_1106 rfl (lv_at hl 0 rfl) ?_
  refine lv_iload_n hx hb dL_law_1107 rfl (lv_at hl 3 rfl) ?_
  refine lv_iconst (v := (1 : Int32)) hx hb dL_law_1108 (by decide) ?_
  refine lv_iadd hx hb dL_law_1109 ?_
  refine va_sld hx hb hX hbl hbA hS h1 dL_law_1110 ?_
  refine lcallM (As := [.int (xs (x3 + (1 : Int32)).toNatClampNeg)]) (rest := [.int r]) X (cX7_probe_c X.2.2.1 e2) q_934 kw_X7_probe hP hQ hS ⟨Nat.le_of_ble_eq_true rfl, Nat.le_of_ble_eq_true rfl⟩ rfl hl.1 rfl (Nat.le_of_ble_eq_true rfl) dL_law_1111 (fun H locs hQ hP hS => ?_)
  refine lv_icmp_eq (tgt := 1201) hx hb dL_law_1114 (by decide) (fun _ => ?_) (fun z => absurd rfl z)
  exact kk v2 ar2 mv2 mar2 H locs hR2 hP hQ hS
theorem lc_29 (X : lC p s m c D cI cS a bb b L xs) (hsim : Sim_as) (hR : Rel v ar mv mar) {x3 : Int32} (h1 : vp_in (x3 + (1 : Int32)) L) (h2 : vp_in (x3 + (2 : Int32)) L) (h3 : vp_in (x3 + (3 : Int32)) L) (h4 : vp_in (x3 + (4 : Int32)) L) (h5 : vp_in (x3 + (5 : Int32)) L) (hP : va_P D vwCl (xW cI cS a v ar) H) (hQ : va_P D vwCl (mW cI bb mv mar) H) (hS : va_S (lA s) s.heap H locs) (hl : lv_has ls 4 [(0, .ref b), (1, .ref (a 0)), (2, .ref (bb 0)), (3, .int x3)])
    (kk : ∀ (v2 : kV) (ar2 : kR) (mv2 : kV) (mar2 : kR) (H1 : Heap) (locs1 : List Loc), Rel v2 ar2 mv2 mar2 → va_P D vwCl (xW cI cS a v2 ar2) H1 → va_P D vwCl (mW cI bb mv2 mar2) H1 → va_S (lA s) s.heap H1 locs1 → W p l e room_1 s m #[Value.ref b] below meth c H1 locs1 44 801 Q (F0 m 1201 ls [])) : W p l e room_1 s m #[Value.ref b] below meth c H locs 44 801 Q (F0 m 1119 ls []) := by
  have hx := X.1.1.1
  have hb := X.1.1.2.1
  have hX := X.2.2.2.2.2.2.1
  have hbl := X.2.2.2.2.2.2.2
  have hbA : ¬ lA s b := Nat.not_le.mpr hbl
  obtain ⟨r, v2, ar2, mv2, mar2, e1, e2, hR2⟩ := hsim v ar mv mar hR (xs (x3 + (1 : Int32)).toNatClampNeg) (xs (x3 + (2 : Int32)).toNatClampNeg)
  refine lv_aload_n hx hb dL_law_1119 rfl (lv_at hl 1 rfl) ?_
  refine lv_aload_n hx hb dL_law_1120 rfl (lv_at hl 0 rfl) ?_
  refine lv_iload_n hx hb dL_law_1121 rfl (lv_at hl 3 rfl) ?_
  refine lv_iconst (v := (1 : Int32)) hx hb dL_law_1122 (by decide) ?_
  refine lv_iadd hx hb dL_law_1123 ?_
  refine va_sld hx hb hX hbl hbA hS h1 dL_law_1124 ?_
  refine lv_aload_n hx hb dL_law_1125 rfl (lv_at hl 0 rfl) ?_
  refine lv_iload_n hx hb dL_law_1126 rfl (lv_at hl 3 rfl) ?_
  refine lv_iconst (v := (2 : Int32)) hx hb dL_law_1127 (by decide) ?_
  refine lv_iadd hx hb dL_law_1128 ?_
  refine va_sld hx hb hX hbl hbA hS h2 dL_law_1129 ?_
  refine lcallX (As := [.int (xs (x3 + (1 : Int32)).toNatClampNeg), .int (xs (x3 + (2 : Int32)).toNatClampNeg)]) (rest := []) X (cX6_as_c X.2.1 e1) q_574 kw_X6_as hP hQ hS ⟨Nat.le_of_ble_eq_true rfl, Nat.le_of_ble_eq_true rfl⟩ rfl hl.1 rfl (Nat.le_of_ble_eq_true rfl) dL_law_1130 (fun H locs hP hQ hS => ?_)
  refine lv_aload_n hx hb dL_law_1133 rfl (lv_at hl 2 rfl) ?_
  refine lv_aload_n hx hb dL_law_1134 rfl (lv_at hl 0 rfl) ?_
  refine lv_iload_n hx hb dL_law_1135 rfl (lv_at hl 3 rfl) ?_
  refine lv_iconst (v := (1 : Int32)) hx hb dL_law_1136 (by decide) ?_
  refine lv_iadd hx hb dL_law_1137 ?_
  refine va_sld hx hb hX hbl hbA hS h1 dL_law_1138 ?_
  refine lv_aload_n hx hb dL_law_1139 rfl (lv_at hl 0 rfl) ?_
  refine lv_iload_n hx hb dL_law_1140 rfl (lv_at hl 3 rfl) ?_
  refine lv_iconst (v := (2 : Int32)) hx hb dL_law_1141 (by decide) ?_
  refine lv_iadd hx hb dL_law_1142 ?_
  refine va_sld hx hb hX hbl hbA hS h2 dL_law_1143 ?_
  refine lcallM (As := [.int (xs (x3 + (1 : Int32)).toNatClampNeg), .int (xs (x3 + (2 : Int32)).toNatClampNeg)]) (rest := [.int r]) X (cX7_as_c X.2.2.1 e2) q_938 kw_X7_as hP hQ hS ⟨Nat.le_of_ble_eq_true rfl, Nat.le_of_ble_eq_true rfl⟩ rfl hl.1 rfl (Nat.le_of_ble_eq_true rfl) dL_law_1144 (fun H locs hQ hP hS => ?_)
  refine lv_icmp_eq (tgt := 1201) hx hb dL_law_1147 (by decide) (fun _ => ?_) (fun z => absurd rfl z)
  exact kk v2 ar2 mv2 mar2 H locs hR2 hP hQ hS
theorem lc_30 (X : lC p s m c D cI cS a bb b L xs) (hsim : Sim_trace) (hR : Rel v ar mv mar) {x3 : Int32} (h1 : vp_in (x3 + (1 : Int32)) L) (h2 : vp_in (x3 + (2 : Int32)) L) (h3 : vp_in (x3 + (3 : Int32)) L) (h4 : vp_in (x3 + (4 : Int32)) L) (h5 : vp_in (x3 + (5 : Int32)) L) (hP : va_P D vwCl (xW cI cS a v ar) H) (hQ : va_P D vwCl (mW cI bb mv mar) H) (hS : va_S (lA s) s.heap H locs) (hl : lv_has ls 4 [(0, .ref b), (1, .ref (a 0)), (2, .ref (bb 0)), (3, .int x3)])
    (kk : ∀ (v2 : kV) (ar2 : kR) (mv2 : kV) (mar2 : kR) (H1 : Heap) (locs1 : List Loc), Rel v2 ar2 mv2 mar2 → va_P D vwCl (xW cI cS a v2 ar2) H1 → va_P D vwCl (mW cI bb mv2 mar2) H1 → va_S (lA s) s.heap H1 locs1 → W p l e room_1 s m #[Value.ref b] below meth c H1 locs1 44 801 Q (F0 m 1201 ls [])) : W p l e room_1 s m #[Value.ref b] below meth c H locs 44 801 Q (F0 m 1152 ls []) := by
  have hx := X.1.1.1
  have hb := X.1.1.2.1
  have hX := X.2.2.2.2.2.2.1
  have hbl := X.2.2.2.2.2.2.2
  have hbA : ¬ lA s b := Nat.not_le.mpr hbl
  obtain ⟨r, e1, e2⟩ := hsim v ar mv mar hR
  refine lv_aload_n hx hb dL_law_1152 rfl (lv_at hl 1 rfl) ?_
  refine lcallX (As := []) (rest := []) X (cX6_trace_c X.2.1 e1) q_578 kw_X6_trace hP hQ hS ⟨Nat.le_of_ble_eq_true rfl, Nat.le_of_ble_eq_true rfl⟩ rfl hl.1 rfl (Nat.le_of_ble_eq_true rfl) dL_law_1153 (fun H locs hP hQ hS => ?_)
  refine lv_aload_n hx hb dL_law_1156 rfl (lv_at hl 2 rfl) ?_
  refine lcallM (As := []) (rest := [.int r]) X (cX7_trace_c X.2.2.1 e2) q_942 kw_X7_trace hP hQ hS ⟨Nat.le_of_ble_eq_true rfl, Nat.le_of_ble_eq_true rfl⟩ rfl hl.1 rfl (Nat.le_of_ble_eq_true rfl) dL_law_1157 (fun H locs hQ hP hS => ?_)
  refine lv_icmp_eq (tgt := 1201) hx hb dL_law_1160 (by decide) (fun _ => ?_) (fun z => absurd rfl z)
  exact kk v ar mv mar H locs hR hP hQ hS
theorem lc_31 (X : lC p s m c D cI cS a bb b L xs) (hsim : Sim_fault) (hR : Rel v ar mv mar) {x3 : Int32} (h1 : vp_in (x3 + (1 : Int32)) L) (h2 : vp_in (x3 + (2 : Int32)) L) (h3 : vp_in (x3 + (3 : Int32)) L) (h4 : vp_in (x3 + (4 : Int32)) L) (h5 : vp_in (x3 + (5 : Int32)) L) (hP : va_P D vwCl (xW cI cS a v ar) H) (hQ : va_P D vwCl (mW cI bb mv mar) H) (hS : va_S (lA s) s.heap H locs) (hl : lv_has ls 4 [(0, .ref b), (1, .ref (a 0)), (2, .ref (bb 0)), (3, .int x3)])
    (kk : ∀ (v2 : kV) (ar2 : kR) (mv2 : kV) (mar2 : kR) (H1 : Heap) (locs1 : List Loc), Rel v2 ar2 mv2 mar2 → va_P D vwCl (xW cI cS a v2 ar2) H1 → va_P D vwCl (mW cI bb mv2 mar2) H1 → va_S (lA s) s.heap H1 locs1 → W p l e room_1 s m #[Value.ref b] below meth c H1 locs1 44 801 Q (F0 m 1201 ls [])) : W p l e room_1 s m #[Value.ref b] below meth c H locs 44 801 Q (F0 m 1165 ls []) := by
  have hx := X.1.1.1
  have hb := X.1.1.2.1
  have hX := X.2.2.2.2.2.2.1
  have hbl := X.2.2.2.2.2.2.2
  have hbA : ¬ lA s b := Nat.not_le.mpr hbl
  obtain ⟨r, e1, e2⟩ := hsim v ar mv mar hR
  refine lv_aload_n hx hb dL_law_1165 rfl (lv_at hl 1 rfl) ?_
  refine lcallX (As := []) (rest := []) X (cX6_fault_c X.2.1 e1) q_582 kw_X6_fault hP hQ hS ⟨Nat.le_of_ble_eq_true rfl, Nat.le_of_ble_eq_true rfl⟩ rfl hl.1 rfl (Nat.le_of_ble_eq_true rfl) dL_law_1166 (fun H locs hP hQ hS => ?_)
  refine lv_aload_n hx hb dL_law_1169 rfl (lv_at hl 2 rfl) ?_
  refine lcallM (As := []) (rest := [.int r]) X (cX7_fault_c X.2.2.1 e2) q_946 kw_X7_fault hP hQ hS ⟨Nat.le_of_ble_eq_true rfl, Nat.le_of_ble_eq_true rfl⟩ rfl hl.1 rfl (Nat.le_of_ble_eq_true rfl) dL_law_1170 (fun H locs hQ hP hS => ?_)
  refine lv_icmp_eq (tgt := 1201) hx hb dL_law_1173 (by decide) (fun _ => ?_) (fun z => absurd rfl z)
  exact kk v ar mv mar H locs hR hP hQ hS
theorem lc_32 (X : lC p s m c D cI cS a bb b L xs) (hsim : Sim_many) (hR : Rel v ar mv mar) {x3 : Int32} (h1 : vp_in (x3 + (1 : Int32)) L) (h2 : vp_in (x3 + (2 : Int32)) L) (h3 : vp_in (x3 + (3 : Int32)) L) (h4 : vp_in (x3 + (4 : Int32)) L) (h5 : vp_in (x3 + (5 : Int32)) L) (hP : va_P D vwCl (xW cI cS a v ar) H) (hQ : va_P D vwCl (mW cI bb mv mar) H) (hS : va_S (lA s) s.heap H locs) (hl : lv_has ls 4 [(0, .ref b), (1, .ref (a 0)), (2, .ref (bb 0)), (3, .int x3)])
    (kk : ∀ (v2 : kV) (ar2 : kR) (mv2 : kV) (mar2 : kR) (H1 : Heap) (locs1 : List Loc), Rel v2 ar2 mv2 mar2 → va_P D vwCl (xW cI cS a v2 ar2) H1 → va_P D vwCl (mW cI bb mv2 mar2) H1 → va_S (lA s) s.heap H1 locs1 → W p l e room_1 s m #[Value.ref b] below meth c H1 locs1 44 801 Q (F0 m 1201 ls [])) : W p l e room_1 s m #[Value.ref b] below meth c H locs 44 801 Q (F0 m 1178 ls []) := by
  have hx := X.1.1.1
  have hb := X.1.1.2.1
  have hX := X.2.2.2.2.2.2.1
  have hbl := X.2.2.2.2.2.2.2
  have hbA : ¬ lA s b := Nat.not_le.mpr hbl
  obtain ⟨r, e1, e2⟩ := hsim v ar mv mar hR (xs (x3 + (1 : Int32)).toNatClampNeg)
  refine lv_aload_n hx hb dL_law_1178 rfl (lv_at hl 1 rfl) ?_
  refine lv_aload_n hx hb dL_law_1179 rfl (lv_at hl 0 rfl) ?_
  refine lv_iload_n hx hb dL_law_1180 rfl (lv_at hl 3 rfl) ?_
  refine lv_iconst (v := (1 : Int32)) hx hb dL_law_1181 (by decide) ?_
  refine lv_iadd hx hb dL_law_1182 ?_
  refine va_sld hx hb hX hbl hbA hS h1 dL_law_1183 ?_
  refine lcallX (As := [.int (xs (x3 + (1 : Int32)).toNatClampNeg)]) (rest := []) X (cX6_many_c X.2.1 e1) q_586 kw_X6_many hP hQ hS ⟨Nat.le_of_ble_eq_true rfl, Nat.le_of_ble_eq_true rfl⟩ rfl hl.1 rfl (Nat.le_of_ble_eq_true rfl) dL_law_1184 (fun H locs hP hQ hS => ?_)
  refine lv_aload_n hx hb dL_law_1187 rfl (lv_at hl 2 rfl) ?_
  refine lv_aload_n hx hb dL_law_1188 rfl (lv_at hl 0 rfl) ?_
  refine lv_iload_n hx hb dL_law_1189 rfl (lv_at hl 3 rfl) ?_
  refine lv_iconst (v := (1 : Int32)) hx hb dL_law_1190 (by decide) ?_
  refine lv_iadd hx hb dL_law_1191 ?_
  refine va_sld hx hb hX hbl hbA hS h1 dL_law_1192 ?_
  refine lcallM (As := [.int (xs (x3 + (1 : Int32)).toNatClampNeg)]) (rest := [.int r]) X (cX7_many_c X.2.2.1 e2) q_950 kw_X7_many hP hQ hS ⟨Nat.le_of_ble_eq_true rfl, Nat.le_of_ble_eq_true rfl⟩ rfl hl.1 rfl (Nat.le_of_ble_eq_true rfl) dL_law_1193 (fun H locs hQ hP hS => ?_)
  refine lv_icmp_eq (tgt := 1201) hx hb dL_law_1196 (by decide) (fun _ => ?_) (fun z => absurd rfl z)
  exact kk v ar mv mar H locs hR hP hQ hS
end LK
