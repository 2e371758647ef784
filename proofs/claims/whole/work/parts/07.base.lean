def lwG : List Cond := lw_tbl.filter goodWord
theorem lwG_at {w : Cond} (i : Nat) (h : lw_tbl[i]? = some w) (g : goodWord w = true) : w ∈ lwG := List.mem_filter.mpr ⟨List.mem_of_getElem? h, g⟩
theorem lwG_good : GoodIn lwG lwG := fun _ h => ⟨h, good_of_word (List.mem_filter.mp h).2⟩
abbrev kS (y : MethodName) (cc : ByteArray) (n : Nat) (r : Option FieldType) : List Cond := Cond.code y cc n r :: lwG
theorem kG_S {y : MethodName} {cc : ByteArray} {n : Nat} {r : Option FieldType} (h : Cond.code y cc n r ∈ lwG) : GoodIn lwG (kS y cc n r) := fun w hw => (List.mem_cons.mp hw).elim (fun e => by rw [e]; exact lwG_good _ h) (lwG_good w)
theorem kG_V {own C : String} {idx : Nat} {y : MethodName} {cc : ByteArray} {n : Nat} {r : Option FieldType} (h1 : Cond.methodLink own idx y ∈ lwG) (h2 : Cond.instanceMethod y ∈ lwG) (h3 : Cond.selects C y y ∈ lwG) (h4 : Cond.initialized C ∈ lwG) (h5 : Cond.code y cc n r ∈ lwG) : GoodIn lwG (wsV own idx C y (kS y cc n r)) := by
  intro w hw
  unfold wsV at hw
  rcases List.mem_append.mp hw with h | h
  · simp only [List.mem_cons, List.not_mem_nil, or_false] at h
    rcases h with rfl | rfl | rfl | rfl
    · exact lwG_good _ h1
    · exact lwG_good _ h2
    · exact lwG_good _ h3
    · exact lwG_good _ h4
  · exact kG_S h5 w h
theorem kG_T {own : String} {idx : Nat} {y : MethodName} {cc : ByteArray} {n : Nat} {r : Option FieldType} (h1 : Cond.methodLink own idx y ∈ lwG) (h2 : Cond.static y ∈ lwG) (h4 : Cond.initialized y.cls ∈ lwG) (h5 : Cond.code y cc n r ∈ lwG) : GoodIn lwG (va_wsS own idx y (kS y cc n r)) := by
  intro w hw
  unfold va_wsS at hw
  rcases List.mem_append.mp hw with h | h
  · simp only [List.mem_cons, List.not_mem_nil, or_false] at h
    rcases h with rfl | rfl | rfl
    · exact lwG_good _ h1
    · exact lwG_good _ h2
    · exact lwG_good _ h4
  · exact kG_S h5 w h
/-- what a callee's words say once for all its calls -/
abbrev kCal (C : String) (y : MethodName) (cc : ByteArray) (n : Nat) (r : Option FieldType) (k : Nat) : Prop := Cond.instanceMethod y ∈ lwG ∧ Cond.selects C y y ∈ lwG ∧ Cond.initialized C ∈ lwG ∧ Cond.code y cc n r ∈ lwG ∧ (y.cls = C ∧ y.cls ≠ "java/lang/invoke/MethodHandle" ∧ y.cls ≠ "java/lang/invoke/VarHandle" ∧ (parseMethodDescriptor y.desc).map (fun d => d.parameters.length) = some k)
abbrev kCalT (y : MethodName) (cc : ByteArray) (n : Nat) (r : Option FieldType) (k : Nat) : Prop := Cond.static y ∈ lwG ∧ Cond.initialized y.cls ∈ lwG ∧ Cond.code y cc n r ∈ lwG ∧ (y.cls ≠ "java/lang/invoke/MethodHandle" ∧ y.cls ≠ "java/lang/invoke/VarHandle" ∧ (parseMethodDescriptor y.desc).map (fun d => d.parameters.length) = some k)
abbrev kV : Type := Nat → Int32
abbrev kR : Type := Nat → Nat → Int32
def kTys (cI cS : ClassId) : List (ClassId × FieldType) := [(cI, .int), (cS, .object "HalfCuts$Sheet")]
def kK (D : va_G) (cI cS : ClassId) (U : State) : Prop := va_K D vwCl (kTys cI cS) U ∧ va_Nw (.methodLinkNest RX0 55 yX6_floatBits "HalfCuts") U ∧ va_Nw (.methodLinkNest RX0 62 yX6_isCutBy "HalfCuts") U
theorem kK.warm {D : va_G} {cI cS : ClassId} {s U : State} (hW : s.WarmedH U.vm) (h : kK D cI cS s) : kK D cI cS U := ⟨va_K.moved hW.alike h.1, va_Nw.warmM hW h.2.1, va_Nw.warmM hW h.2.2⟩
theorem kK.calling {D : va_G} {cI cS : ClassId} {U : State} {g : JFrame} {mk : MethodId} {a : Array Value} (h : kK D cI cS U) : kK D cI cS (U.calling g mk a) := ⟨va_K.moved (u := U) (U := U.calling g mk a) (Vm.Alike.refl U.vm) h.1, va_Nw.same (u := U) (U := U.calling g mk a) rfl rfl h.2.1, va_Nw.same (u := U) (U := U.calling g mk a) rfl rfl h.2.2⟩
/-- the frame's own facts -/
abbrev kC (p : Program) (s : State) (m : MethodId) (c : Code) (args : Array Value) (cc : ByteArray) (nL : Nat) (own : String) (D : va_G) (cI cS : ClassId) : Prop := CallFix p m c cc nL s args lwG own ∧ kK D cI cS s
def kQ (D : va_G) (wf : kV → kR → va_W) (A : Nat → Prop) (o : Option Value) (v : kV) (ar : kR) : Array Value → State → Outcome → State → Prop := fun _ st oc t => oc = .returned o ∧ va_P D vwCl (wf v ar) t.heap ∧ va_F A st t
/-- THE CONTRACT: from the world (v, ar) it returns o, and the world is (v2, ar2) -/
def kMet (l : Launch) (D : va_G) (cI cS : ClassId) (wf : kV → kR → va_W) (A : Nat → Prop) (y : MethodName) (cc : ByteArray) (n : Nat) (r : Option FieldType) (fr lo : Nat) (av : List Value) (v : kV) (ar : kR) (o : Option Value) (v2 : kV) (ar2 : kR) : Prop := Met l y (kS y cc n r) { frames := fr, cells := 0, slots := 0, locals := lo } (va_Pc av (fun U => va_P D vwCl (wf v ar) U.heap ∧ kK D cI cS U)) (kQ D wf A o v2 ar2) 0 0 A
def kA (a : Nat → Nat) (n : Nat) : Nat → Prop := fun q => ∃ k, k < n ∧ q = a k
def kAp (a : Nat → Nat) (n : Nat) : Prop := ∀ i j, i < n → j < n → a i = a j → i = j
def bI (b : Bool) : Int32 := match b with | true => 1 | false => 0
theorem bI_0 {b : Bool} : bI b = 0 ↔ b = false := by cases b <;> decide
theorem bI_n (b : Bool) : narrow .boolean (.int (bI b)) = .int (bI b) := by cases b <;> rfl
def kb1 {α β : Type} (x : Option α) (k : α → Option β) : Option β := match x with | some y => k y | none => none
def kb2 {β : Type} (x : Option (kV × kR)) (k : kV → kR → Option β) : Option β := match x with | some (v, ar) => k v ar | none => none
def kb3 {α β : Type} (x : Option (α × kV × kR)) (k : α → kV → kR → Option β) : Option β := match x with | some (y, v, ar) => k y v ar | none => none
theorem kb1_s {α β : Type} {x : Option α} {k : α → Option β} {r : β} (h : kb1 x k = some r) : ∃ y, x = some y ∧ k y = some r := by
  cases x with
  | none => cases h
  | some y => exact ⟨y, rfl, h⟩
theorem kb2_s {β : Type} {x : Option (kV × kR)} {k : kV → kR → Option β} {r : β} (h : kb2 x k = some r) : ∃ v ar, x = some (v, ar) ∧ k v ar = some r := by
  cases x with
  | none => cases h
  | some y => exact ⟨y.1, y.2, rfl, h⟩
theorem kb3_s {α β : Type} {x : Option (α × kV × kR)} {k : α → kV → kR → Option β} {r : β} (h : kb3 x k = some r) : ∃ y v ar, x = some (y, v, ar) ∧ k y v ar = some r := by
  cases x with
  | none => cases h
  | some y => exact ⟨y.1, y.2.1, y.2.2, rfl, h⟩
theorem kif_t {c : Prop} [Decidable c] {α : Type} {t e : Option α} {r : α} (hc : c) (h : (if c then t else e) = some r) : t = some r := by rwa [if_pos hc] at h
theorem kif_f {c : Prop} [Decidable c] {α : Type} {t e : Option α} {r : α} (hc : ¬ c) (h : (if c then t else e) = some r) : e = some r := by rwa [if_neg hc] at h
/-- a check that must hold: what it guards is refused else -/
theorem kgd {c : Prop} [Decidable c] {α : Type} {e : Option α} {r : α} (h : (if c then none else e) = some r) : ¬ c ∧ e = some r := by
  by_cases hc : c
  · rw [if_pos hc] at h; cases h
  · rw [if_neg hc] at h; exact ⟨hc, h⟩
section KB
variable {p : Program} {l : Launch} {e : Env} {R : Room} {s : State} {m : MethodId} {args : Array Value} {below : List Frame} {meth : Method} {c : Code} {H : Heap} {locs : List Loc} {Q : State → Prop}
variable {cc : ByteArray} {pc nL : Nat} {ls : Array Slot} {rest : List Value} {own : String} {D : va_G} {cI cS : ClassId} {wf : kV → kR → va_W} {A : Nat → Prop} {v v2 : kV} {ar ar2 : kR} {st0 : List Value}
theorem kstart {y : MethodName} {n : Nat} {r : Option FieldType} {fr lo : Nat} {av : List Value} {o : Option Value} (hy : plainName y.cls = true) (hlen : (lg_sl av).length ≤ n)
    (body : ∀ (p : Program) (e : Env) (s : State) (m : MethodId) (args : Array Value) (below : List Frame) (meth : Method) (c : Code) (ls : Array Slot), kC p s m c args cc n y.cls D cI cS → meth.sig.returnType = r → meth.locks = false → lv_has ls n (lv_args 0 av) → va_P D vwCl (wf v ar) s.heap → va_S A s.heap s.heap [] → W p l e { frames := fr, cells := 0, slots := 0, locals := lo } s m args below meth c s.heap [] 0 0 (MQ below (kQ D wf A o v2 ar2) args s 0 0 A) (F0 m 0 ls [])) :
    kMet l D cI cS wf A y cc n r fr lo av v ar o v2 ar2 := by
  refine Met.ofW (cc := cc) (maxL := n) (ret := r) hy rfl ?_
  intro p e s m args below meth c s₁ B hml hv
  obtain ⟨rfl, hP, hK⟩ := hv
  have hts0 := atoms_spec (ws := kS y cc n r) B.pre
  have hts : ∀ w ∈ lwG, w.before av.toArray s = true := fun w h => hts0 w (List.mem_cons_of_mem _ h)
  have hl := lv_entry av (n := n) hlen
  rw [lg_entry_eq]
  exact body p e s m _ below meth c _ ⟨⟨B.exec, B.bytes, hml, findClass_of_methodNamed B.named, hts⟩, hK⟩ B.returns B.notSynchronized hl hP va_S.rf
theorem kret_i {x : Int32} (C0 : kC p s m c args cc nL own D cI cS) (hr : meth.sig.returnType = some .int) (hlk : meth.locks = false) (hP : va_P D vwCl (wf v ar) H) (hS : va_S A s.heap H locs) (hdg : decode cc pc = .ok (.ireturn, 1)) : W p l e R s m args below meth c H locs 0 0 (MQ below (kQ D wf A (some (.int x)) v ar) args s 0 0 A) (F0 m pc ls [.int x]) :=
  W.iret C0.1.1 C0.1.2.1 hr (fun t ht _ => ⟨rfl, by rw [ht]; exact hP, hS.F ht⟩) hS.2.2 hdg hlk
theorem kret_z {x : Int32} (b : Bool) (hx : x = bI b) (C0 : kC p s m c args cc nL own D cI cS) (hr : meth.sig.returnType = some .boolean) (hlk : meth.locks = false) (hP : va_P D vwCl (wf v ar) H) (hS : va_S A s.heap H locs) (hdg : decode cc pc = .ok (.ireturn, 1)) : W p l e R s m args below meth c H locs 0 0 (MQ below (kQ D wf A (some (.int (bI b))) v ar) args s 0 0 A) (F0 m pc ls [.int x]) := by
  subst hx
  exact W.zret C0.1.1 C0.1.2.1 hr (bI_n b) (fun t ht _ => ⟨rfl, by rw [ht]; exact hP, hS.F ht⟩) hS.2.2 hdg hlk
theorem kret_l {x : Int64} (C0 : kC p s m c args cc nL own D cI cS) (hr : meth.sig.returnType = some .long) (hlk : meth.locks = false) (hP : va_P D vwCl (wf v ar) H) (hS : va_S A s.heap H locs) (hdg : decode cc pc = .ok (.lreturn, 1)) : W p l e R s m args below meth c H locs 0 0 (MQ below (kQ D wf A (some (.long x)) v ar) args s 0 0 A) (F0 m pc ls [.long x]) :=
  W.lret C0.1.1 C0.1.2.1 hr (fun t ht _ => ⟨rfl, by rw [ht]; exact hP, hS.F ht⟩) hS.2.2 hdg hlk
theorem kret_v (C0 : kC p s m c args cc nL own D cI cS) (hr : meth.sig.returnType = none) (hlk : meth.locks = false) (hP : va_P D vwCl (wf v ar) H) (hS : va_S A s.heap H locs) (hdg : decode cc pc = .ok (.return_, 1)) : W p l e R s m args below meth c H locs 0 0 (MQ below (kQ D wf A none v ar) args s 0 0 A) (F0 m pc ls []) :=
  W.vret C0.1.1 C0.1.2.1 hr (fun t ht _ => ⟨rfl, by rw [ht]; exact hP, hS.F ht⟩) hS.2.2 hdg hlk
theorem kafter {o : Option Value} {a : Array Value} (hr : va_Run p l e R s m args below meth c H locs 0 0 0 0 (F0 m pc ls st0) rest (kQ D wf A o v2 ar2 a) A) (hS : va_S A s.heap H locs)
    (kk : ∀ (H1 : Heap) (locs1 : List Loc), va_P D vwCl (wf v2 ar2) H1 → va_S A s.heap H1 locs1 → W p l e R s m args below meth c H1 locs1 0 0 Q (F0 m (pc + 3) ls (o.toList ++ rest))) : W p l e R s m args below meth c H locs 0 0 Q (F0 m pc ls st0) := by
  intro T hT X
  obtain ⟨v, st₀, t, T', L, h0, X', hL, e1, e2, ⟨hv, hb, hz, hk⟩, st⟩ := hr T hT X
  cases hv
  rw [h0] at hz hk
  obtain ⟨t2, a1, b1⟩ := kk T'.heap (locs ++ L) (by rw [e1]; exact hb)
    ⟨Nat.le_trans hS.1 (by rw [e1]; exact hz), fun q h1 h2 => by rw [e1, hk q (Nat.lt_of_lt_of_le h1 hS.1) h2]; exact hS.2.1 q h1 h2, fun q hq => by
      rcases List.mem_append.mp hq with h | h
      · exact hS.2.2 q h
      · exact hL q h⟩ T' rfl X'
  exact ⟨t2, st t2 a1, b1⟩
theorem kpre {av : List Value} (hK : kK D cI cS s) (hP : va_P D vwCl (wf v ar) H) : FrameBlind (va_Pc av (fun U => va_P D vwCl (wf v ar) U.heap ∧ kK D cI cS U)) ∧ ∀ U : State, U.heap = H → s.WarmedH U.vm → va_Pc av (fun U => va_P D vwCl (wf v ar) U.heap ∧ kK D cI cS U) av.toArray U :=
  ⟨fun _ _ _ _ q => ⟨q.1, q.2.1, q.2.2.calling⟩, fun _ hU hW => ⟨rfl, by rw [hU]; exact hP, hK.warm hW⟩⟩
theorem kcallV {C : String} {y : MethodName} {bytes : ByteArray} {maxL n idx fr lo b : Nat} {ret : Option FieldType} {As : List Value} {o : Option Value} (C0 : kC p s m c args cc nL own D cI cS) (hM : kMet l D cI cS wf A y bytes maxL ret fr lo (.ref b :: As) v ar o v2 ar2) (hl : Cond.methodLink own idx y ∈ lwG) (hw : kCal C y bytes maxL ret n) (hrecv : ∃ cell : Cell, H[b]? = some cell ∧ cell.vm.isStatics = false ∧ s.vm.findClass C = some cell.cls) (hP : va_P D vwCl (wf v ar) H) (hS : va_S A s.heap H locs) (hR : fr + 1 ≤ R.frames ∧ 8 + (maxL + 11) + lo ≤ R.locals) (hn : As.length = n) (hls : ls.size = nL) (hst : st0 = As.reverse ++ .ref b :: rest) (hW : (rest.map fun v => v.category).sum ≤ 8) (hdg : decode cc pc = .ok (.invokevirtual idx, 3))
    (kk : ∀ (H1 : Heap) (locs1 : List Loc), va_P D vwCl (wf v2 ar2) H1 → va_S A s.heap H1 locs1 → W p l e R s m args below meth c H1 locs1 0 0 Q (F0 m (pc + 3) ls (o.toList ++ rest))) : W p l e R s m args below meth c H locs 0 0 Q (F0 m pc ls st0) :=
  kafter (va_runV (As := As) (rest := rest) C0.1 hM (cwV (mc := 0) (ms := 0) n C0.1.2.2.2.2 (kG_V hl hw.1 hw.2.1 hw.2.2.1 hw.2.2.2.1) rfl rfl rfl hw.2.2.2.2 hR) ⟨(kpre C0.2 hP).1, hrecv, (kpre C0.2 hP).2⟩ rfl hn hls hst (lv_room hW) hdg ⟨Nat.zero_le _, Nat.zero_le _⟩) hS kk
theorem kcallT {y : MethodName} {bytes : ByteArray} {maxL n idx fr lo : Nat} {ret : Option FieldType} {As : List Value} {o : Option Value} (C0 : kC p s m c args cc nL own D cI cS) (hM : kMet l D cI cS wf A y bytes maxL ret fr lo As v ar o v2 ar2) (hl : Cond.methodLink own idx y ∈ lwG) (hw : kCalT y bytes maxL ret n) (hP : va_P D vwCl (wf v ar) H) (hS : va_S A s.heap H locs) (hR : fr + 1 ≤ R.frames ∧ 8 + (maxL + 11) + lo ≤ R.locals) (hn : As.length = n) (hls : ls.size = nL) (hst : st0 = As.reverse ++ rest) (hW : (rest.map fun v => v.category).sum ≤ 8) (hdg : decode cc pc = .ok (.invokestatic idx, 3))
    (kk : ∀ (H1 : Heap) (locs1 : List Loc), va_P D vwCl (wf v2 ar2) H1 → va_S A s.heap H1 locs1 → W p l e R s m args below meth c H1 locs1 0 0 Q (F0 m (pc + 3) ls (o.toList ++ rest))) : W p l e R s m args below meth c H locs 0 0 Q (F0 m pc ls st0) :=
  kafter (va_runS (As := As) (rest := rest) C0.1 hM (va_cwS (mc := 0) (ms := 0) n C0.1.2.2.2.2 (kG_T hl hw.1 hw.2.1 hw.2.2.1) rfl rfl rfl hw.2.2.2 hR) (kpre C0.2 hP) rfl hn hls hst (lv_room hW) hdg ⟨Nat.zero_le _, Nat.zero_le _⟩) hS kk
theorem kcallN {y : MethodName} {bytes : ByteArray} {maxL n idx fr lo : Nat} {ret : Option FieldType} {As : List Value} {o : Option Value} (C0 : kC p s m c args cc nL own D cI cS) (hM : kMet l D cI cS wf A y bytes maxL ret fr lo As v ar o v2 ar2) (hl : va_Nw (.methodLinkNest own idx y "HalfCuts") s) (hw : kCalT y bytes maxL ret n) (hP : va_P D vwCl (wf v ar) H) (hS : va_S A s.heap H locs) (hR : fr + 1 ≤ R.frames ∧ 8 + (maxL + 11) + lo ≤ R.locals) (hn : As.length = n) (hls : ls.size = nL) (hst : st0 = As.reverse ++ rest) (hW : (rest.map fun v => v.category).sum ≤ 8) (hdg : decode cc pc = .ok (.invokestatic idx, 3))
    (kk : ∀ (H1 : Heap) (locs1 : List Loc), va_P D vwCl (wf v2 ar2) H1 → va_S A s.heap H1 locs1 → W p l e R s m args below meth c H1 locs1 0 0 Q (F0 m (pc + 3) ls (o.toList ++ rest))) : W p l e R s m args below meth c H locs 0 0 Q (F0 m pc ls st0) :=
  kafter (va_runSN (As := As) (rest := rest) C0.1 hM ⟨va_cnB (mc := 0) (ms := 0) n C0.1.2.2.2.2 (kG_S hw.2.2.1) rfl rfl rfl hl (C0.1.2.2.2.2 _ hw.2.1) hw.2.2.2 hR, C0.1.2.2.2.2 _ hw.1, trivial⟩ (kpre C0.2 hP) rfl hn hls hst (lv_room hW) hdg ⟨Nat.zero_le _, Nat.zero_le _⟩) hS kk
/-- a switch falls through: x is none of the keys -/
theorem kswO {x : Int32} {lo hi : Int} (n : Nat) (hn : hi = lo + n - 1) (h : ∀ k : Nat, k < n → ¬ x.toInt = lo + k) : x.toInt < lo ∨ hi < x.toInt := by
  by_cases h1 : x.toInt < lo
  · exact Or.inl h1
  · by_cases h2 : hi < x.toInt
    · exact Or.inr h2
    · exact absurd (show x.toInt = lo + ((x.toInt - lo).toNat : Nat) by omega) (h _ (by omega))
end KB
