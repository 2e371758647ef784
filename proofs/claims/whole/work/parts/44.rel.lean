-- the two states tell the same
def RC (v : kV) (ar : kR) (mv : kV) (mar : kR) : Prop := ∃ (N M r f : Nat) (bd bd2 : Int32) (kd bk nt : Nat → Int32), CW N M f kd bk nt ∧ r < 2 ^ N ∧ HS 0 v ar N M f bd kd bk nt ∧ MS mv mar N M f bd2 kd bk nt ∧ v (2+5*0+2) = nI r ∧ mv 7 = nI r ∧ (1 ≤ N → bd = bd2)
def RS1 (v : kV) (ar : kR) (mar : kR) (q : Nat) : Prop := ((v (20+2*q) = -1 ∧ mar 0 q = -9) ∨ ∃ l : Nat, l < 3 ∧ v (20+2*q) = nI l ∧ mar 0 q = nI l) ∧ (∃ z : Nat, z ≤ 60 ∧ v (21+2*q) = nI z ∧ mar 1 q = nI z) ∧ ∀ i, i < 60 → ar (13+q) i = mar 2 (60*q+i)
def RS (v : kV) (ar : kR) (mar : kR) : Prop := ∀ q, q < 4 → RS1 v ar mar q
def RK (v : kV) (ar : kR) (mv : kV) (mar : kR) : Prop := (v 16 = 0 ∧ mv 10 = -9 ∧ mv 11 = 0) ∨ (v 16 = 1 ∧ (∃ k : Nat, k < 3 ∧ v 17 = nI k ∧ mv 10 = nI k) ∧ (∃ n : Nat, n ≤ 9 ∧ v 18 = nI n ∧ mv 11 = nI n) ∧ ∀ i, i < 9 → ar 10 i = mar 3 i)
def RR (v : kV) (ar : kR) (mv : kV) (mar : kR) : Prop := ∃ n : Nat, n ≤ 8 ∧ v 19 = nI n ∧ mv 29 = nI n ∧ ∀ k, k < n → (∃ c : Nat, c < 7 ∧ nI c < v 2 ∧ ar 11 k = nI c ∧ mar 12 k = nI c) ∧ ar 12 k = mar 13 k
def Rel (v : kV) (ar : kR) (mv : kV) (mar : kR) : Prop := RC v ar mv mar ∧ RS v ar mar ∧ RK v ar mv mar ∧ RR v ar mv mar ∧ v 0 = mv 1 ∧ v 1 = mv 0
section RL
variable {v v2 mv mv2 : kV} {ar ar2 mar mar2 : kR}
theorem HS0_keep {N M f : Nat} {bd : Int32} {kd bk nt : Nat → Int32} (h1 : ∀ j, 2 ≤ j → j ≤ 6 → j ≠ 4 → v2 j = v j) (h2 : ∀ j, j < 4 → ar2 j = ar j) (hS : HS 0 v ar N M f bd kd bk nt) : HS 0 v2 ar2 N M f bd kd bk nt := by
  obtain ⟨a1, a2, a3, a4, a5, a6⟩ := hS
  refine ⟨by rw [h1 _ (by omega) (by omega) (by omega)]; exact a1, by rw [h1 _ (by omega) (by omega) (by omega)]; exact a2, by rw [h1 _ (by omega) (by omega) (by omega)]; exact a3, by rw [h1 _ (by omega) (by omega) (by omega)]; exact a4, fun c hc => ?_, fun k hk => ?_⟩
  · rw [h2 _ (by omega), h2 _ (by omega), h2 _ (by omega)]; exact a5 c hc
  · rw [h2 _ (by omega)]; exact a6 k hk
theorem MS0_keep {N M f : Nat} {bd : Int32} {kd bk nt : Nat → Int32} (h1 : ∀ j, 5 ≤ j → j ≤ 9 → j ≠ 7 → v2 j = v j) (h2 : ∀ j, 4 ≤ j → j ≤ 6 → ar2 j = ar j) (hS : MS v ar N M f bd kd bk nt) : MS v2 ar2 N M f bd kd bk nt := by
  obtain ⟨a1, a2, a3, a4, a5, a6⟩ := hS
  refine ⟨by rw [h1 _ (by omega) (by omega) (by omega)]; exact a1, by rw [h1 _ (by omega) (by omega) (by omega)]; exact a2, by rw [h1 _ (by omega) (by omega) (by omega)]; exact a3, by rw [h1 _ (by omega) (by omega) (by omega)]; exact a4, fun c hc => ?_, fun k hk => ?_⟩
  · rw [h2 _ (by omega) (by omega), h2 _ (by omega) (by omega)]; exact a5 c hc
  · rw [h2 _ (by omega) (by omega)]; exact a6 k hk
theorem RC_keep (h1 : ∀ j, 2 ≤ j → j ≤ 6 → v2 j = v j) (h2 : ∀ j, j < 4 → ar2 j = ar j) (h3 : ∀ j, 5 ≤ j → j ≤ 9 → mv2 j = mv j) (h4 : ∀ j, 4 ≤ j → j ≤ 6 → mar2 j = mar j) (h : RC v ar mv mar) : RC v2 ar2 mv2 mar2 := by
  obtain ⟨N, M, r, f, bd, bd2, kd, bk, nt, a1, a2, a3, a4, a5, a6, a7⟩ := h
  exact ⟨N, M, r, f, bd, bd2, kd, bk, nt, a1, a2, HS0_keep (fun j b1 b2 _ => h1 j b1 b2) h2 a3, MS0_keep (fun j b1 b2 _ => h3 j b1 b2) h4 a4, by rw [h1 _ (by omega) (by omega)]; exact a5, by rw [h3 _ (by omega) (by omega)]; exact a6, a7⟩
theorem RS_keep (h1 : ∀ j, 20 ≤ j → j ≤ 27 → v2 j = v j) (h2 : ∀ j, 13 ≤ j → j ≤ 16 → ar2 j = ar j) (h4 : ∀ j, j ≤ 2 → mar2 j = mar j) (h : RS v ar mar) : RS v2 ar2 mar2 := by
  intro q hq
  obtain ⟨a1, a2, a3⟩ := h q hq
  refine ⟨?_, ?_, ?_⟩
  · rw [h1 _ (by omega) (by omega), h4 _ (by omega)]; exact a1
  · rw [h1 _ (by omega) (by omega), h4 _ (by omega)]; exact a2
  · rw [h2 _ (by omega) (by omega), h4 _ (by omega)]; exact a3
theorem RK_keep (h1 : ∀ j, 16 ≤ j → j ≤ 18 → v2 j = v j) (h2 : ar2 10 = ar 10) (h3 : ∀ j, 10 ≤ j → j ≤ 11 → mv2 j = mv j) (h4 : mar2 3 = mar 3) (h : RK v ar mv mar) : RK v2 ar2 mv2 mar2 := by
  unfold RK
  rw [h1 _ (by omega) (by omega), h1 _ (by omega) (by omega), h1 _ (by omega) (by omega), h2, h3 _ (by omega) (by omega), h3 _ (by omega) (by omega), h4]
  exact h
theorem RR_keep (h0 : v2 2 = v 2) (h1 : v2 19 = v 19) (h2 : ar2 11 = ar 11) (h2' : ar2 12 = ar 12) (h3 : mv2 29 = mv 29) (h4 : mar2 12 = mar 12) (h5 : mar2 13 = mar 13) (h : RR v ar mv mar) : RR v2 ar2 mv2 mar2 := by
  unfold RR
  rw [h0, h1, h2, h2', h3, h4, h5]
  exact h
/-- only what is worked with has changed -/
theorem Rel_scr (h1 : ∀ j, j ≤ 27 → (j < 7 ∨ 16 ≤ j) → v2 j = v j) (h2 : ∀ j, j ≤ 16 → (j < 4 ∨ 10 ≤ j) → ar2 j = ar j) (h3 : ∀ j, j ≤ 31 → j < 16 ∨ 28 ≤ j → mv2 j = mv j) (h4 : ∀ j, j ≤ 13 → j < 7 ∨ 12 ≤ j → mar2 j = mar j) (h : Rel v ar mv mar) : Rel v2 ar2 mv2 mar2 := by
  obtain ⟨a1, a2, a3, a4, a5, a6⟩ := h
  refine ⟨RC_keep (fun j _ _ => h1 j (by omega) (by omega)) (fun j _ => h2 j (by omega) (by omega)) (fun j _ _ => h3 j (by omega) (by omega)) (fun j _ _ => h4 j (by omega) (by omega)) a1, RS_keep (fun j _ _ => h1 j (by omega) (by omega)) (fun j _ _ => h2 j (by omega) (by omega)) (fun j _ => h4 j (by omega) (by omega)) a2, RK_keep (fun j _ _ => h1 j (by omega) (by omega)) (h2 _ (by omega) (by omega)) (fun j _ _ => h3 j (by omega) (by omega)) (h4 _ (by omega) (by omega)) a3, RR_keep (h1 _ (by omega) (by omega)) (h1 _ (by omega) (by omega)) (h2 _ (by omega) (by omega)) (h2 _ (by omega) (by omega)) (h3 _ (by omega) (by omega)) (h4 _ (by omega) (by omega)) (h4 _ (by omega) (by omega)) a4, ?_, ?_⟩
  · rw [h1 _ (by omega) (by omega), h3 _ (by omega) (by omega)]; exact a5
  · rw [h1 _ (by omega) (by omega), h3 _ (by omega) (by omega)]; exact a6
/-- a fault is told by both -/
theorem Rel_flt (x : Int32) (h : Rel v ar mv mar) : Rel (upd v 1 x) ar (upd mv 0 x) mar := by
  obtain ⟨a1, a2, a3, a4, a5, a6⟩ := h
  exact ⟨RC_keep (fun j _ _ => pk_un (by omega)) (fun _ _ => rfl) (fun j _ _ => pk_un (by omega)) (fun _ _ _ => rfl) a1, RS_keep (fun j _ _ => pk_un (by omega)) (fun _ _ _ => rfl) (fun _ _ => rfl) a2, RK_keep (fun j _ _ => pk_un (by omega)) rfl (fun j _ _ => pk_un (by omega)) rfl a3, RR_keep (pk_un (by omega)) (pk_un (by omega)) rfl rfl (pk_un (by omega)) rfl rfl a4, by rw [pk_un (by omega), pk_un (by omega)]; exact a5, by rw [pk_us, pk_us]⟩
theorem upd_upd (g : kV) (k : Nat) (x y : Int32) : upd (upd g k x) k y = upd g k y := by
  funext j
  by_cases h : j = k
  · rw [h, pk_us, pk_us]
  · rw [pk_un h, pk_un h, pk_un h]
theorem upd_id (g : kV) (k : Nat) : upd g k (g k) = g := by
  funext j
  by_cases h : j = k
  · rw [h, pk_us]
  · rw [pk_un h]
end RL
theorem Rel_0 : Rel x0v x0r m0v m0r := by
  refine ⟨⟨0, 0, 0, 0, 0, 1065353216, fun _ => 0, fun _ => 0, fun _ => 0, ⟨by omega, by omega, by omega, fun c hc => absurd hc (by omega), fun c hc => absurd hc (by omega)⟩, by omega, ⟨rfl, rfl, rfl, rfl, fun c hc => absurd hc (by omega), fun c hc => absurd hc (by omega)⟩, ⟨rfl, rfl, rfl, rfl, fun c hc => absurd hc (by omega), fun c hc => absurd hc (by omega)⟩, rfl, rfl, fun hc => absurd hc (by omega)⟩, ?_, Or.inl ⟨rfl, rfl, rfl⟩, ⟨0, by omega, rfl, rfl, fun k hk => absurd hk (by omega)⟩, rfl, rfl⟩
  intro q hq
  rcases (show q = 0 ∨ q = 1 ∨ q = 2 ∨ q = 3 by omega) with rfl | rfl | rfl | rfl
  · exact ⟨Or.inl ⟨rfl, rfl⟩, ⟨0, by omega, rfl, rfl⟩, fun i hi => rfl⟩
  · exact ⟨Or.inl ⟨rfl, rfl⟩, ⟨0, by omega, rfl, rfl⟩, fun i hi => rfl⟩
  · exact ⟨Or.inl ⟨rfl, rfl⟩, ⟨0, by omega, rfl, rfl⟩, fun i hi => rfl⟩
  · exact ⟨Or.inl ⟨rfl, rfl⟩, ⟨0, by omega, rfl, rfl⟩, fun i hi => rfl⟩
