def szN (s : Nat) : Nat := ((List.range 7).filter (fun c => s.testBit c)).length
theorem sz_all : ∀ s, s < 128 → fJ6_bitCount_0f7a4 (nI s) = some (nI (szN s)) ∧ fX7_size (nI s) = some (nI (szN s)) := by decide +kernel
theorem sz_step : ∀ s, s < 128 → ∀ c, c < 7 → s.testBit c = false → szN (s ||| 2 ^ c) = szN s + 1 := by decide +kernel
def cur (L : Nat) (C : Nat → Int32) (i : Nat) : Int32 := if i < L then C i else 0
theorem cur_lt {L i : Nat} {C : Nat → Int32} {p : Int32} (h : cur L C i = p) (hp : ¬ (0 : Int32) = p) : i < L := by
  unfold cur at h
  by_cases hi : i < L
  · exact hi
  · rw [if_neg hi] at h; exact absurd h hp
def TQ (L B : Nat) (C : Nat → Int32) (v : kV) (ar : kR) (mv : kV) (mar : kR) (i N M r f : Nat) (kd bk nt : Nat → Int32) : Prop := (L ≤ 60 ∧ B + L ≤ 240 ∧ i ≤ L) ∧ (v 12 = nI L ∧ v 13 = nI i ∧ mv 16 = nI (B+i)) ∧ (∀ t, t < L → ar 8 t = C t ∧ mar 2 (B+t) = C t) ∧ CW N M f kd bk nt ∧ r < 2 ^ N ∧ HS 1 v ar N M f 1065353216 kd bk nt ∧ v (2+5*1+2) = nI r ∧ (mv 17 = nI N ∧ mv 18 = nI M ∧ mv 19 = nI r ∧ mv 20 = nI f) ∧ (∀ c, c < N → mar 7 c = kd c ∧ mar 8 c = bk c) ∧ ∀ k, k < M → mar 9 k = nt k
def TF (v : kV) (ar : kR) (mv : kV) (mar : kR) (v2 : kV) (ar2 : kR) (mv2 : kV) (mar2 : kR) : Prop := (∀ j, j < 7 ∨ 14 ≤ j → v2 j = v j) ∧ (∀ j, j < 4 ∨ 9 ≤ j → ar2 j = ar j) ∧ (∀ j, j < 16 ∨ 21 ≤ j → mv2 j = mv j) ∧ ∀ j, j < 7 ∨ 10 ≤ j → mar2 j = mar j
theorem TF.rf {v mv : kV} {ar mar : kR} : TF v ar mv mar v ar mv mar := ⟨fun _ _ => rfl, fun _ _ => rfl, fun _ _ => rfl, fun _ _ => rfl⟩
theorem TF.tr {v mv v2 mv2 v3 mv3 : kV} {ar mar ar2 mar2 ar3 mar3 : kR} (h : TF v ar mv mar v2 ar2 mv2 mar2) (g : TF v2 ar2 mv2 mar2 v3 ar3 mv3 mar3) : TF v ar mv mar v3 ar3 mv3 mar3 := ⟨fun j a => (g.1 j a).trans (h.1 j a), fun j a => (g.2.1 j a).trans (h.2.1 j a), fun j a => (g.2.2.1 j a).trans (h.2.2.1 j a), fun j a => (g.2.2.2 j a).trans (h.2.2.2 j a)⟩
def TE (L B : Nat) (v : kV) (ar : kR) (mv : kV) (mar : kR) (v2 : kV) (ar2 : kR) (mv2 : kV) (mar2 : kR) (i2 : Nat) : Prop := TF v ar mv mar v2 ar2 mv2 mar2 ∧ v2 13 = nI i2 ∧ mv2 16 = nI (B+i2) ∧ i2 ≤ L
section TX
variable {L B i N M r f : Nat} {C kd bk nt : Nat → Int32} {v mv : kV} {ar mar : kR}
theorem TQ.te (h : TQ L B C v ar mv mar i N M r f kd bk nt) : TE L B v ar mv mar v ar mv mar i := ⟨TF.rf, h.2.1.2.1, h.2.1.2.2, h.1.2.2⟩
theorem TE.pre {v2 mv2 v3 mv3 : kV} {ar2 mar2 ar3 mar3 : kR} {i3 : Nat} (h : TF v ar mv mar v2 ar2 mv2 mar2) (g : TE L B v2 ar2 mv2 mar2 v3 ar3 mv3 mar3 i3) : TE L B v ar mv mar v3 ar3 mv3 mar3 i3 := ⟨h.tr g.1, g.2⟩
theorem TQ.step (h : TQ L B C v ar mv mar i N M r f kd bk nt) (hi : i < L) : TQ L B C (upd v 13 (nI (i+1))) ar (upd mv 16 (nI (B+(i+1)))) mar (i+1) N M r f kd bk nt := by
  obtain ⟨⟨a1, a2, a3⟩, ⟨b1, b2, b3⟩, c, d, e, g, hr, ⟨m1, m2, m3, m4⟩, n1, n2⟩ := h
  refine ⟨⟨a1, a2, by omega⟩, ⟨by rw [pk_un (by omega)]; exact b1, pk_us, pk_us⟩, c, d, e, ⟨?_, ?_, ?_, ?_, g.2.2.2.2.1, g.2.2.2.2.2⟩, ?_, ⟨?_, ?_, ?_, ?_⟩, n1, n2⟩
  · rw [pk_un (by omega)]; exact g.1
  · rw [pk_un (by omega)]; exact g.2.1
  · rw [pk_un (by omega)]; exact g.2.2.1
  · rw [pk_un (by omega)]; exact g.2.2.2.1
  · rw [pk_un (by omega)]; exact hr
  · rw [pk_un (by omega)]; exact m1
  · rw [pk_un (by omega)]; exact m2
  · rw [pk_un (by omega)]; exact m3
  · rw [pk_un (by omega)]; exact m4
theorem TF.step : TF v ar mv mar (upd v 13 (nI (i+1))) ar (upd mv 16 (nI (B+(i+1)))) mar := ⟨fun j _ => pk_un (by omega), fun _ _ => rfl, fun j _ => pk_un (by omega), fun _ _ => rfl⟩
theorem nx_x (hL : L ≤ 60) (hi : i ≤ L) (h12 : v 12 = nI L) (h13 : v 13 = nI i) (hC : ∀ t, t < L → ar 8 t = C t) {p : Int32} (hp : ¬ (0 : Int32) = p) : fX5_isNext v ar p = some (decide (cur L C i = p)) := by
  unfold fX5_isNext cur
  rw [h12, h13]
  by_cases h : i < L
  · rw [if_neg (nI_ge h (by omega)), if_neg (nI_in (by omega) (by omega)), nI_clamp (by omega), hC i h, if_pos h, bif_]
  · rw [if_pos (nI_le (by omega) (by omega)), if_neg h, decide_eq_false hp]
theorem tk_x (h : TQ L B C v ar mv mar i N M r f kd bk nt) {p : Int32} (hp : ¬ (0 : Int32) = p) : fX5_takes v ar p = if cur L C i = p then some (true, upd v 13 (nI (i+1)), ar) else some (false, v, ar) := by
  unfold fX5_takes
  rw [nx_x h.1.1 h.1.2.2 h.2.1.1 h.2.1.2.1 (fun t ht => (h.2.2.1 t ht).1) hp, kb1_some, bIf, h.2.1.2.1, nI_1]
  by_cases hc : cur L C i = p
  · rw [if_pos hc, if_pos (decide_eq_true hc)]
  · rw [if_neg hc, if_neg (by simpa using hc)]
theorem cd_m (h : TQ L B C v ar mv mar i N M r f kd bk nt) {α : Type} (F : Int32 → Option α) : (if nI (B+L) ≤ mv 16 then F 0 else if mv 16 < 0 ∨ 240 ≤ (mv 16).toNatClampNeg then none else F (mar 2 (mv 16).toNatClampNeg)) = F (cur L C i) := by
  unfold cur
  obtain ⟨⟨a1, a2, a3⟩, ⟨b1, b2, b3⟩, c, -⟩ := h
  rw [b3]
  by_cases hi : i < L
  · rw [if_neg (nI_ge (by omega) (by omega)), if_neg (nI_in (by omega) (by omega)), nI_clamp (by omega), (c i hi).2, if_pos hi]
  · rw [if_pos (nI_le (by omega) (by omega)), if_neg hi]
theorem sg_m (h : TQ L B C v ar mv mar i N M r f kd bk nt) {p : Int32} (hp : ¬ (0 : Int32) = p) : fX7_isSign mv mar (nI (B+L)) p = if cur L C i = p then some (true, upd mv 16 (nI (B+(i+1))), mar) else some (false, mv, mar) := by
  have e : fX7_isSign mv mar (nI (B+L)) p = (if nI (B+L) ≤ mv 16 then (fun s => if s = p then some (true, upd mv 16 (mv 16 + (1 : Int32)), mar) else some (false, mv, mar)) 0 else if mv 16 < 0 ∨ 240 ≤ (mv 16).toNatClampNeg then none else (fun s => if s = p then some (true, upd mv 16 (mv 16 + (1 : Int32)), mar) else some (false, mv, mar)) (mar 2 (mv 16).toNatClampNeg)) := by
    unfold fX7_isSign
    show _ = if _ then (if (0 : Int32) = p then _ else _) else _
    rw [if_neg hp]
  rw [e, cd_m h (fun s => if s = p then some (true, upd mv 16 (mv 16 + (1 : Int32)), mar) else some (false, mv, mar)), h.2.1.2.2, nI_1]
  rfl
theorem dg_x (h : TQ L B C v ar mv mar i N M r f kd bk nt) {lo hi : Nat} (hlo : lo ≤ 9) (hhi : hi ≤ 9) : (i < L ∧ ∃ j, lo ≤ j ∧ j ≤ hi ∧ C i = nI (48+j) ∧ fX5_digit v ar (nI lo) (nI hi) = some (nI j, upd v 13 (nI (i+1)), ar)) ∨ ((i < L → wI (C i) (nI (48+lo)) (nI (48+hi)) = false) ∧ fX5_digit v ar (nI lo) (nI hi) = some (-9, v, ar)) := by
  obtain ⟨⟨a1, a2, a3⟩, ⟨b1, b2, b3⟩, c, -⟩ := h
  unfold fX5_digit
  rw [b1, b2, show (48 : Int32) = nI 48 from rfl, nI_add, nI_add]
  by_cases hi' : i < L
  · rw [if_pos (nI_lt hi' (by omega)), if_neg (nI_in (by omega) (by omega)), nI_clamp (by omega), (c i hi').1]
    by_cases hw : wI (C i) (nI (48+lo)) (nI (48+hi)) = true
    · obtain ⟨j, h1, h2, h3⟩ := wI_of (by omega) (by omega) hw
      refine Or.inl ⟨hi', j - 48, by omega, by omega, by rw [h3, show 48 + (j - 48) = j by omega], ?_⟩
      rw [h3, if_neg (nI_nlt h1 (by omega)), if_pos (nI_le h2 (by omega)), pk_sub (by omega), nI_1]
    · refine Or.inr ⟨fun _ => by simpa using hw, ?_⟩
      unfold wI at hw
      by_cases g1 : C i < nI (48+lo)
      · rw [if_pos g1]
      · rw [if_neg g1] at hw ⊢
        by_cases g2 : nI (48+hi) < C i
        · rw [if_neg (fun g => le_nlt g g2)]
        · rw [if_neg g2] at hw; exact absurd rfl hw
  · exact Or.inr ⟨fun g => absurd g hi', by rw [if_neg (nI_nlt (by omega) (by omega))]⟩
theorem wI_48 (x : Int32) {m : Nat} (hm : m ≤ 9) : wI (x - (48 : Int32)) 0 (nI m) = wI x (nI 48) (nI (48+m)) := by
  rw [Bool.eq_iff_iff]
  constructor
  · intro h
    obtain ⟨j, -, h2, h3⟩ := wI_of (lo := 0) (by omega) (by omega) h
    have : x = nI (48 + j) := by
      rw [← nI_add, ← h3, show nI 48 = (48 : Int32) from rfl, Int32.add_comm, Int32.sub_add_cancel]
    rw [this]; exact wI_in (by omega) (by omega) (by omega)
  · intro h
    obtain ⟨j, h1, h2, rfl⟩ := wI_of (by omega) (by omega) h
    rw [show (48 : Int32) = nI 48 from rfl, pk_sub h1]
    exact wI_in (lo := 0) (by omega) (by omega) (by omega)
theorem set_e {h c : Nat} (hh : h < 2) (hc : c < 7) {k b : Int32} (hk : k = 0 ∨ k = 1 ∨ k = 2) : fX0_set h v ar (nI c) k b = some (v, va_up (va_up (va_up ar (4*h+0) (upd (ar (4*h+0)) c k)) (4*h+1) (upd (ar (4*h+1)) c b)) (4*h+2) (upd (ar (4*h+2)) c (wt k b))) := by
  unfold fX0_set
  rw [if_neg (nI_in (by omega) (by omega)), if_neg (nI_in (by omega) (by omega)), if_neg (nI_in (by omega) (by omega)), if_neg (nI_in (by omega) (by omega)), if_neg (nI_in (by omega) (by omega)), nI_clamp (by omega), va_up_ne _ _ (show 4*h+2 ≠ 4*h+1 by omega), va_up_ne _ _ (show 4*h+2 ≠ 4*h+0 by omega), va_up_ne _ _ (show 4*h+1 ≠ 4*h+0 by omega)]
  rcases hk with rfl | rfl | rfl <;> rfl
/-- the side, on both sides -/
def sdR (s : Int32) (r N : Nat) : Nat := if s = 114 ∨ s = 82 then r ||| 2 ^ N else r
def sdF (s : Int32) (f N : Nat) : Nat := if s = 76 ∨ s = 82 then f ||| 2 ^ N else f
theorem sd_x (hL : L ≤ 60) (hi : i ≤ L) (h12 : v 12 = nI L) (h13 : v 13 = nI i) (hC : ∀ t, t < L → ar 8 t = C t) (hN : N < 7) (hr : r < 2 ^ N) (hf : f < 2 ^ N) (h9 : v (2+5*1+2) = nI r) (h10 : v (2+5*1+3) = nI f) : fX5_readsSide 1 v ar (nI N) = if (cur L C i = 108 ∨ cur L C i = 114 ∨ cur L C i = 76 ∨ cur L C i = 82) then some (true, upd (upd (upd v 13 (nI (i+1))) 9 (nI (sdR (cur L C i) r N))) 10 (nI (sdF (cur L C i) f N)), ar) else some (false, v, ar) := by
  have h7 := p2_7 (show N ≤ 7 by omega)
  unfold fX5_readsSide fX5_readsSide_18 fX5_readsSide_23 fX5_readsSide_42 fX5_readsSide_47 fX5_readsSide_69 fX5_readsSide_95 fX5_readsSide_116 sdR sdF
  have n1 := nx_x (v := v) (ar := ar) hL hi h12 h13 hC (p := 114) (by decide)
  have n2 := nx_x (v := v) (ar := ar) hL hi h12 h13 hC (p := 82) (by decide)
  have n3 := nx_x (v := v) (ar := ar) hL hi h12 h13 hC (p := 76) (by decide)
  have n4 := nx_x (v := v) (ar := ar) hL hi h12 h13 hC (p := 108) (by decide)
  generalize cur L C i = s at n1 n2 n3 n4 ⊢
  have e9 : ∀ x, upd v 13 x (2+5*1+2) = nI r := fun x => by rw [pk_un (by omega)]; exact h9
  have e10 : ∀ x y, upd (upd v 13 x) (2+5*1+2) y (2+5*1+3) = nI f := fun x y => by rw [pk_un (by omega), pk_un (by omega)]; exact h10
  simp only [n1, n2, n3, n4, kb1_some, bIf, e9, e10, h13, nI_1]
  by_cases s1 : s = 108
  · subst s1
    simp [or_nat r (by omega) N hN, or_nat f (by omega) N hN, Int32.or_zero]
  · by_cases s2 : s = 114
    · subst s2
      simp [or_nat r (by omega) N hN, or_nat f (by omega) N hN, Int32.or_zero]
    · by_cases s3 : s = 76
      · subst s3
        simp [or_nat r (by omega) N hN, or_nat f (by omega) N hN, Int32.or_zero]
      · by_cases s4 : s = 82
        · subst s4
          simp [or_nat r (by omega) N hN, or_nat f (by omega) N hN, Int32.or_zero]
        · simp [s1, s2, s3, s4]
theorem sd_m (p : Int32) (s : Int32) (hN : N < 7) (hr : r < 2 ^ N) (hf : f < 2 ^ N) {k : Nat} (h16 : mv 16 = nI k) (h17 : mv 17 = nI N) (h19 : mv 19 = nI r) (h20 : mv 20 = nI f) : fX7_readCell_170 p s mv mar = if (s = 108 ∨ s = 114 ∨ s = 76 ∨ s = 82) then some (true, upd (upd (upd (upd mv 16 (nI (k+1))) 19 (nI (sdR s r N))) 20 (nI (sdF s f N))) 17 (nI (N+1)), mar) else some (false, mv, mar) := by
  have h7 := p2_7 (show N ≤ 7 by omega)
  unfold fX7_readCell_170 fX7_readCell_197 fX7_readCell_224 fX7_readCell_234 fX7_readCell_255 fX7_readCell_265 sdR sdF
  have e17 : ∀ x, upd mv 16 x 17 = nI N := fun x => by rw [pk_un (by omega)]; exact h17
  have e17b : ∀ x y, upd (upd mv 16 x) 19 y 17 = nI N := fun x y => by rw [pk_un (by omega), pk_un (by omega)]; exact h17
  have e17c : ∀ x y z, upd (upd (upd mv 16 x) 19 y) 20 z 17 = nI N := fun x y z => by rw [pk_un (by omega), pk_un (by omega), pk_un (by omega)]; exact h17
  have e19 : ∀ x, upd mv 16 x 19 = nI r := fun x => by rw [pk_un (by omega)]; exact h19
  have e20 : ∀ x y, upd (upd mv 16 x) 19 y 20 = nI f := fun x y => by rw [pk_un (by omega), pk_un (by omega)]; exact h20
  simp only [e17, e17b, e17c, e19, e20, h16, nI_1]
  by_cases s1 : s = 108
  · subst s1
    simp [or_nat r (by omega) N hN, or_nat f (by omega) N hN, Int32.or_zero]
  · by_cases s2 : s = 114
    · subst s2
      simp [or_nat r (by omega) N hN, or_nat f (by omega) N hN, Int32.or_zero]
    · by_cases s3 : s = 76
      · subst s3
        simp [or_nat r (by omega) N hN, or_nat f (by omega) N hN, Int32.or_zero]
      · by_cases s4 : s = 82
        · subst s4
          simp [or_nat r (by omega) N hN, or_nat f (by omega) N hN, Int32.or_zero]
        · simp [s1, s2, s3, s4]
theorem sdR_lt (s : Int32) (hr : r < 2 ^ N) : sdR s r N < 2 ^ (N + 1) := by
  unfold sdR
  have h1 : r < 2 ^ (N + 1) := Nat.lt_of_lt_of_le hr (Nat.pow_le_pow_right (by omega) (by omega))
  split
  · exact or_lt h1 (by omega)
  · exact h1
theorem sdF_lt (s : Int32) (hr : r < 2 ^ N) : sdF s r N < 2 ^ (N + 1) := by
  unfold sdF
  have h1 : r < 2 ^ (N + 1) := Nat.lt_of_lt_of_le hr (Nat.pow_le_pow_right (by omega) (by omega))
  split
  · exact or_lt h1 (by omega)
  · exact h1
end TX
