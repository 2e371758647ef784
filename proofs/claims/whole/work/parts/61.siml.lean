section TZ
variable {L B i N M r f : Nat} {C kd bk nt : Nat → Int32} {v mv : kV} {ar mar : kR}
def NL (L B : Nat) (C : Nat → Int32) (v : kV) (ar : kR) (mv : kV) (mar : kR) (N M r f : Nat) (kd bk : Nat → Int32) (X Y : Option (Bool × kV × kR)) : Prop := ∃ b v2 ar2 mv2 mar2 i2, X = some (b, v2, ar2) ∧ Y = some (b, mv2, mar2) ∧ TE L B v ar mv mar v2 ar2 mv2 mar2 i2 ∧ (b = true → ∃ nt2, TQ L B C v2 ar2 mv2 mar2 i2 N (M+1) r f kd bk nt2)
theorem netE (hT : TQ L B C v ar mv mar i N M r f kd bk nt) (hM : M < 6) {s : Nat} (hs : s < 2 ^ N) : NL L B C v ar mv mar N M r f kd bk (fX5_readsNet_68 1 (nI s) v ar) (fX7_readNetNext_92 (nI (B+L)) (nI s) mv mar) := by
  have h0 := hT
  obtain ⟨⟨a1, a2, a3⟩, ⟨b1, b2, b3⟩, c, d, e, g, hr, ⟨m1, m2, m3, m4⟩, n1, n2⟩ := hT
  have h7 := p2_7 d.1
  obtain ⟨z1, z2⟩ := sz_all s (by omega)
  unfold fX5_readsNet_68 fX7_readNetNext_92
  rw [z1, z2, kb1_some, kb1_some, g.2.1, m2]
  by_cases h2 : (2 : Int32) ≤ nI (szN s)
  · rw [if_pos h2, if_pos h2, if_neg (nI_in hM (by omega)), if_neg (nI_in hM (by omega)), nI_clamp (by omega), nI_1]
    have hQ : TQ L B C (upd v (2+5*1+1) (nI (M+1))) (va_up ar (4*1+3) (upd (ar (4*1+3)) M (nI s))) (upd mv 18 (nI (M+1))) (va_up mar 9 (upd (mar 9) M (nI s))) i N (M+1) r f kd bk (upd nt M (nI s)) := by
      refine ⟨⟨a1, a2, a3⟩, ⟨?_, ?_, ?_⟩, fun t ht => ?_, ⟨d.1, by omega, d.2.2.1, d.2.2.2.1, fun k hk => ?_⟩, e, ⟨?_, pk_us, ?_, ?_, fun c hc => ?_, fun k hk => ?_⟩, ?_, ⟨?_, pk_us, ?_, ?_⟩, fun c hc => ?_, fun k hk => ?_⟩
      · rw [pk_un (by omega)]; exact b1
      · rw [pk_un (by omega)]; exact b2
      · rw [pk_un (by omega)]; exact b3
      · rw [va_up_ne _ _ (by omega), va_up_ne _ _ (by omega)]; exact c t ht
      · by_cases hk2 : k = M
        · rw [hk2, pk_us]; exact ⟨s, hs, rfl⟩
        · rw [pk_un hk2]; exact d.2.2.2.2 k (by omega)
      · rw [pk_un (by omega)]; exact g.1
      · rw [pk_un (by omega)]; exact g.2.2.1
      · rw [pk_un (by omega)]; exact g.2.2.2.1
      · rw [va_up_ne _ _ (by omega), va_up_ne _ _ (by omega), va_up_ne _ _ (by omega)]; exact g.2.2.2.2.1 c hc
      · rw [va_up_self]
        by_cases hk2 : k = M
        · rw [hk2, pk_us, pk_us]
        · rw [pk_un hk2, pk_un hk2]; exact g.2.2.2.2.2 k (by omega)
      · rw [pk_un (by omega)]; exact hr
      · rw [pk_un (by omega)]; exact m1
      · rw [pk_un (by omega)]; exact m3
      · rw [pk_un (by omega)]; exact m4
      · rw [va_up_ne _ _ (by omega), va_up_ne _ _ (by omega)]; exact n1 c hc
      · rw [va_up_self]
        by_cases hk2 : k = M
        · rw [hk2, pk_us, pk_us]
        · rw [pk_un hk2, pk_un hk2]; exact n2 k (by omega)
    exact ⟨true, _, _, _, _, i, rfl, rfl, ⟨⟨fun j _ => pk_un (by omega), fun j _ => va_up_ne _ _ (by omega), fun j _ => pk_un (by omega), fun j _ => va_up_ne _ _ (by omega)⟩, hQ.2.1.2.1, hQ.2.1.2.2, hQ.1.2.2⟩, fun _ => ⟨_, hQ⟩⟩
  · rw [if_neg h2, if_neg h2]
    exact ⟨false, _, _, _, _, i, rfl, rfl, h0.te, fun z => by cases z⟩
theorem netS (hM : M < 6) (hN1 : 1 ≤ N) : ∀ (d n n2 s i : Nat) (v : kV) (ar : kR) (mv : kV) (mar : kR), szN s + d = 4 → d < n → d + 1 < n2 → s < 2 ^ N → TQ L B C v ar mv mar i N M r f kd bk nt → NL L B C v ar mv mar N M r f kd bk (fX5_readsNet_4 1 n (nI s) (nI (szN s)) v ar) (fX7_readNetNext_4 (nI (B+L)) n2 (nI s) 1 mv mar) := by
  intro d
  induction d with
  | zero =>
    intro n n2 s i v ar mv mar hd hn hn2 hs hT
    obtain ⟨n, rfl⟩ : ∃ n', n = n' + 1 := ⟨n - 1, by omega⟩
    obtain ⟨n2, rfl⟩ : ∃ n', n2 = n' + 1 := ⟨n2 - 1, by omega⟩
    have h7 := p2_7 hT.2.2.2.1.1
    show NL L B C v ar mv mar N M r f kd bk (fX5_readsNet_4b 1 _ _ _ _ _) (fX7_readNetNext_4b _ _ _ _ _ _)
    unfold fX5_readsNet_4b fX7_readNetNext_4b
    rw [if_pos (show (4 : Int32) ≤ nI (szN s) from nI_le (a := 4) (by omega) (by omega)), if_neg (show ¬ (1 : Int32) = 0 by decide), (sz_all s (by omega)).2, kb1_some, if_pos (show (4 : Int32) ≤ nI (szN s) from nI_le (a := 4) (by omega) (by omega))]
    exact netE hT hM hs
  | succ d ih =>
    intro n n2 s i v ar mv mar hd hn hn2 hs hT
    obtain ⟨n, rfl⟩ : ∃ n', n = n' + 1 := ⟨n - 1, by omega⟩
    obtain ⟨n2, rfl⟩ : ∃ n', n2 = n' + 1 + 1 := ⟨n2 - 2, by omega⟩
    have hN := hT.2.2.2.1.1
    have h7 := p2_7 hN
    have hlast : ∀ x, fX7_readNetNext_4 (nI (B+L)) (n2+1) x 0 mv mar = fX7_readNetNext_92 (nI (B+L)) x mv mar := fun x => by
      show fX7_readNetNext_4b _ _ _ _ _ _ = _
      unfold fX7_readNetNext_4b
      rw [if_pos rfl]
    show NL L B C v ar mv mar N M r f kd bk (fX5_readsNet_4b 1 _ _ _ _ _) (fX7_readNetNext_4b _ _ _ _ _ _)
    unfold fX5_readsNet_4b fX7_readNetNext_4b fX7_readNetNext_66 fX7_readNetNext_67 fX7_readNetNext_89
    rw [if_neg (show ¬ (4 : Int32) ≤ nI (szN s) from nI_ge (b := 4) (by omega) (by omega)), if_neg (show ¬ (1 : Int32) = 0 by decide), (sz_all s (by omega)).2, kb1_some, if_neg (show ¬ (4 : Int32) ≤ nI (szN s) from nI_ge (b := 4) (by omega) (by omega))]
    simp only [if_true, if_neg (show ¬ (1 : Int32) = 0 by decide)]
    rw [hT.2.2.2.2.2.1.1, hT.2.1.2.2, hT.2.2.2.2.2.2.2.1.1, show nI N - (1 : Int32) = nI (N - 1) from pk_sub (a := N) (b := 1) hN1, hlast, nI_1]
    rcases dg_x hT (lo := 0) (hi := N - 1) (by omega) (by omega) with ⟨hi, j, -, hj2, hCj, ed⟩ | ⟨hno, ed⟩
    · rw [show nI 0 = (0 : Int32) from rfl] at ed
      have hB := hT.1.2.1
      rw [ed, kb3_some, if_neg (oN_99 j (by omega)), bt_if, bt_nat s (by omega) j (by omega), if_neg (nI_ge (by omega) (by omega)), if_neg (nI_in (by omega) (by omega)), nI_clamp (by omega), (hT.2.2.1 i hi).2, hCj, show nI (48+j) - (48 : Int32) = nI j by rw [show (48 : Int32) = nI 48 from rfl, pk_sub (by omega), show 48 + j - 48 = j by omega], within_w, kb1_some, bIf, show wI (nI j) 0 (nI (N-1)) = true from wI_in (lo := 0) (by omega) (by omega) (by omega), if_pos rfl, isOf_m, kb1_some, bIf, bt_nat s (by omega) j (by omega)]
      cases hb : s.testBit j
      · rw [if_neg (by decide), if_neg (by decide), or_nat s (by omega) j (by omega), nI_1, ← sz_step s (by omega) j (by omega) hb]
        obtain ⟨b, v2, ar2, mv2, mar2, i2, e1, e2, e3, e4⟩ := ih n (n2+1) (s ||| 2 ^ j) (i+1) _ _ _ _ (by rw [sz_step s (by omega) j (by omega) hb]; omega) (by omega) (by omega) (or_lt hs (by omega)) (hT.step hi)
        exact ⟨b, v2, ar2, mv2, mar2, i2, e1, e2, TE.pre TF.step e3, e4⟩
      · rw [if_pos rfl, if_pos rfl, pk_us, upd_upd, show nI (i+1) - (1 : Int32) = nI i from pk_sub (a := i+1) (b := 1) (by omega), ← hT.2.1.2.1, upd_id]
        exact netE hT hM hs
    · rw [show nI 0 = (0 : Int32) from rfl] at ed
      rw [ed, kb3_some, if_pos rfl]
      by_cases hi : i < L
      · have hB := hT.1.2.1
        rw [if_neg (nI_ge (by omega) (by omega)), if_neg (nI_in (by omega) (by omega)), nI_clamp (by omega), (hT.2.2.1 i hi).2, within_w, kb1_some, bIf, wI_48 _ (by omega), hno hi]
        exact netE hT hM hs
      · rw [if_pos (nI_le (by omega) (by have := hT.1; omega))]
        exact netE hT hM hs
theorem net_L (hT : TQ L B C v ar mv mar i N M r f kd bk nt) (hM : M < 6) (hN1 : 1 ≤ N) : NL L B C v ar mv mar N M r f kd bk (fX5_readsNet 1 v ar) (fX7_readNetNext mv mar (nI (B+L))) := by
  have := netS hM hN1 4 300 300 0 i v ar mv mar (by decide) (by omega) (by omega) (Nat.pow_pos (by omega)) hT
  exact this
end TZ
