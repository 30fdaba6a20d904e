/-! ===== a whole line of a sky, both ways ===== -/
section SB1
variable {z n t i : Nat} {M N M' N' : mM} {tp : Nat → Nat}
def kW (k : Nat) : Nat := if k = 0 then 14 else if k = 1 then 15 else if k = 2 then 26 else 27
theorem sky_rest (hz : 1000 ≤ z) (h : PZ tp n t i M N) {q : Nat} (hq : q + 4 ≤ 128) : ∃ M' N', FrK M M' ∧ FrDr 328 (q + 1) N N' ∧
    ((cSky1 M = some (false, M') ∧ dSky1 z (nI q) N = some (-1, N') ∧ FQ M' N') ∨
     (∃ k b c i', k < 4 ∧ b ≤ 99 ∧ c ≤ 99 ∧ (k = 2 → b ≤ 59) ∧ (k = 3 → 1 ≤ b) ∧ cSky1 M = some (true, M') ∧ dSky1 z (nI q) N = some (nI 0, N') ∧ PZ tp n t i' M' N' ∧ M' 108 0 = M 108 0 ∧ M' 108 1 = nI (kW k) ∧ M' 108 2 = nI b ∧ (k = 2 → M' 108 3 = nI c) ∧ N' 328 (q + 1) = nI k ∧ N' 328 (q + 2) = nI b ∧ N' 328 (q + 3) = nI c)) := by
  obtain ⟨d, d1, d2, d3⟩ := pz_kindOf h
  unfold cSky1 dSky1
  rw [d1, ob1_ok]
  cases d with
  | false =>
    obtain ⟨M', N', g1, g2, g3, g4, g5⟩ := pz_fail h (nI 1)
    refine ⟨M', N', g4, FrDr_E (by omega) g5, Or.inl ⟨?_, ?_, g3⟩⟩
    · rw [if_pos (show ¬ false = true from Bool.false_ne_true), g1, ob2_ok]
    · rw [if_pos (d3 rfl), g2, ob2_ok]
  | true =>
    obtain ⟨h3, k, hk, ek, ew⟩ := d2 rfl
    obtain ⟨M1, N1, g1, g2, g3, g4, g5, g6, g7⟩ := pz_keep (z := z) hz h (by omega) (show 1 < 5 by omega)
    rw [ew] at g4
    rw [if_neg (show ¬ ¬ true = true from fun h => h rfl), g1, ob2_ok, ek, if_neg (nI_nm (by omega)), g2, ob1_ok, nadd q 1, wa_ok (by omega) (by omega), ob1_ok]
    have hp : PZ tp n t (min (i + 1) t) M1 (up N1 328 (q + 1) (nI k)) := PZ_dr g3 (by omega)
    have hf1 : FrDr 328 (q + 1) N (up N1 328 (q + 1) (nI k)) := FrDr_tr (FrDr_E (by omega) g7) (FrDr_up (by omega) (by omega))
    have wk : ∀ {A B : mM}, FrDr 328 (q + 2) A B → FrDr 328 (q + 1) A B := fun f => ⟨f.1, f.2.1, fun j hj => f.2.2 j (by omega)⟩
    by_cases h2 : k = 2
    · subst h2
      obtain ⟨M2, N2, r1, r2, r3⟩ := sky2_two (z := z) hz hp hq g4
      rcases r3 with r3 | ⟨b, c, i', b1, c1, w1, w2, w3, w4, w5, w6, w7, w8⟩
      · exact ⟨M2, N2, FrK_tr g6 r1, FrDr_tr hf1 (wk r2), Or.inl r3⟩
      · exact ⟨M2, N2, FrK_tr g6 r1, FrDr_tr hf1 (wk r2), Or.inr ⟨2, b, c, i', hk, by omega, c1, fun _ => b1, fun e => (by omega), w1, w2, w3, by rw [w4 0 (by omega) (by omega), g5 0 (by omega)], by rw [w4 1 (by omega) (by omega)]; exact g4, w5, fun _ => w6, by rw [r2.2.2 (q + 1) (by omega), up_same], w7, w8⟩⟩
    · have hx : ∃ lo hi w, hi ≤ 99 ∧ (((k = 0 ∧ w = 14 ∨ k = 1 ∧ w = 15) ∧ lo = 0 ∧ hi = 9) ∨ (k = 3 ∧ w = 27 ∧ lo = 1 ∧ hi = 99)) ∧ w = kW k := by
        have hc : k = 0 ∨ k = 1 ∨ k = 3 := by omega
        rcases hc with rfl | rfl | rfl
        · exact ⟨0, 9, 14, by omega, by omega, rfl⟩
        · exact ⟨0, 9, 15, by omega, by omega, rfl⟩
        · exact ⟨1, 99, 27, by omega, by omega, rfl⟩
      obtain ⟨lo, hi, w, hh, hx, hw⟩ := hx
      have g4' : M1 108 1 = nI w := by rw [g4, hw]; rfl
      obtain ⟨M2, N2, r1, r2, r3⟩ := sky2_one (z := z) hz hp hq hx g4'
      rcases r3 with r3 | ⟨b, i', b1, b2, w1, w2, w3, w4, w5, w6, w7⟩
      · exact ⟨M2, N2, FrK_tr g6 r1, FrDr_tr hf1 (wk r2), Or.inl r3⟩
      · exact ⟨M2, N2, FrK_tr g6 r1, FrDr_tr hf1 (wk r2), Or.inr ⟨k, b, 0, i', hk, by omega, by omega, fun e => absurd e h2, fun e => (by omega), w1, w2, w3, by rw [w4 0 (by omega), g5 0 (by omega)], by rw [w4 1 (by omega), g4', hw], w5, fun e => absurd e h2, by rw [r2.2.2 (q + 1) (by omega), up_same], w6, w7⟩⟩
end SB1
