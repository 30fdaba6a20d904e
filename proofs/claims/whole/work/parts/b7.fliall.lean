/-! ===== a whole line of a flight, both ways ===== -/
section SB7
variable {z n t i : Nat} {M N M' N' : mM} {tp : Nat → Nat}
theorem flight_line (hz : 1000 ≤ z) (h : PZ tp n t i M N) {cnt q : Nat} (hc : cnt < 16) (hn : M 102 3 = nI cnt) (hq : q + 5 ≤ 160) : ∃ M' N', FrK M M' ∧ FrDr 327 q N N' ∧
    ((F_Reader_readFlight M = some (false, M') ∧ F_Mod_readFlightLine z (nI q) N = some (-1, N') ∧ FQ M' N') ∨
     (∃ y p a b c i', y ≤ 999 ∧ p ≤ 5 ∧ 1 ≤ a ∧ a ≤ 9 ∧ b ≤ 9 ∧ c ≤ 59 ∧ F_Reader_readFlight M = some (true, M') ∧ F_Mod_readFlightLine z (nI q) N = some (nI 0, N') ∧ PZ tp n t i' M' N' ∧ M' 108 0 = nI y ∧ M' 108 1 = nI p ∧ M' 108 2 = nI a ∧ M' 108 3 = nI b ∧ M' 108 4 = nI c ∧ N' 327 q = nI y ∧ N' 327 (q + 1) = nI p ∧ N' 327 (q + 2) = nI a ∧ N' 327 (q + 3) = nI b ∧ N' 327 (q + 4) = nI c)) := by
  rw [readFlight_eq, readFlightLine_eq]
  obtain ⟨M1, N1, f1, f2, f3⟩ := line_day (z := z) hz h hc hn (c0 := 327) (n0 := 160) (q := q) (by omega) (by omega) (by omega) (fun M5 => dFli1 z (nI q) M5)
  rcases f3 with ⟨g1, g2, g3⟩ | ⟨y, i1, hy, g1, g2, g3, g4, g5⟩
  · refine ⟨M1, N1, f1, f2, Or.inl ⟨?_, g2, g3⟩⟩
    rw [g1, ob2_ok, if_pos rfl, ob2_ok, if_pos rfl]
  obtain ⟨p1, p2⟩ := pz_place g3
  rcases pz_word (z := z) hz g3 (a := 20) (b := 25) (col := 1) (by omega) (by omega) (by omega) with ⟨hd, M2, N2, w1, w2, w3, w4, w5⟩ | ⟨hd, -⟩
  · refine ⟨M2, N2, FrK_tr f1 w4, FrDr_tr f2 (FrDr_E (by omega) w5), Or.inl ⟨?_, g2.trans ?_, w3⟩⟩
    · rw [g1, ob2_ok, if_neg Bool.false_ne_true, w1, ob2_ok, ob2_ok, ob2_ok]
      rfl
    · show dFli1 z (nI q) N1 = _
      unfold dFli1
      rw [if_pos (p1.mpr hd), w2, ob2_ok]
  · obtain ⟨M2, N2, w1, w2, w3, w4, w5, w6, w7⟩ : ∃ M2 N2, F_Reader_takeWord (nI 20) (nI 25) (nI 1) M1 = some (true, M2) ∧ F_Mod_reads z (up N1 327 (q + 1) (nI ((tkA tp n i1).2.1 - 20))) = some N2 ∧ PZ tp n t (min (i1 + 1) t) M2 N2 ∧ M2 108 1 = nI (tkA tp n i1).2.1 ∧ (∀ j, j ≠ 1 → M2 108 j = M1 108 j) ∧ FrK M1 M2 ∧ FrE (up N1 327 (q + 1) (nI ((tkA tp n i1).2.1 - 20))) N2 := by
      rcases pz_word (z := z) hz (PZ_dr (c0 := 327) (k := q + 1) (x := nI ((tkA tp n i1).2.1 - 20)) g3 (by omega)) (a := 20) (b := 25) (col := 1) (by omega) (by omega) (by omega) with ⟨hn, -⟩ | ⟨-, h⟩
      · exact absurd hd hn
      · exact h
    have hl := hd.2
    obtain ⟨M3, N3, r1, r2, r3⟩ := fli2 (z := z) hz (PZ_l (j := 1) (x := nI ((tkA tp n i1).2.1 - 20)) w3) hq
    have hc1 : ∀ {b : Bool}, cFli2 (up M2 108 1 (nI ((tkA tp n i1).2.1 - 20))) = some (b, M3) → (ob1 (ra M2 108 5 (nI 1)) fun v72 => ob1 (wa M2 108 5 (nI 1) (v72 - (nI 20))) fun M74 => cFli2 M74) = some (b, M3) := by
      intro b hb
      rw [ra_ok (by omega) (by omega), ob1_ok, wa_ok (by omega) (by omega), ob1_ok, w4, nsub hl.1, hb]
    have hm1 : dFli1 z (nI q) N1 = dFli2 z (nI q) N2 := by
      unfold dFli1
      rw [if_neg (fun e => p1.mp e hd), p2 hd, nadd q 1, wa_ok (by omega) (by omega), ob1_ok, w2, ob1_ok]
    have hfr : FrK M M3 := FrK_tr f1 (FrK_tr w6 (FrK_tr ⟨fun c' a b => upC b, fun j _ _ _ => up_neC _ _ _ _ (by omega)⟩ r1))
    have hfm : FrDr 327 q N N3 := FrDr_tr f2 (FrDr_tr (FrDr_tr (FrDr_up (by omega) (by omega)) (FrDr_E (by omega) w7)) (FrDr_wk r2 (by omega)))
    rcases r3 with ⟨x1, x2, x3⟩ | ⟨a, b, c, i', a1, a2, b1, c1, x1, x2, x3, x4, x5, x6, x7, x8, x9, x10, x11⟩
    · refine ⟨M3, N3, hfr, hfm, Or.inl ⟨?_, g2.trans (hm1.trans x2), x3⟩⟩
      rw [g1, ob2_ok, if_neg Bool.false_ne_true, w1, ob2_ok, ob2_ok, ob2_ok, if_neg (show ¬ (!true) = true from Bool.false_ne_true)]
      exact hc1 x1
    · refine ⟨M3, N3, hfr, hfm, Or.inr ⟨y, (tkA tp n i1).2.1 - 20, a, b, c, i', hy, by omega, a1, a2, b1, c1, ?_, g2.trans (hm1.trans x2), x3, by rw [x4, up_neJ _ _ _ (by omega), w5 0 (by omega), g4], by rw [x5, up_same], x6, x7, x8, by rw [r2.2.2 q (by omega), w7.1 327 (by omega), up_neJ _ _ _ (by omega), g5], by rw [r2.2.2 (q + 1) (by omega), w7.1 327 (by omega), up_same], x9, x10, x11⟩⟩
      rw [g1, ob2_ok, if_neg Bool.false_ne_true, w1, ob2_ok, ob2_ok, ob2_ok, if_neg (show ¬ (!true) = true from Bool.false_ne_true)]
      exact hc1 x1
end SB7
