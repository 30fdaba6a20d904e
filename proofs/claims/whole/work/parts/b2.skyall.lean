/-! ===== a whole line of a sky from its keyword on, both ways ===== -/
section SB2
variable {z n t i : Nat} {M N M' N' : mM} {tp : Nat → Nat}
theorem sky_line (hz : 1000 ≤ z) (h : PZ tp n t i M N) {cnt q : Nat} (hc : cnt < 16) (hn : M 102 3 = nI cnt) (hq : q + 4 ≤ 128) : ∃ M' N', FrK M M' ∧ FrDr 328 q N N' ∧
    ((F_Reader_readSky M = some (false, M') ∧ F_Mod_readDeed z (nI q) N = some (-1, N') ∧ FQ M' N') ∨
     (∃ a k b c i', a ≤ 999 ∧ k < 4 ∧ b ≤ 99 ∧ c ≤ 99 ∧ (k = 2 → b ≤ 59) ∧ (k = 3 → 1 ≤ b) ∧ F_Reader_readSky M = some (true, M') ∧ F_Mod_readDeed z (nI q) N = some (nI 0, N') ∧ PZ tp n t i' M' N' ∧ M' 108 0 = nI a ∧ M' 108 1 = nI (kW k) ∧ M' 108 2 = nI b ∧ (k = 2 → M' 108 3 = nI c) ∧ N' 328 q = nI a ∧ N' 328 (q + 1) = nI k ∧ N' 328 (q + 2) = nI b ∧ N' 328 (q + 3) = nI c)) := by
  rw [readSky_eq, readDeed_eq]
  obtain ⟨M1, N1, f1, f2, f3⟩ := line_day (z := z) hz h hc hn (c0 := 328) (n0 := 128) (q := q) (by omega) (by omega) (by omega) (fun M5 => dSky1 z (nI q) M5)
  rcases f3 with ⟨g1, g2, g3⟩ | ⟨a, i1, ha, g1, g2, g3, g4, g5⟩
  · refine ⟨M1, N1, f1, f2, Or.inl ⟨?_, g2, g3⟩⟩
    rw [g1, ob2_ok, if_pos rfl]
  · obtain ⟨M2, N2, r1, r2, r3⟩ := sky_rest (z := z) hz g3 hq
    have wk : FrDr 328 q N1 N2 := ⟨r2.1, r2.2.1, fun j hj => r2.2.2 j (by omega)⟩
    rcases r3 with ⟨w1, w2, w3⟩ | ⟨k, b, c, i', k1, b1, c1, b2, b3, w1, w2, w3, w4, w5, w6, w7, w8, w9, w10⟩
    · refine ⟨M2, N2, FrK_tr f1 r1, FrDr_tr f2 wk, Or.inl ⟨?_, g2.trans w2, w3⟩⟩
      rw [g1, ob2_ok, if_neg Bool.false_ne_true, w1]
    · refine ⟨M2, N2, FrK_tr f1 r1, FrDr_tr f2 wk, Or.inr ⟨a, k, b, c, i', ha, k1, b1, c1, b2, b3, ?_, g2.trans w2, w3, by rw [w4, g4], w5, w6, w7, by rw [r2.2.2 q (by omega), g5], w8, w9, w10⟩⟩
      rw [g1, ob2_ok, if_neg Bool.false_ne_true, w1]
end SB2
