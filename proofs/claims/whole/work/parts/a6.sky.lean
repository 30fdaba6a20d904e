/-! ===== a line of a sky, both ways: its first number ===== -/
section SA6
variable {z n t i : Nat} {M N M' N' : mM} {tp : Nat → Nat}
/-- the line's keyword and number, with room for the line -/
theorem line_day (hz : 1000 ≤ z) (h : PZ tp n t i M N) {cnt c0 n0 q : Nat} (hc : cnt < 16) (hn : M 102 3 = nI cnt) (hc0 : 318 < c0) (hq : q < n0) (hn0 : n0 ≤ 5000) (R : mM → Option (Int32 × mM)) : ∃ M' N', FrK M M' ∧ FrDr c0 q N N' ∧
    (((ob2 (ob2 (ob2 (F_Reader_takeFirst (nI 18) (nI 18) M) fun v246 M247 => some (v246, M247)) fun x243 M245 => some (!x243, M245)) fun x224 M226 =>
        if x224 = true then some (true, M226)
        else ob2 (ob2 (F_Reader_takeNumber (nI 0) (nI 999) (nI 0) M226) fun v240 M241 => some (v240, M241)) fun x237 M239 => some (!x237, M239)) = some (true, M') ∧
      (ob2 (F_Mod_readTold z (nI 18) (nI 0) (nI 999) N) fun v M2 => ob1 (wa M2 c0 n0 (nI q) v) fun M5 => ob1 (ob1 (ra M5 c0 n0 (nI q)) fun v83 => some (decide (v83 = (-1)))) fun x6 => if x6 = true then some ((-1), M5) else R M5) = some (-1, N') ∧ FQ M' N') ∨
     (∃ a i', a ≤ 999 ∧ (ob2 (ob2 (ob2 (F_Reader_takeFirst (nI 18) (nI 18) M) fun v246 M247 => some (v246, M247)) fun x243 M245 => some (!x243, M245)) fun x224 M226 =>
        if x224 = true then some (true, M226)
        else ob2 (ob2 (F_Reader_takeNumber (nI 0) (nI 999) (nI 0) M226) fun v240 M241 => some (v240, M241)) fun x237 M239 => some (!x237, M239)) = some (false, M') ∧
      (ob2 (F_Mod_readTold z (nI 18) (nI 0) (nI 999) N) fun v M2 => ob1 (wa M2 c0 n0 (nI q) v) fun M5 => ob1 (ob1 (ra M5 c0 n0 (nI q)) fun v83 => some (decide (v83 = (-1)))) fun x6 => if x6 = true then some ((-1), M5) else R M5) = R N' ∧
      PZ tp n t i' M' N' ∧ M' 108 0 = nI a ∧ N' c0 q = nI a)) := by
  rw [cw_first h (by omega) (by omega) (show cnt ≤ 16 by omega) hn, if_neg (show ¬ (((tkA tp n i).1 = 3 ∧ 18 ≤ (tkA tp n i).2.1 ∧ (tkA tp n i).2.1 ≤ 18) ∧ cnt = 16) from fun h' => by omega)]
  obtain ⟨M', N', q1, q2, q3⟩ := pz_told (z := z) hz h (k := 18) (w := 18) (lo := 0) (hi := 999) (col := 0) (col2 := 0) (by omega) (by decide) (by omega) (by omega) (by omega) (by omega)
  rcases q3 with ⟨b, M1, u1, u2, u3, u4, u5⟩ | ⟨v, M1, v1, v2, u1, u2, u3, u4, u5, u6⟩
  · refine ⟨M', up N' c0 q (-1), q1, FrDr_tr (FrDr_E (by omega) q2) (FrDr_up (by omega) (by omega)), Or.inl ⟨?_, drf_fail hq hn0 u4 R, ?_⟩⟩
    · rw [u1, ob2_ok, ob2_ok, ob2_ok]
      cases b with
      | false => rw [u2 rfl]; rfl
      | true => rw [if_neg (show ¬ (!true) = true from Bool.false_ne_true), u3 rfl, ob2_ok, ob2_ok]; rfl
    · exact ⟨by rw [up_neC _ _ _ _ (by omega)]; exact u5.1, by rw [up_neC _ _ _ _ (by omega)]; exact u5.2⟩
  · refine ⟨M', up N' c0 q (nI v), q1, FrDr_tr (FrDr_E (by omega) q2) (FrDr_up (by omega) (by omega)), Or.inr ⟨v, _, v2, ?_, drf_ok hq hn0 (by omega) u3 R, PZ_dr u4 (by omega), u5, up_same _ _ _ _⟩⟩
    rw [u1, ob2_ok, ob2_ok, ob2_ok, if_neg (show ¬ (!true) = true from Bool.false_ne_true), u2, ob2_ok, ob2_ok]
    rfl
end SA6
