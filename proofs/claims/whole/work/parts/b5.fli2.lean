/-! ===== a line of a flight behind its place, both ways ===== -/
section SB5
variable {z n t i : Nat} {M N M' N' : mM} {tp : Nat → Nat}
theorem FrDr_wk {c0 a b : Nat} (h : FrDr c0 b N N') (hab : a ≤ b) : FrDr c0 a N N' := ⟨h.1, h.2.1, fun j hj => h.2.2 j (by omega)⟩
theorem fli2 (hz : 1000 ≤ z) (h : PZ tp n t i M N) {q : Nat} (hq : q + 5 ≤ 160) : ∃ M' N', FrK M M' ∧ FrDr 327 (q + 2) N N' ∧
    ((cFli2 M = some (false, M') ∧ dFli2 z (nI q) N = some (-1, N') ∧ FQ M' N') ∨
     (∃ a b c i', 1 ≤ a ∧ a ≤ 9 ∧ b ≤ 9 ∧ c ≤ 59 ∧ cFli2 M = some (true, M') ∧ dFli2 z (nI q) N = some (nI 0, N') ∧ PZ tp n t i' M' N' ∧ M' 108 0 = M 108 0 ∧ M' 108 1 = M 108 1 ∧ M' 108 2 = nI a ∧ M' 108 3 = nI b ∧ M' 108 4 = nI c ∧ N' 327 (q + 2) = nI a ∧ N' 327 (q + 3) = nI b ∧ N' 327 (q + 4) = nI c)) := by
  unfold dFli2
  rw [nadd q 2, nadd q 3, nadd q 4]
  obtain ⟨M1, N1, q1, q2, q3⟩ := pz_num (z := z) hz h (lo := 1) (hi := 9) (col := 2) (by omega) (by omega) (by omega)
  rcases q3 with ⟨u1, u2, u3⟩ | ⟨a, a1, a2, u1, u2, u3, u4, u5⟩
  · exact ⟨M1, up N1 327 (q + 2) (-1), q1, FrDr_tr (FrDr_E (by omega) q2) (FrDr_up (by omega) (by omega)), Or.inl ⟨cFli2_1 u1, drf_fail (by omega) (by omega) u2 _, FQ_dr (by omega) u3⟩⟩
  have hp1 : PZ tp n t (min (i + 1) t) M1 (up N1 327 (q + 2) (nI a)) := PZ_dr u3 (by omega)
  have f1 : FrDr 327 (q + 2) N (up N1 327 (q + 2) (nI a)) := FrDr_tr (FrDr_E (by omega) q2) (FrDr_up (by omega) (by omega))
  obtain ⟨M2, N2, r1, r2, r3⟩ := pz_num (z := z) hz hp1 (lo := 0) (hi := 9) (col := 3) (by omega) (by omega) (by omega)
  rcases r3 with ⟨w1, w2, w3⟩ | ⟨b, b1, b2, w1, w2, w3, w4, w5⟩
  · exact ⟨M2, up N2 327 (q + 3) (-1), FrK_tr q1 r1, FrDr_tr f1 (FrDr_tr (FrDr_E (by omega) r2) (FrDr_up (by omega) (by omega))), Or.inl ⟨cFli2_2 u1 w1, (drf_ok (by omega) (by omega) (by omega) u2 _).trans (drf_fail (by omega) (by omega) w2 _), FQ_dr (by omega) w3⟩⟩
  have hp2 : PZ tp n t (min (min (i + 1) t + 1) t) M2 (up N2 327 (q + 3) (nI b)) := PZ_dr w3 (by omega)
  have f2 : FrDr 327 (q + 2) N (up N2 327 (q + 3) (nI b)) := FrDr_tr f1 (FrDr_tr (FrDr_E (by omega) r2) (FrDr_up (by omega) (by omega)))
  obtain ⟨M4, N4, s1, s2, s3⟩ := pz_told (z := z) hz hp2 (k := 19) (w := 25) (lo := 0) (hi := 59) (col := 4) (col2 := 4) (by omega) (by decide) (by omega) (by omega) (by omega) (by omega)
  rcases s3 with ⟨d, M3, y1, y2, y3, y4, y5⟩ | ⟨c, M3, c1, c2, y1, y2, y3, y4, y5, y6⟩
  · refine ⟨M4, up N4 327 (q + 4) (-1), FrK_tr (FrK_tr q1 r1) s1, FrDr_tr f2 (FrDr_tr (FrDr_E (by omega) s2) (FrDr_up (by omega) (by omega))), Or.inl ⟨?_, (drf_ok (by omega) (by omega) (by omega) u2 _).trans ((drf_ok (by omega) (by omega) (by omega) w2 _).trans (drf_end_fail (by omega) (by omega) y4 (F_Mod_readMark z (nI 59)))), FQ_dr (by omega) y5⟩⟩
    cases d with
    | false =>
      have e := y2 rfl
      subst e
      exact cFli2_3 u1 w1 y1
    | true => exact cFli2_4 u1 w1 y1 (y3 rfl)
  have hp3 : PZ tp n t _ M4 (up N4 327 (q + 4) (nI c)) := PZ_dr y4 (by omega)
  have f3 : FrDr 327 (q + 2) N (up N4 327 (q + 4) (nI c)) := FrDr_tr f2 (FrDr_tr (FrDr_E (by omega) s2) (FrDr_up (by omega) (by omega)))
  obtain ⟨M5, N5, x1, x2, x3⟩ := pz_mark (z := z) hz hp3 (s := 59) (by omega)
  have hk := FrK_tr (FrK_tr (FrK_tr q1 r1) s1) x1
  have hf := FrDr_tr f3 (FrDr_E (c0 := 327) (a := q + 2) (by omega) x2)
  rcases x3 with ⟨t1, t2, t3⟩ | ⟨t1, t2, t3, t4⟩
  · exact ⟨M5, N5, hk, hf, Or.inl ⟨cFli2_5 u1 w1 y1 y2 t1, (drf_ok (by omega) (by omega) (by omega) u2 _).trans ((drf_ok (by omega) (by omega) (by omega) w2 _).trans (drf_end_ok (by omega) (by omega) (by omega) y3 _ t2)), t3⟩⟩
  · refine ⟨M5, N5, hk, hf, Or.inr ⟨a, b, c, _, a1, a2, b2, c2, cFli2_5 u1 w1 y1 y2 t1, (drf_ok (by omega) (by omega) (by omega) u2 _).trans ((drf_ok (by omega) (by omega) (by omega) w2 _).trans (drf_end_ok (by omega) (by omega) (by omega) y3 _ t2)), t3, ?_, ?_, ?_, ?_, ?_, ?_, ?_, ?_⟩⟩
    · rw [t4, y6 0 (by omega) (by omega), w5 0 (by omega), u5 0 (by omega)]
    · rw [t4, y6 1 (by omega) (by omega), w5 1 (by omega), u5 1 (by omega)]
    · rw [t4, y6 2 (by omega) (by omega), w5 2 (by omega), u4]
    · rw [t4, y6 3 (by omega) (by omega), w4]
    · rw [t4, y5]
    · rw [x2.1 327 (by omega), up_neJ _ _ _ (by omega), s2.1 327 (by omega), up_neJ _ _ _ (by omega), r2.1 327 (by omega), up_same]
    · rw [x2.1 327 (by omega), up_neJ _ _ _ (by omega), s2.1 327 (by omega), up_same]
    · rw [x2.1 327 (by omega), up_same]
end SB5
