/-! ===== a deed with two numbers behind its word: both ways ===== -/
section SB0
variable {z n t i : Nat} {M N M' N' : mM} {tp : Nat → Nat}
theorem sky2_two (hz : 1000 ≤ z) (h : PZ tp n t i M N) {q : Nat} (hq : q + 4 ≤ 128) (hl : M 108 1 = nI 26) : ∃ M' N', FrK M M' ∧ FrDr 328 (q + 2) N N' ∧
    ((cSky2 M = some (false, M') ∧ dSky2 z (nI q) (nI 2) N = some (-1, N') ∧ FQ M' N') ∨
     (∃ b c i', b ≤ 59 ∧ c ≤ 99 ∧ cSky2 M = some (true, M') ∧ dSky2 z (nI q) (nI 2) N = some (nI 0, N') ∧ PZ tp n t i' M' N' ∧ (∀ j, j ≠ 2 → j ≠ 3 → M' 108 j = M 108 j) ∧ M' 108 2 = nI b ∧ M' 108 3 = nI c ∧ N' 328 (q + 2) = nI b ∧ N' 328 (q + 3) = nI c)) := by
  have e1 : (if nI 2 = nI 3 then nI 1 else nI 0) = nI 0 := by decide
  have e2 : (if nI 2 = nI 2 then nI 59 else (if nI 2 = nI 3 then nI 99 else nI 9)) = nI 59 := by decide
  unfold dSky2
  rw [e1, e2, nadd q 2, nadd q 3]
  obtain ⟨M1, N1, q1, q2, q3⟩ := pz_num (z := z) hz h (lo := 0) (hi := 59) (col := 2) (by omega) (by omega) (by omega)
  rcases q3 with ⟨u1, u2, u3⟩ | ⟨v, v1, v2, u1, u2, u3, u4, u5⟩
  · refine ⟨M1, up N1 328 (q + 2) (-1), q1, FrDr_tr (FrDr_E (by omega) q2) (FrDr_up (by omega) (by omega)), Or.inl ⟨?_, drf_fail (by omega) (by omega) u2 _, FQ_dr (by omega) u3⟩⟩
    rw [cSky2_two (b2 := false) (M2 := M1) hl u1 (fun h => (by cases h)) (fun _ => ⟨rfl, rfl⟩), if_neg Bool.false_ne_true]
  · have hp : PZ tp n t (min (i + 1) t) M1 (up N1 328 (q + 2) (nI v)) := PZ_dr u3 (by omega)
    have hf1 : FrDr 328 (q + 2) N (up N1 328 (q + 2) (nI v)) := FrDr_tr (FrDr_E (by omega) q2) (FrDr_up (by omega) (by omega))
    obtain ⟨M2, N2, s1, s2, s3⟩ := pz_num (z := z) hz hp (lo := 0) (hi := 99) (col := 3) (by omega) (by omega) (by omega)
    rcases s3 with ⟨y1, y2, y3⟩ | ⟨c, c1, c2, y1, y2, y3, y4, y5⟩
    · have hif : (if nI 2 = nI 2 then ob2 (F_Mod_readNumber z (nI 0) (nI 99) (up N1 328 (q + 2) (nI v))) fun v73 M74 => some (v73, M74) else some (nI 0, up N1 328 (q + 2) (nI v))) = some (-1, N2) := by
        rw [if_pos rfl, y2, ob2_ok]
      refine ⟨M2, up N2 328 (q + 3) (-1), FrK_tr q1 s1, FrDr_tr hf1 (FrDr_tr (FrDr_E (by omega) s2) (FrDr_up (by omega) (by omega))), Or.inl ⟨?_, (drf_ok (by omega) (by omega) (by omega) u2 _).trans (drf_end_fail (by omega) (by omega) hif (F_Mod_readMark z (nI 59))), FQ_dr (by omega) y3⟩⟩
      rw [cSky2_two (b2 := false) (M2 := M2) hl u1 (fun _ => y1) (fun h => (by cases h)), if_neg Bool.false_ne_true]
    · have hif : (if nI 2 = nI 2 then ob2 (F_Mod_readNumber z (nI 0) (nI 99) (up N1 328 (q + 2) (nI v))) fun v73 M74 => some (v73, M74) else some (nI 0, up N1 328 (q + 2) (nI v))) = some (nI c, N2) := by
        rw [if_pos rfl, y2, ob2_ok]
      have hp2 : PZ tp n t (min (min (i + 1) t + 1) t) M2 (up N2 328 (q + 3) (nI c)) := PZ_dr y3 (by omega)
      obtain ⟨M3, N3, r1, r2, r3⟩ := pz_mark (z := z) hz hp2 (s := 59) (by omega)
      have hfr : FrDr 328 (q + 2) N N3 := FrDr_tr (FrDr_tr hf1 (FrDr_tr (FrDr_E (by omega) s2) (FrDr_up (by omega) (by omega)))) (FrDr_E (by omega) r2)
      have hk : FrK M M3 := FrK_tr (FrK_tr q1 s1) r1
      rcases r3 with ⟨w1, w2, w3⟩ | ⟨w1, w2, w3, w4⟩
      · refine ⟨M3, N3, hk, hfr, Or.inl ⟨?_, (drf_ok (by omega) (by omega) (by omega) u2 _).trans (drf_end_ok (by omega) (by omega) (by omega) hif _ w2), w3⟩⟩
        rw [cSky2_two (b2 := true) (M2 := M2) hl u1 (fun _ => y1) (fun h => (by cases h)), if_pos rfl, w1]
      · refine ⟨M3, N3, hk, hfr, Or.inr ⟨v, c, _, v2, c2, ?_, (drf_ok (by omega) (by omega) (by omega) u2 _).trans (drf_end_ok (by omega) (by omega) (by omega) hif _ w2), w3, fun j hj hj' => by rw [w4, y5 j hj', u5 j hj], by rw [w4, y5 2 (by omega), u4], by rw [w4, y4], ?_, ?_⟩⟩
        · rw [cSky2_two (b2 := true) (M2 := M2) hl u1 (fun _ => y1) (fun h => (by cases h)), if_pos rfl, w1]
        · rw [r2.1 328 (by omega), up_neJ _ _ _ (by omega), s2.1 328 (by omega), up_same]
        · rw [r2.1 328 (by omega), up_same]
end SB0
