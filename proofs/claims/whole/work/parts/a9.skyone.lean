/-! ===== a deed with one number behind its word: both ways ===== -/
section SA9
variable {z n t i : Nat} {M N M' N' : mM} {tp : Nat → Nat}
theorem FQ_dr {c0 k : Nat} {x : Int32} (hc : c0 ≠ 312) (h : FQ M' N') : FQ M' (up N' c0 k x) := ⟨by rw [up_neC _ _ _ _ (fun e => hc e.symm)]; exact h.1, by rw [up_neC _ _ _ _ (fun e => hc e.symm)]; exact h.2⟩
theorem sky2_one (hz : 1000 ≤ z) (h : PZ tp n t i M N) {q k lo hi w : Nat} (hq : q + 4 ≤ 128) (hc : ((k = 0 ∧ w = 14 ∨ k = 1 ∧ w = 15) ∧ lo = 0 ∧ hi = 9) ∨ (k = 3 ∧ w = 27 ∧ lo = 1 ∧ hi = 99)) (hl : M 108 1 = nI w) : ∃ M' N', FrK M M' ∧ FrDr 328 (q + 2) N N' ∧
    ((cSky2 M = some (false, M') ∧ dSky2 z (nI q) (nI k) N = some (-1, N') ∧ FQ M' N') ∨
     (∃ b i', lo ≤ b ∧ b ≤ hi ∧ cSky2 M = some (true, M') ∧ dSky2 z (nI q) (nI k) N = some (nI 0, N') ∧ PZ tp n t i' M' N' ∧ (∀ j, j ≠ 2 → M' 108 j = M 108 j) ∧ M' 108 2 = nI b ∧ N' 328 (q + 2) = nI b ∧ N' 328 (q + 3) = nI 0)) := by
  have e1 : (if nI k = nI 3 then nI 1 else nI 0) = nI lo := by rcases hc with ⟨⟨rfl, -⟩ | ⟨rfl, -⟩, rfl, -⟩ | ⟨rfl, -, rfl, -⟩ <;> decide
  have e2 : (if nI k = nI 2 then nI 59 else (if nI k = nI 3 then nI 99 else nI 9)) = nI hi := by rcases hc with ⟨⟨rfl, -⟩ | ⟨rfl, -⟩, -, rfl⟩ | ⟨rfl, -, -, rfl⟩ <;> decide
  have e3 : ¬ nI k = nI 2 := by rcases hc with ⟨⟨rfl, -⟩ | ⟨rfl, -⟩, -, -⟩ | ⟨rfl, -, -, -⟩ <;> decide
  have hw : ((w = 14 ∨ w = 15) ∧ lo = 0 ∧ hi = 9) ∨ (w = 27 ∧ lo = 1 ∧ hi = 99) := by omega
  unfold dSky2
  rw [e1, e2, nadd q 2, nadd q 3]
  obtain ⟨M1, N1, q1, q2, q3⟩ := pz_num (z := z) hz h (lo := lo) (hi := hi) (col := 2) (by omega) (by omega) (by omega)
  rcases q3 with ⟨u1, u2, u3⟩ | ⟨v, v1, v2, u1, u2, u3, u4, u5⟩
  · refine ⟨M1, up N1 328 (q + 2) (-1), q1, FrDr_tr (FrDr_E (by omega) q2) (FrDr_up (by omega) (by omega)), Or.inl ⟨?_, drf_fail (by omega) (by omega) u2 _, FQ_dr (by omega) u3⟩⟩
    rw [cSky2_one hl hw u1, if_neg Bool.false_ne_true]
  · have hp : PZ tp n t (min (i + 1) t) M1 (up (up N1 328 (q + 2) (nI v)) 328 (q + 3) (nI 0)) := PZ_dr (PZ_dr u3 (by omega)) (by omega)
    obtain ⟨M2, N2, r1, r2, r3⟩ := pz_mark (z := z) hz hp (s := 59) (by omega)
    have hfr : FrDr 328 (q + 2) N N2 := FrDr_tr (FrDr_tr (FrDr_E (by omega) q2) (FrDr_tr (FrDr_up (by omega) (by omega)) (FrDr_up (by omega) (by omega)))) (FrDr_E (by omega) r2)
    have hif : (if nI k = nI 2 then ob2 (F_Mod_readNumber z (nI 0) (nI 99) (up N1 328 (q + 2) (nI v))) fun v73 M74 => some (v73, M74) else some (nI 0, up N1 328 (q + 2) (nI v))) = some (nI 0, up N1 328 (q + 2) (nI v)) := if_neg e3
    rcases r3 with ⟨w1, w2, w3⟩ | ⟨w1, w2, w3, w4⟩
    · refine ⟨M2, N2, FrK_tr q1 r1, hfr, Or.inl ⟨?_, (drf_ok (by omega) (by omega) (by omega) u2 _).trans (drf_end_ok (by omega) (by omega) (by omega) hif _ w2), w3⟩⟩
      rw [cSky2_one hl hw u1, if_pos rfl, w1]
    · refine ⟨M2, N2, FrK_tr q1 r1, hfr, Or.inr ⟨v, _, v1, v2, ?_, (drf_ok (by omega) (by omega) (by omega) u2 _).trans (drf_end_ok (by omega) (by omega) (by omega) hif _ w2), w3, fun j hj => by rw [w4, u5 j hj], by rw [w4, u4], ?_, ?_⟩⟩
      · rw [cSky2_one hl hw u1, if_pos rfl, w1]
      · rw [r2.1 328 (by omega), up_neJ _ _ _ (by omega), up_same]
      · rw [r2.1 328 (by omega), up_same]
end SA9
