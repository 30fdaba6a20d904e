/-! ===== text as a call ===== -/
section SE0
variable {z c : Nat} {M N M' N' N2 : mM} {A : LA} {S F : Rw} {T : Tx} {W : Wd} {P : Ps} {k : Int32}
theorem RQt_cg {q c1 : Nat} {N1 : mM} (h : RQt q c1 M N1) (e1 : ∀ c', c' ≠ 312 → N' c' = N1 c') (e2 : ∀ j, j ≠ 8 → N' 312 j = N1 312 j) : RQt q c1 M N' := by
  obtain ⟨h0, h1, h2, h3⟩ := h
  refine ⟨fun e => ?_, fun e => ?_, fun e => ?_, fun e => ?_⟩
  · obtain ⟨i, hi⟩ := h0 e
    refine ⟨i, ?_⟩
    unfold RLaw dr at hi ⊢
    rw [e1 320 (by omega), e1 321 (by omega), e1 322 (by omega), e1 323 (by omega), e1 324 (by omega), e1 325 (by omega), e2 22 (by omega), e2 23 (by omega)]
    exact hi
  · have := h1 e
    unfold RFli at this ⊢
    rw [e1 327 (by omega)]
    exact this
  · have := h2 e
    unfold RSky at this ⊢
    rw [e1 328 (by omega)]
    exact this
  · have := h3 e
    unfold RStr at this ⊢
    rw [e1 329 (by omega)]
    exact this
theorem ok_text (hz : 1000 ≤ z) (k : Int32) : CallOK (F_Rec_text z k) (F_Mod_text z k) := by
  intro c M N hc hIv
  obtain ⟨W, P, A, S, F, T, hW, hT, hI, hD, hTp⟩ := id hIv
  obtain ⟨n, hn⟩ := hTp.1
  obtain ⟨M0, g1, g2, g3, g4, g5, g6⟩ := tx_read (z := z) hz hn hTp.2.2.2
  rw [mt_eq]
  by_cases hk : k < nI 0 ∨ nI 3 < k
  · -- no such kind
    obtain ⟨N', dN⟩ : ∃ N', N' = up (txN N) 312 8 (nI 0) := ⟨_, rfl⟩
    have e1 : ∀ c', c' ≠ 312 → N' c' = txN N c' := fun c' h => by rw [dN, upC h]
    have e2 : ∀ j, j ≠ 8 → N' 312 j = txN N 312 j := fun j h => by rw [dN, up_neJ _ _ _ h]
    obtain ⟨x1, x2, x3, x4, x5, x6, x7⟩ := tx_inv hW hT hI hD hTp g1 g2 (FrT_rf (N := txN N)) e1 (fun j h _ _ => e2 j h) (by rw [dN, up_same]) (by rw [e2 28 (by omega), tx_28.1]; exact g3) (by rw [e2 29 (by omega), tx_28.2]; exact g4)
    refine ⟨-1, M0, N', ?_, ?_, ⟨W, P, A, S, F, T, x1, x2, x3, x4, x5⟩, x6, x7⟩
    · unfold F_Rec_text
      rw [g5 k hk, ob2_ok, if_pos rfl]
    · rw [if_neg (fun e => by
        rw [isIn_eq] at e
        have := of_decide_eq_true e
        rcases hk with h | h
        · exact this.1 h
        · exact this.2 h), ob2_ok, ob1_ok, ← dN, if_pos rfl]
  · have hk1 : ¬ k < nI 0 := fun e => hk (Or.inl e)
    have hk2 : ¬ nI 3 < k := fun e => hk (Or.inr e)
    obtain ⟨q, -, hq, ek⟩ := rng_n (a := 0) (b := 3) (by omega) (by omega) ⟨hk1, hk2⟩
    have hin : F_Mod_isIn k (nI 0) (nI 3) = true := by
      rw [isIn_eq]
      exact decide_eq_true ⟨hk1, hk2⟩
    rw [hin, if_pos rfl]
    obtain ⟨M1, N1, f1, f2, f3, f4⟩ := g6 q hq
    rw [← ek] at f4
    rcases f4 with ⟨a1, a2, a3, a4⟩ | ⟨c1, a0, a1, a2, a3, a4, a5, a6⟩
    · -- a fault
      obtain ⟨N', dN⟩ : ∃ N', N' = up (up (up N1 312 28 (N1 312 26)) 312 29 (N1 312 27)) 312 8 (nI 0) := ⟨_, rfl⟩
      obtain ⟨x1, x2, x3, x4, x5, x6, x7⟩ := tx_inv (N' := N') hW hT hI hD hTp f1 f2 f3 (fun c' h => by rw [dN, upC h, upC h, upC h]) (fun j h1 h2 h3 => by rw [dN, up_neJ _ _ _ h1, up_neJ _ _ _ h3, up_neJ _ _ _ h2]) (by rw [dN, up_same]) (by rw [dN, up_neJ _ _ _ (by omega), up_neJ _ _ _ (by omega), up_same]; exact a3) (by rw [dN, up_neJ _ _ _ (by omega), up_same]; exact a4)
      refine ⟨-1, M1, N', ?_, ?_, ⟨W, P, A, S, F, T, x1, x2, x3, x4, x5⟩, x6, x7⟩
      · unfold F_Rec_text
        rw [a1, ob2_ok, if_pos rfl]
      · rw [a2, ob2_ok, if_pos rfl, ob1_ok, up_neJ _ _ _ (show 27 ≠ 28 by omega), ob1_ok, ob2_ok, ob1_ok, ← dN, if_pos rfl]
    · -- read well
      obtain ⟨N2, dN⟩ : ∃ N2, N2 = up N1 312 8 (nI 0) := ⟨_, rfl⟩
      have e1 : ∀ c', c' ≠ 312 → N2 c' = N1 c' := fun c' h => by rw [dN, upC h]
      have e2 : ∀ j, j ≠ 8 → N2 312 j = N1 312 j := fun j h => by rw [dN, up_neJ _ _ _ h]
      have n28 : N2 312 28 = nI 0 := by rw [e2 28 (by omega), FrT_312 f3 (by omega)]; exact tx_28.1
      have n29 : N2 312 29 = -1 := by rw [e2 29 (by omega), FrT_312 f3 (by omega)]; exact tx_28.2
      obtain ⟨x1, x2, x3, x4, x5, x6, x7⟩ := tx_inv (N' := N2) hW hT hI hD hTp f1 f2 f3 e1 (fun j h _ _ => e2 j h) (by rw [dN, up_same]) (by rw [n28]; exact a5) (by rw [n29]; exact a6)
      have hR := RQt_cg (N' := N2) a4 e1 e2
      have hne : ¬ nI c1 = (-1 : Int32) := nI_nm (by omega)
      unfold F_Rec_text
      rw [a1, ob2_ok, if_neg hne, a2, ob2_ok, if_neg hne, ob2_ok, ob1_ok, ← dN, if_neg hne, ek]
      have hc : q = 0 ∨ q = 1 ∨ q = 2 ∨ q = 3 := by omega
      rcases hc with rfl | rfl | rfl | rfl
      · obtain ⟨i, hL⟩ := hR.1 rfl
        obtain ⟨M', N', y1, y2, y3, y4, y5⟩ := take_0 (z := z) hz x1 x2 x3 x4 x5 a0 a3 hL
        refine ⟨nI c1, M', N', ?_, ?_, y3, fun c' h => (y4 c' h).trans (x6 c' h), fun c' h => (y5 c' h).trans (x7 c' h)⟩
        · rw [y1, ob1_ok, if_neg (by decide), ob1_ok]
        · rw [if_pos rfl, y2, ob1_ok, ob1_ok]
      · obtain ⟨M', N', y1, y2, y3, y4, y5⟩ := take_1 (z := z) hz x1 x2 x3 x4 x5 a0 a3 (hR.2.1 rfl)
        refine ⟨nI c1, up M' 0 7 (nI 0), N', ?_, ?_, y3, fun c' h => (upC (by omega)).trans ((y4 c' h).trans (x6 c' h)), fun c' h => (y5 c' h).trans (x7 c' h)⟩
        · rw [y1, ob1_ok, if_pos (Or.inl rfl)]
          rfl
        · rw [if_neg (by decide), y2, ob1_ok, ob1_ok]
      · obtain ⟨M', N', y1, y2, y3, y4, y5⟩ := take_2 (z := z) hz x1 x2 x3 x4 x5 a0 a3 (hR.2.2.1 rfl)
        refine ⟨nI c1, up M' 0 7 (nI 0), N', ?_, ?_, y3, fun c' h => (upC (by omega)).trans ((y4 c' h).trans (x6 c' h)), fun c' h => (y5 c' h).trans (x7 c' h)⟩
        · rw [y1, ob1_ok, if_pos (Or.inr rfl)]
          rfl
        · rw [if_neg (by decide), y2, ob1_ok, ob1_ok]
      · obtain ⟨M', N', y1, y2, y3, y4, y5⟩ := take_3 (z := z) hz x1 x2 x3 x4 x5 a0 a3 (hR.2.2.2 rfl)
        refine ⟨nI c1, M', N', ?_, ?_, y3, fun c' h => (y4 c' h).trans (x6 c' h), fun c' h => (y5 c' h).trans (x7 c' h)⟩
        · rw [y1, ob1_ok, if_neg (by decide), ob1_ok]
        · rw [if_neg (by decide), y2, ob1_ok, ob1_ok]
end SE0
