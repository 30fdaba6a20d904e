/-! ===== image, both ways ===== -/
section S92
variable {z c : Nat} {M N M' N' : mM} {W : Wd} {P : Ps} {A : LA} {S F : Rw} {T : Tx}
theorem im0_at {t : Bool} {c' i : Nat} (h : c' ≠ 312 ∨ (i ≠ 52 ∧ i ≠ 53 ∧ i ≠ 54)) : im0 t N c' i = N c' i := by
  unfold im0
  by_cases e : c' = 312
  · subst e
    rw [up_neJ _ _ _ (by omega), up_neJ _ _ _ (by omega), up_neJ _ _ _ (by omega)]
  · rw [up_neC _ _ _ _ e, up_neC _ _ _ _ e, up_neC _ _ _ _ e]
set_option maxRecDepth 100000 in
theorem sl_312a : allB (fun p => Nat.ble 312 (slC p)) 11 0 = true := by decide +kernel
theorem sl_312 {p : Nat} (hp : p < 1943) : 312 ≤ slC p := Nat.le_of_ble_eq_true (allB_ok 11 0 sl_312a p (by omega) (by omega))
theorem out77 : ∀ {c' : Nat}, inW 50 c' → c' < 77 := fun h => by unfold inW at h; omega
theorem ok_image (hz : 1000 ≤ z) (t : Bool) : CallOK (F_Rec_image z t) (F_Mod_image z t) := by
  intro c M N hc hIv
  obtain ⟨W, P, A, S, F, T, hW, hT, hI, hD, hTp⟩ := id hIv
  obtain ⟨hIA, ⟨⟨p, hC⟩, r, hP⟩, ⟨hR, hPM⟩, h5⟩ := id hW
  obtain ⟨hK, hKM, oS, oF, oT⟩ := id hT
  obtain ⟨k1, k2, k3, k4⟩ := id hK
  obtain ⟨n1, n2, n3, n4⟩ := id hKM
  have hf := hIA.1
  cases t with
  | true =>
    obtain ⟨q, hq⟩ : ∃ q, TP 50 M q := by
      rcases hI with ⟨-, -, h⟩ | ⟨-, -, W', A', S', F', T', V, q, -, h, -⟩
      · exact h
      · exact ⟨q, CW_P h⟩
    obtain ⟨M1, a1, a2, a3⟩ := cw_copy (z := z) hz isW_50 isW_1 (by omega) hq hC (wf_150 hf)
    have x1 : ∀ c', ¬ inW 50 c' → M1 c' = M c' := a3
    obtain ⟨M2, b1, b2, b3, b4, b5, b6⟩ := told_copy (M := M1) (t := 77) (to := 28) (Or.inr ⟨rfl, rfl⟩) (CL_congr k1 (fun c' h1 h2 => x1 c' (by unfold inW; omega))) (by
      unfold RwS
      rw [x1 (28 + 8) (by unfold inW; omega), x1 (28 + 8 + 1) (by unfold inW; omega)]
      exact k2) (by
      unfold RwF
      rw [x1 (28 + 6) (by unfold inW; omega), x1 (28 + 6 + 1) (by unfold inW; omega)]
      exact k3) (CT_cg k4 (fun c' h1 h2 => x1 c' (by unfold inW; omega))) oT oS.1 oF.1
    have x2 : ∀ c', (c' < 78 ∨ 98 < c') → M2 c' = M1 c' := fun c' h => b6 c' (by omega)
    obtain ⟨M3, d3⟩ : ∃ M3, M3 = up M2 0 4 (bI true) := ⟨_, rfl⟩
    have x3 : ∀ c', c' ≠ 0 → M3 c' = M2 c' := fun c' h => by rw [d3, upC h]
    have x0 : ∀ j, j ≠ 4 → M3 0 j = M 0 j := fun j h => by rw [d3, up_neJ _ _ _ h, x2 0 (by omega), x1 0 (by unfold inW; omega)]
    have xx : ∀ c', c' ≠ 0 → ¬ inW 50 c' → (c' < 78 ∨ 98 < c') → M3 c' = M c' := fun c' h1 h2 h3 => by rw [x3 c' h1, x2 c' h3, x1 c' h2]
    obtain ⟨R, dR⟩ : ∃ R, R = kR true 1943 0 (im0 true N) := ⟨_, rfl⟩
    obtain ⟨r1, r2, -⟩ := kR_T 1943 0 (im0 true N) (by omega)
    rw [← dR] at r1 r2
    have y1 : ∀ c' i, c' ≠ 343 → (c' ≠ 312 ∨ (i ≠ 52 ∧ i ≠ 53 ∧ i ≠ 54)) → R c' i = N c' i := fun c' i h1 h2 => by rw [r2 c' i h1 (by omega), im0_at h2]
    have y2 : ∀ c', c' ≠ 343 → c' ≠ 312 → R c' = N c' := fun c' h1 h2 => by
      funext i
      exact y1 c' i h1 (Or.inl h2)
    have y3 : ∀ j, j < 52 → R 312 j = N 312 j := fun j h => y1 312 j (by omega) (Or.inr (by omega))
    refine ⟨true, M3, R, ?_, ?_, ⟨W, P, A, S, F, T, Wo_cg (c := c + 1000) ⟨IA_mono hIA (by omega), hW.2⟩ (fun c' h => xx c' (by unfold inW at h; omega) (by unfold inW at *; omega) (by unfold inW at h; omega)) (fun j h => x0 j (by omega)) (fun c' h => y2 c' (by omega) (by omega)) (fun j h => y3 j (by omega)),
      To_cg hT (fun c' h1 h2 h3 => xx c' (by omega) (by unfold inW; omega) (by omega)) (fun c' h => y2 c' (by omega) (by omega)) (fun j h => y3 j (by omega)), Or.inr ⟨?_, ?_, W, A, S, F, T, N, q, wf_mono hf (by omega), ?_, ?_, ⟨oS, oF, oT⟩, fun p' hp' => ?_, hR, hKM⟩, Dr_cg hD (xx 113 (by omega) (by unfold inW; omega) (by omega)), ?_⟩, fun c' h => xx c' (by omega) (by unfold inW; omega) (by omega), fun c' h => y2 c' (by omega) (by omega)⟩
    · unfold F_Rec_image
      rw [if_pos rfl, a1, ob1_ok, b1, ob1_ok, ob1_ok, d3]
    · rw [mm_image hz (Or.inl rfl), if_pos rfl, dR]
    · rw [d3, up_same]
    · rw [r2 312 53 (by omega) (by omega)]
      unfold im0
      rw [up_neJ _ _ _ (by omega), up_same]
    · exact CW_congr a2 (fun c' h => by
        have h77 := out77 h
        unfold inW at h
        rw [x3 c' (by omega), x2 c' (by omega)])
    · exact KT_cg ⟨b2, b3, b4, b5⟩ (fun c' h1 h2 h3 => x3 c' (by omega))
    · obtain ⟨s1, -, -, s2⟩ := sl_ok hp'
      rw [r1 p' (Nat.zero_le _) (by omega)]
      refine im0_at ?_
      by_cases e : slC p' = 312
      · have := s2 e
        exact Or.inr ⟨this.2.1, this.2.2.1, this.1⟩
      · exact Or.inl e
    · exact Tp_cg hTp (xx 100 (by omega) (by unfold inW; omega) (by omega)) (xx 101 (by omega) (by unfold inW; omega) (by omega)) (fun j h => y3 j (by omega)) (y2 317 (by omega) (by omega)) (y2 318 (by omega) (by omega))
  | false =>
    rcases hI with ⟨g1, g2, g3⟩ | ⟨g1, g2, W', A', S', F', T', V, q, w1, w2, w3, w4, w5, w6, w7⟩
    · refine ⟨false, M, N, ?_, ?_, Iv_mono hIv (by omega), fun _ _ => rfl, fun _ _ => rfl⟩
      · unfold F_Rec_image
        rw [if_neg Bool.false_ne_true, g1, if_pos (show ¬ ¬ bI false = nI 0 from fun h => h (by decide))]
      · unfold F_Mod_image
        rw [g2, if_pos ⟨Bool.false_ne_true, fun h => h (by decide)⟩]
    · obtain ⟨M1, a1, a2, a3⟩ := cw_copy (z := z) hz isW_1 isW_50 (by omega) (CW_P hC) w2 (wf_150 w1)
      have x1 : ∀ c', ¬ inW 1 c' → M1 c' = M c' := a3
      obtain ⟨k1', k2', k3', k4'⟩ := KT_cg (M' := M1) w3 (fun c' h1 h2 h3 => x1 c' (by unfold inW; omega))
      obtain ⟨M2, b1, b2, b3, b4, b5, b6⟩ := told_copy (M := M1) (t := 28) (to := 77) (Or.inl ⟨rfl, rfl⟩) k1' k2' k3' k4' w4.2.2 w4.1.1 w4.2.1.1
      have x2 : ∀ c', (c' < 29 ∨ 49 < c') → M2 c' = M1 c' := fun c' h => b6 c' (by omega)
      obtain ⟨M3, d3⟩ : ∃ M3, M3 = up M2 0 7 (nI 0) := ⟨_, rfl⟩
      have x3 : ∀ c', c' ≠ 0 → M3 c' = M2 c' := fun c' h => by rw [d3, upC h]
      have x0 : ∀ j, j ≠ 7 → M3 0 j = M 0 j := fun j h => by rw [d3, up_neJ _ _ _ h, x2 0 (by omega), x1 0 (by unfold inW; omega)]
      have xx : ∀ c', 49 < c' → M3 c' = M c' := fun c' h1 => by rw [x3 c' (by omega), x2 c' (by omega), x1 c' (by unfold inW; omega)]
      have hIM0 : IMM (im0 false N) V := fun p' hp' => by
        rw [im0_at (Or.inl (by omega))]
        exact w5 p' hp'
      obtain ⟨R, dR⟩ : ∃ R, R = kR false 1943 0 (im0 false N) := ⟨_, rfl⟩
      obtain ⟨r1, r2, r3⟩ := kR_F (V := V) 1943 0 (im0 false N) (by omega) hIM0
      rw [← dR] at r1 r2 r3
      have hAG : AG R V := fun p' hp' => r1 p' (Nat.zero_le _) (by omega)
      obtain ⟨R', dR'⟩ : ∃ R', R' = up R 312 3 (nI 0) := ⟨_, rfl⟩
      have z1 : ∀ c', c' ≠ 312 → R' c' = R c' := fun c' h => by rw [dR', upC h]
      have z2 : ∀ j, j ≠ 3 → R' 312 j = R 312 j := fun j h => by rw [dR', up_neJ _ _ _ h]
      have y1 : ∀ j, (j = 5 ∨ j = 8 ∨ j = 28 ∨ j = 29) → R' 312 j = N 312 j := fun j h => by
        rw [z2 j (by omega), r2 312 j (fun p' _ hp' he => by
          have := (sl_ok (show p' < 1943 by omega)).2.2.2 he.1
          omega) (by omega), im0_at (Or.inr (by omega))]
      have y53 : R' 312 53 = bI true := by
        rw [z2 53 (by omega), r2 312 53 (fun p' _ hp' he => by
          have := (sl_ok (show p' < 1943 by omega)).2.2.2 he.1
          omega) (by omega)]
        unfold im0
        rw [up_neJ _ _ _ (by omega), up_same]
      have y317 : R' 317 = N 317 := by
        rw [z1 317 (by omega)]
        funext i
        rw [r2 317 i (fun p' _ hp' he => (sl_ok (show p' < 1943 by omega)).2.2.1 he.1) (Or.inl (by omega)), im0_at (Or.inl (by omega))]
      have y318 : R' 318 = N 318 := by
        rw [z1 318 (by omega)]
        funext i
        rw [r2 318 i (fun p' _ hp' he => sl_318 (show p' < 1943 by omega) he.1) (Or.inl (by omega)), im0_at (Or.inl (by omega))]
      have ylow : ∀ c', c' < 312 → R' c' = N c' := fun c' h => by
        rw [z1 c' (by omega)]
        funext i
        refine (r2 c' i (fun p' _ hp' he => ?_) (Or.inl (by omega))).trans (im0_at (Or.inl (by omega)))
        have hs : 312 ≤ slC p' := sl_312 (by omega)
        rw [he.1] at hs
        omega
      have R1 : RM R W' := RM_ag hAG w6 (wf_20 w1) (wf_150 w1)
      have K1 : KM R A' S' F' T' := ⟨ML_ag hAG w7.1, RMs_ag hAG w7.2.1 w4.1.1, RMf_ag hAG w7.2.2.1 w4.2.1.1, MT_ag hAG w7.2.2.2 w4.2.2⟩
      obtain ⟨p1, p2, p3, p4, p5, p6⟩ := hP
      refine ⟨true, M3, R', ?_, ?_, ⟨W', (0, P.2), A', S', F', T', ⟨IA_forget w1, ⟨⟨p, CW_congr a2 (fun c' h => ?_)⟩, r, Nat.zero_le _, p2, by rw [d3, up_same], by rw [x0 6 (by omega)]; exact p4, fun i hi => ?_, fun k hk => absurd hk (Nat.not_lt_zero k)⟩, ⟨RM_congr (z1 313 (by omega)) (z1 316 (by omega)) R1, PM_forget (by rw [dR', up_same])⟩, by rw [y1 5 (by omega)]; exact h5⟩,
        ⟨KT_cg ⟨b2, b3, b4, b5⟩ (fun c' h1 h2 h3 => x3 c' (by omega)), KM_cg K1 (fun c' h => z1 c' (by omega)) (fun j h => z2 j (by omega)), w4⟩, Or.inr ⟨by rw [x0 4 (by omega)]; exact g1, y53, W', A', S', F', T', V, q, wf_mono w1 (by omega), CW_congr w2 (fun c' h => xx c' (by unfold inW at h; omega)), KT_cg w3 (fun c' h1 h2 h3 => xx c' (by omega)), w4, fun p' hp' => by rw [z1 343 (by omega)]; exact r3 p' hp', w6, w7⟩,
        Dr_cg hD (xx 113 (by omega)), Tp_cg hTp (xx 100 (by omega)) (xx 101 (by omega)) (fun j h => y1 j (by omega)) y317 y318⟩, fun c' h => xx c' (by omega), ylow⟩
      · unfold F_Rec_image F_Rec_forget
        rw [if_neg Bool.false_ne_true, g1, if_neg (show ¬ ¬ ¬ bI true = nI 0 from fun h => h (by decide)), a1, ob1_ok, b1, ob1_ok, ob1_ok, ob1_ok, d3]
      · rw [mm_image hz (Or.inr g2), if_neg Bool.false_ne_true, dR', dR]
      · unfold inW at h
        rw [x3 c' (by omega), x2 c' (by omega)]
      · obtain ⟨q1, q2, q3⟩ := p5 i hi
        exact ⟨by rw [xx 99 (by omega)]; exact q1, q2, TP_cg q3 (xx _ (by omega))⟩
end S92
