/-! ===== a whole line of a law, both ways ===== -/
def LnC (K : Nat → Int32) (b e e2 : Nat) (F : En → Int32) (G : Option (En → Int32)) : Prop := e ≤ e2 ∧ Den K b e F ∧ (match G with
  | none => e = e2
  | some g => e < e2 ∧ Den K e e2 g)
def LnM (O A : Nat → Int32) (b e e2 : Nat) (F : En → Int32) (G : Option (En → Int32)) : Prop := e ≤ e2 ∧ DenM O A b e F ∧ (match G with
  | none => e = e2
  | some g => e < e2 ∧ DenM O A e e2 g)
section SD3
variable {z n t i : Nat} {M N M' N' : mM} {tp : Nat → Nat} {d b0 b1 cc cm cnt : Nat} {f g : En → Int32} {G : Option (En → Int32)} {K K' O A O' A' : Nat → Int32} {b e e2 : Nat}
theorem Den_pos (h : Den K b e f) : b < e := by
  by_cases hb : b < e
  · exact hb
  · have h1 := h.2 (fun _ => nI 0)
    rw [show e - b = 0 by omega, cev] at h1
    cases h1
theorem DenM_pos (h : DenM O A b e f) : b < e := by
  by_cases hb : b < e
  · exact hb
  · have h1 := h.2 (fun _ => nI 0)
    rw [show e - b = 0 by omega, mev] at h1
    cases h1
theorem LnC_cg (h : LnC K b e e2 f G) (hc : ∀ j, j < e2 → K' j = K j) : LnC K' b e e2 f G := by
  obtain ⟨h1, h2, h3⟩ := h
  refine ⟨h1, Den_cg h2 (fun j hj => hc j (by omega)), ?_⟩
  cases G with
  | none => exact h3
  | some g => exact ⟨h3.1, Den_cg h3.2 hc⟩
theorem LnM_cg (h : LnM O A b e e2 f G) (hc : ∀ j, j < e2 → O' j = O j ∧ A' j = A j) : LnM O' A' b e e2 f G := by
  obtain ⟨h1, h2, h3⟩ := h
  refine ⟨h1, DenM_cg h2 (fun j hj => hc j (by omega)), ?_⟩
  cases G with
  | none => exact h3
  | some g => exact ⟨h3.1, DenM_cg h3.2 hc⟩
theorem pmW_low : ∀ v, v < 29 → ((pmW v ≤ 2) ↔ (v ≤ 2)) ∧ (v ≤ 2 → pmW v = v) := by decide +kernel
theorem law_line (hz : 1000 ≤ z) (hk : cnt < 16) (h : PZ tp n t i M N) (hn : M 102 3 = nI cnt) (hw : (tkA tp n i).1 = 3 ∧ 0 ≤ (tkA tp n i).2.1 ∧ (tkA tp n i).2.1 ≤ 2) (h6 : M 100 6 = nI cc) (h22 : N 312 22 = nI cm) (h23 : N 312 23 = nI 0) (hcc : cc ≤ i) (hcm : cm ≤ i) : ∃ M' N', FrL cc M M' ∧ FrG cnt cm N N' ∧
    ((F_Reader_readLaw z M = some (false, M') ∧ gLaw z (nI cnt) N = some (-1, N') ∧ FQ M' N') ∨
     (∃ w e e2 e' e2' F G i', w ≤ 2 ∧ F_Reader_readLaw z M = some (true, M') ∧ gLaw z (nI cnt) N = some (nI 0, N') ∧ PZ tp n t i' M' N' ∧ (M' 108 0 = nI w ∧ M' 108 1 = nI cc ∧ M' 108 2 = nI e ∧ M' 108 3 = nI e2) ∧ (N' 320 (32 + cnt) = nI w ∧ N' 321 (32 + cnt) = nI cm ∧ N' 322 (32 + cnt) = nI e' ∧ N' 323 (32 + cnt) = nI e2') ∧
        LnC (M' 104) cc e e2 F G ∧ LnM (dr N' 324) (dr N' 325) cm e' e2' F G ∧ M' 100 6 = nI e2 ∧ N' 312 22 = nI e2' ∧ N' 312 23 = nI 0 ∧ e2 ≤ i' ∧ e2' ≤ i' ∧ cc ≤ e ∧ cm ≤ e')) := by
  have hit := PZ_lt h (by omega)
  have ht := PZ_t h
  have hv := (PZ_r h).2.2.2.1 hw.1
  rw [readLaw_eq, cw_first h (by omega) (by omega) (show cnt ≤ 16 by omega) hn, if_neg (fun e => by omega)]
  have hmv : N 312 12 = nI (tkA tp n i).2.1 := by
    have := pz_mval h (by omega)
    rw [if_pos hw.1, (pmW_low _ hv).2 hw.2.2] at this
    exact this
  obtain ⟨M1, N1, w1, w2, w3, w4, w5, w6, w7⟩ : ∃ M1 N1, F_Reader_takeWord (nI 0) (nI 2) (nI 0) M = some (true, M1) ∧ F_Mod_reads z (up N 320 (32 + cnt) (nI (tkA tp n i).2.1)) = some N1 ∧ PZ tp n t (min (i + 1) t) M1 N1 ∧ M1 108 0 = nI (tkA tp n i).2.1 ∧ (∀ j, j ≠ 0 → M1 108 j = M 108 j) ∧ FrK M M1 ∧ FrE (up N 320 (32 + cnt) (nI (tkA tp n i).2.1)) N1 := by
    rcases pz_word (z := z) hz (PZ_dr (c0 := 320) (k := 32 + cnt) (x := nI (tkA tp n i).2.1) h (by omega)) (a := 0) (b := 2) (col := 0) (by omega) (by omega) (by omega) with ⟨hn, -⟩ | ⟨-, h⟩
    · exact absurd hw hn
    · exact h
  rw [Nat.min_eq_left (show i + 1 ≤ t from hit)] at w3
  rw [og_0 w1, ob2_ok, if_neg (show ¬ (!true) = true from Bool.false_ne_true)]
  have m6 : M1 100 6 = nI cc := by rw [w6.2 6 (by omega) (by omega) (by omega)]; exact h6
  have n22 : N1 312 22 = nI cm := by rw [w7.2 22 (by omega) (by omega) (by omega), up_neC _ _ _ _ (by omega)]; exact h22
  have n23 : N1 312 23 = nI 0 := by rw [w7.2 23 (by omega) (by omega) (by omega), up_neC _ _ _ _ (by omega)]; exact h23
  have n320 : N1 320 (32 + cnt) = nI (tkA tp n i).2.1 := by rw [w7.1 320 (by omega), up_same]
  unfold gLaw
  rw [nadd 32 cnt, hmv, wa_ok (show 32 + cnt < 48 by omega) (by omega), ob1_ok, w2, ob1_ok, n22, wa_ok (show 32 + cnt < 48 by omega) (by omega), ob1_ok]
  unfold cLaw1
  rw [m6, wa_ok (by omega) (by omega), ob1_ok]
  have fL1 : FrL cc M (up M1 108 1 (nI cc)) := FrL_tr (FrL_K w6) FrL_l (Nat.le_refl _)
  have fN1 : FrG cnt cm N (up N1 321 (32 + cnt) (nI cm)) := FrG_tr (FrG_up (by omega)) (FrG_tr (FrG_E w7) (FrG_up (by omega)) (Nat.le_refl _)) (Nat.le_refl _)
  have hp1 : PZ tp n t (i + 1) (up M1 108 1 (nI cc)) (up N1 321 (32 + cnt) (nI cm)) := PZ_l (PZ_dr w3 (by omega))
  have hx1 : XSt 24 cc cm cc cm [] (up M1 108 1 (nI cc)) (up N1 321 (32 + cnt) (nI cm)) := ⟨by rw [up_neC _ _ _ _ (by omega)]; exact m6, by rw [up_neC _ _ _ _ (by omega)]; exact n22, RunC_nil, RunM_nil⟩
  obtain ⟨M2, N2, u1, u2, u3⟩ := b_expr (z := z) (s := 0) hz hp1 hx1 (by simp) (by omega) (by omega) (by omega)
  have fL2 := FrL_tr fL1 (FrL_X u1) (Nat.le_refl _)
  have fN2 : FrG cnt cm N N2 := FrG_tr fN1 (FrG_Z (FrZ_Y u2)) (Nat.le_refl _)
  rcases u3 with ⟨v1, v2, v3⟩ | ⟨F, i2, e, e', v1, v2, v3, v4, v5, v6, v7, v8, v9⟩
  · refine ⟨M2, N2, fL2, fN2, Or.inl ⟨?_, ?_, v3⟩⟩
    · rw [v1, ob2_ok, ob2_ok, ob2_ok, if_pos (show (!false) = true from rfl)]
    · rw [v2, ob2_ok, ob2_ok, if_pos (decide_eq_true rfl)]
  have hti := PZ_t v3
  rw [v1, ob2_ok, ob2_ok, ob2_ok, if_neg (show ¬ (!true) = true from Bool.false_ne_true), v4.1, wa_ok (by omega) (by omega), ob1_ok, v2, ob2_ok, ob2_ok, if_neg (fun e => nI_nm (show 0 < 2147483648 by omega) (of_decide_eq_true e)), v4.2.1, wa_ok (show 32 + cnt < 48 by omega) (by omega), ob1_ok]
  obtain ⟨Ma, da⟩ : ∃ Ma, Ma = up M2 108 2 (nI e) := ⟨_, rfl⟩
  obtain ⟨Na, ea⟩ : ∃ Na, Na = up N2 322 (32 + cnt) (nI e') := ⟨_, rfl⟩
  rw [← da, ← ea]
  have hpa : PZ tp n t i2 Ma Na := by rw [da, ea]; exact PZ_l (PZ_dr v3 (by omega))
  have fLa : FrL cc M Ma := by rw [da]; exact FrL_tr fL2 FrL_l (Nat.le_refl _)
  have fNa : FrG cnt cm N Na := by rw [ea]; exact FrG_tr fN2 (FrG_up (by omega)) (Nat.le_refl _)
  have a6 : Ma 100 6 = nI e := by rw [da, up_neC _ _ _ _ (by omega)]; exact v4.1
  have a22 : Na 312 22 = nI e' := by rw [ea, up_neC _ _ _ _ (by omega)]; exact v4.2.1
  have a23 : Na 312 23 = nI 0 := by rw [ea, up_neC _ _ _ _ (by omega), u2.2.1 23 (by omega) (by omega) (by omega) (by omega), up_neC _ _ _ _ (by omega)]; exact n23
  have c104 : Ma 104 = M2 104 := by rw [da, upC (by omega)]
  have n324 : Na 324 = N2 324 ∧ Na 325 = N2 325 := by rw [ea, upC (show 324 ≠ 322 by omega), upC (show 325 ≠ 322 by omega)]; exact ⟨rfl, rfl⟩
  have hR : RunC (Ma 104) cc e 24 [F] := by rw [c104]; exact v4.2.2.1
  have hRM : RunM (dr Na 324) (dr Na 325) cm e' [F] := by unfold dr; rw [n324.1, n324.2]; exact v4.2.2.2
  have l0 : Ma 108 0 = nI (tkA tp n i).2.1 ∧ Ma 108 1 = nI cc ∧ Ma 108 2 = nI e := by
    rw [da, up_same, up_neJ _ _ _ (show 0 ≠ 2 by omega), up_neJ _ _ _ (show 1 ≠ 2 by omega), u1.1 108 (by omega) (by omega), up_same, up_neJ _ _ _ (show 0 ≠ 1 by omega)]
    exact ⟨w4, rfl, rfl⟩
  have d0 : Na 320 (32 + cnt) = nI (tkA tp n i).2.1 ∧ Na 321 (32 + cnt) = nI cm ∧ Na 322 (32 + cnt) = nI e' := by
    rw [ea, up_same, up_neC _ _ _ _ (show 320 ≠ 322 by omega), up_neC _ _ _ _ (show 321 ≠ 322 by omega), u2.1 320 (by omega) (by omega) (by omega), u2.1 321 (by omega) (by omega) (by omega), up_same, up_neC _ _ _ _ (show 320 ≠ 321 by omega)]
    exact ⟨n320, rfl, rfl⟩
  unfold cWhen gWhen
  have pw3 := pz_isWord hpa (show 3 < 100 by omega) (show 3 < 100 by omega)
  have pm3 : F_Mod_isWord (nI 3) Na = decide ((tkA tp n i2).1 = 3 ∧ 3 ≤ (tkA tp n i2).2.1 ∧ (tkA tp n i2).2.1 ≤ 3) := tw_one (by omega) (by decide) _ Ma Na hpa
  rw [pw3, pm3, ob1_ok, ob1_ok]
  by_cases h3 : (tkA tp n i2).1 = 3 ∧ 3 ≤ (tkA tp n i2).2.1 ∧ (tkA tp n i2).2.1 ≤ 3
  · have hit2 := PZ_lt hpa (by omega)
    obtain ⟨M3, N3, s1, s2, s3, s4, s5, s6⟩ := x_step (z := z) hz hpa (by omega) e e'
    rw [decide_eq_true h3, if_pos rfl, s1, ob2_ok, if_pos rfl, s2, ob1_ok]
    obtain ⟨N3', e3'⟩ : ∃ N3', N3' = up N3 312 25 (nI 0) := ⟨_, rfl⟩
    have hp3 : PZ tp n t (i2 + 1) M3 N3' := by rw [e3']; exact PZ_u s3 (by omega)
    have hx3 : XSt 24 e e' e e' [] M3 N3' := ⟨by rw [s6.2.1]; exact a6, by rw [e3', up_neJ _ _ _ (by omega), s6.2.2.1]; exact a22, RunC_nil, RunM_nil⟩
    have hD3 : PD N3' [] := ⟨by rw [e3', up_same]; rfl, trivial⟩
    have h233 : N3' 312 23 = nI 0 := by rw [e3', up_neJ _ _ _ (by omega), s5.2.1 23 (by omega) (by omega) (by omega) (by omega)]; exact a23
    obtain ⟨M4, N4, c1, c2, c3⟩ := cond_all (n := n) (t := t) (tp := tp) hz 12 0 (i2 + 1) e e' z 0 24 e e' 0 [] [] M3 N3' (by omega) (by omega) hp3 hx3 (by simp) (by omega) (by omega) (by omega) hD3 (by simp) (fun p P' e => by cases e) (fun p P' e => by cases e) (fun p P' e => by cases e) h233 (by omega) (by omega) (by omega)
    have eAny : F_Mod_readAny z N3 = AX z z (nI 0) true N3' := by
      rw [e3']
      rfl
    rw [eAny]
    have fL4 : FrL cc M M4 := FrL_tr fLa (FrL_tr (FrL_X s4) (FrL_X c1) (Nat.le_refl _)) (by omega)
    have fN4 : FrG cnt cm N N4 := FrG_tr fNa (FrG_tr (FrG_Z (FrZ_Y s5)) (FrG_tr (by rw [e3']; exact FrG_Z (FrZ_up (b := e') (by omega))) (FrG_Z c2) (Nat.le_refl _)) (Nat.le_refl _)) (by omega)
    rcases c3 with ⟨r1, r2, r3⟩ | ⟨g, j, e2, e2', ym', r1, r2, r3, r4, r5, r6, r7, r8, r9, r10, r11, r12, r13⟩
    · refine ⟨M4, N4, fL4, fN4, Or.inl ⟨?_, ?_, r3⟩⟩
      · rw [r1, ob2_ok, ob2_ok, ob2_ok, if_pos (show (!false) = true from rfl)]
      · rw [r2, ob2_ok, ob2_ok, if_pos (decide_eq_true rfl)]
    · have htj := PZ_t r3
      have eEnd : AEnd z ym' (nI 0) N4 = some (nI 0, N4) := if_pos rfl
      rw [r1, ob2_ok, ob2_ok, ob2_ok, if_neg (show ¬ (!true) = true from Bool.false_ne_true), r2, eEnd, ob2_ok, ob2_ok, if_neg (fun e => nI_nm (show 0 < 2147483648 by omega) (of_decide_eq_true e))]
      obtain ⟨M5, N5, x1, x2, x3⟩ := lw_end (z := z) hz hk r3 r4.1 r4.2.1 cc cm
      have fL5 := FrL_tr fL4 x1 (Nat.le_refl _)
      have fN5 := FrG_tr fN4 x2 (Nat.le_refl _)
      rcases x3 with ⟨y1, y2, y3⟩ | ⟨y0, y1, y2, y3, y4, y5, y6, y7, y8, y9, y10, y11, y12, y13⟩
      · exact ⟨M5, N5, fL5, fN5, Or.inl ⟨y1, y2, y3⟩⟩
      · have m108 : M4 108 = Ma 108 := by rw [c1.1 108 (by omega) (by omega), s4.1 108 (by omega) (by omega)]
        have m3x : ∀ c', 320 ≤ c' → c' < 323 → N5 c' = Na c' := fun c' p q => by rw [y7 c' q p, c2.1 c' (by omega) (by omega) (by omega) (by omega), e3', upC (by omega), s5.1 c' (by omega) (by omega) (by omega)]
        refine ⟨M5, N5, fL5, fN5, Or.inr ⟨(tkA tp n i).2.1, e, e2, e', e2', F, some g, j + 1, hw.2.2, y1, y2, y3, ⟨by rw [y4 0 (by omega), m108]; exact l0.1, by rw [y4 1 (by omega), m108]; exact l0.2.1, by rw [y4 2 (by omega), m108]; exact l0.2.2, y5⟩, ⟨by rw [m3x 320 (by omega) (by omega)]; exact d0.1, by rw [m3x 321 (by omega) (by omega)]; exact d0.2.1, by rw [m3x 322 (by omega) (by omega)]; exact d0.2.2, y6⟩, ?_, ?_, y9, y10, by rw [y11]; exact r6, by omega, by omega, v5, v6⟩⟩
        · have hd2 : Den (M5 104) e e2 g := by rw [y8]; exact RunC_den r4.2.2.1 (by omega)
          refine ⟨r9, ?_, Den_pos hd2, hd2⟩
          rw [y8]
          exact RunC_den (RunC_cg hR (fun q _ p => by rw [c1.2.2 q p, s6.1])) (by omega)
        · have hd2 : DenM (dr N5 324) (dr N5 325) e' e2' g := by unfold dr; rw [y12, y13]; exact RunM_den r4.2.2.2
          refine ⟨r10, ?_, DenM_pos hd2, hd2⟩
          refine RunM_den (RunM_cg hRM (fun q _ p => ?_))
          have q1 := c2.2.2 (800 + q) (by omega)
          have q2 : N3' 324 = Na 324 ∧ N3' 325 = Na 325 := by rw [e3', upC (show 324 ≠ 312 by omega), upC (show 325 ≠ 312 by omega), s6.2.2.2.1, s6.2.2.2.2]; exact ⟨rfl, rfl⟩
          unfold dr
          rw [y12, y13, q1.1, q1.2, q2.1, q2.2]
          exact ⟨rfl, rfl⟩
  · rw [decide_eq_false h3, if_neg Bool.false_ne_true, if_neg Bool.false_ne_true]
    obtain ⟨M5, N5, x1, x2, x3⟩ := lw_end (z := z) hz hk hpa a6 a22 cc cm
    have fL5 := FrL_tr fLa x1 (Nat.le_refl _)
    have fN5 := FrG_tr fNa x2 (Nat.le_refl _)
    rcases x3 with ⟨y1, y2, y3⟩ | ⟨y0, y1, y2, y3, y4, y5, y6, y7, y8, y9, y10, y11, y12, y13⟩
    · exact ⟨M5, N5, fL5, fN5, Or.inl ⟨y1, y2, y3⟩⟩
    · refine ⟨M5, N5, fL5, fN5, Or.inr ⟨(tkA tp n i).2.1, e, e, e', e', F, none, i2 + 1, hw.2.2, y1, y2, y3, ⟨by rw [y4 0 (by omega)]; exact l0.1, by rw [y4 1 (by omega)]; exact l0.2.1, by rw [y4 2 (by omega)]; exact l0.2.2, y5⟩, ⟨by rw [y7 320 (by omega) (by omega)]; exact d0.1, by rw [y7 321 (by omega) (by omega)]; exact d0.2.1, by rw [y7 322 (by omega) (by omega)]; exact d0.2.2, y6⟩, ⟨Nat.le_refl _, ?_, rfl⟩, ⟨Nat.le_refl _, ?_, rfl⟩, y9, y10, by rw [y11]; exact a23, by omega, by omega, v5, v6⟩⟩
      · rw [y8]
        exact RunC_den hR (by omega)
      · unfold dr
        rw [y12, y13]
        exact RunM_den hRM
end SD3
