/-! ===== a day, the model's way: things ===== -/
section S37
variable {th : Bool} {z : Nat} {M : mM} {W : Wd} {c : Nat} {A : LA}
theorem l_gone {N E : Nat} (hE : E = 130 + 7 * N) (hN : N ≤ 19) : ∀ (m k n : Nat) (M : mM), k + m = E → 130 ≤ k → m < n → M 313 8 = nI N → L_Mod_isGone_1 z n (nI k) M = some (fil M 313 k E (fun j => M 313 (j + 7))) := by
  intro m
  induction m with
  | zero =>
    intro k n M hk h130 hn h8
    obtain ⟨n, rfl⟩ : ∃ k, n = k + 1 := ⟨n - 1, by omega⟩
    rw [L_Mod_isGone_1, ra_ok (by omega) (by omega), ob1_ok, ob1_ok, h8, mm_thingAt, if_neg (fun h => lF (by omega) (by omega) (of_decide_eq_true h)), fil_end (by omega)]
  | succ m ih =>
    intro k n M hk h130 hn h8
    obtain ⟨n, rfl⟩ : ∃ k, n = k + 1 := ⟨n - 1, by omega⟩
    rw [L_Mod_isGone_1, ra_ok (by omega) (by omega), ob1_ok, ob1_ok, h8, mm_thingAt, if_pos (decide_eq_true (lT (by omega) (by omega))), nadd, ra_ok (by omega) (by omega), ob1_ok, wa_ok (by omega) (by omega), ob1_ok, nadd, ih (k + 1) n _ (by omega) (by omega) (by omega) (by rw [up_neJ _ _ _ (by omega)]; exact h8)]
    refine congrArg some (fil_step (g := fun j => M 313 (j + 7)) (by omega) (fun j h1 h2 => ?_))
    show up M 313 k _ 313 (j + 7) = _
    rw [up_neJ _ _ _ (by omega)]
theorem mm_isGone (hz : 1000 ≤ z) (hR : RM M W) (h20 : wN W ≤ 20) {t : Nat} (ht : t < wN W) : ∃ M', F_Mod_isGone z (nI t) M = some M' ∧ RM M' (wDel W t) ∧ Fr [313] M M' := by
  have h8 := RM_N hR
  have eL := l_gone (z := z) (N := wN W - 1) rfl (by omega) (130 + 7 * (wN W - 1) - (130 + 7 * t)) (130 + 7 * t) z (up M 313 8 (nI (wN W - 1))) (by omega) (by omega) (by omega) (up_same _ _ _ _)
  refine ⟨fil (up M 313 8 (nI (wN W - 1))) 313 (130 + 7 * t) (130 + 7 * (wN W - 1)) (fun j => up M 313 8 (nI (wN W - 1)) 313 (j + 7)), ?_, ?_, Fr_upR (Fr_up (Fr_rf _ _) (by simp)) (by simp)⟩
  rotate_left
  · obtain ⟨h1, h2, h3, h4, h5, h6, h7⟩ := hR
    have o : ∀ j, j < 130 → fil (up M 313 8 (nI (wN W - 1))) 313 (130 + 7 * t) (130 + 7 * (wN W - 1)) (fun j => up M 313 8 (nI (wN W - 1)) 313 (j + 7)) 313 j = up M 313 8 (nI (wN W - 1)) 313 j := fun j hj => by rw [fil_at, if_neg (by omega)]
    refine ⟨fun q q1 q2 => by rw [o _ (by omega), up_neJ _ _ _ (by omega)]; exact h1 q q1 q2, by rw [o _ (by omega), up_neJ _ _ _ (by omega)]; exact h2, by rw [o _ (by omega), up_same]; rfl, fun i hi => by rw [o _ (by omega), up_neJ _ _ _ (by omega)]; exact h4 i hi, fun i hi => by rw [o _ (by omega), up_neJ _ _ _ (by omega)]; exact h5 i hi, fun s q hs hq => ?_, fun j q hj hq => ?_⟩
    · have hs' : s < wN W - 1 := hs
      rw [fil_at, wDel_T]
      unfold bk
      by_cases h : s < t
      · rw [if_neg (by omega), if_pos h, up_neJ _ _ _ (by omega)]
        exact h6 s q (by omega) hq
      · rw [if_pos (by omega), if_neg h, up_neJ _ _ _ (by omega), show 130 + 7 * s + q + 7 = 130 + 7 * (s + 1) + q by omega]
        exact h6 (s + 1) q (by omega) hq
    · rw [fil_ne (by omega), up_neC _ _ _ _ (by omega)]
      exact h7 j q hj hq
  · unfold F_Mod_isGone
    rw [ra_ok (by omega) (by omega), ob1_ok, h8, nsb (by omega), wa_ok (by omega) (by omega), ob1_ok, mm_thingAt, eL, ob1_ok]
theorem mm_draw (hR : RM M W) : F_Mod_draw (nI 1000) M = some (drw (nxt (wS W 1)), up M 313 1 (nxt (wS W 1))) := by
  have h1 : M 313 1 = wS W 1 := RM_S hR (by omega) (by omega)
  have hz : ∀ x : Int32, nz (nI 1000) x = some x := fun x => if_neg (by decide)
  unfold F_Mod_draw
  rw [ra_ok (by omega) (by omega), ob1_ok, h1, ob1_ok, wa_ok (by omega) (by omega), ob1_ok, ra_ok (by omega) (by omega), ob1_ok, hz, ob1_ok, up_same]
  rfl
theorem RM_fr (hR : RM M W) {M' : mM} {S : List Nat} (hF : Fr S M M') (h1 : 313 ∉ S) (h2 : 316 ∉ S) : RM M' W := RM_congr (hF 313 h1) (hF 316 h2) hR
theorem mm_asks (hz : 1000 ≤ z) (hR : RM M W) (hf : wf c W) {T : Nat → Int32} {i : Nat} (hi : i < 60) (hat : T 4 = nI i) : ∃ M', F_Mod_asks z (T 1) (T 2) (T 3) (nI i) (T 5) (T 6) M = some M' ∧ (∀ q, q < 11 → M' 330 q = envW W T q) ∧ Fr [330] M M' := by
  have h3 : M 313 3 = wS W 3 := RM_S hR (by omega) (by omega)
  have h4 : M 313 4 = wS W 4 := RM_S hR (by omega) (by omega)
  have h0 : M 313 0 = wS W 0 := RM_S hR (by omega) (by omega)
  have o : ∀ (M0 : mM), Fr [330] M M0 → M0 313 = M 313 := fun M0 h => h 313 (by simp)
  have G : ∀ (M0 : mM), Fr [330] M M0 → F_Mod_glue (nI i) M0 = some (wG W i) := fun M0 h => mm_glue (RM_fr hR h (by simp) (by simp)) hi
  have Nr : ∀ (M0 : mM), Fr [330] M M0 → F_Mod_nearTo z (nI i) M0 = some (wNr W (nI i)) := fun M0 h => mm_nearTo (by omega) (RM_fr hR h (by simp) (by simp)) hf hi
  have u : ∀ (M0 : mM) (j : Nat) (x : Int32), Fr [330] M M0 → Fr [330] M (up M0 330 j x) := fun M0 j x h => Fr_up h (by simp)
  have r0 := Fr_rf [330] M
  have r4 := u _ 3 (nI i) (u _ 2 (T 3) (u _ 1 (T 2) (u _ 0 (T 1) r0)))
  have r7 := u _ 6 (T 6) (u _ 5 (T 5) (u _ 4 (wG W i) r4))
  have r8 := u _ 7 (wS W 3) r7
  have r9 := u _ 8 (wS W 4) r8
  have r10 := u _ 9 (wNr W (nI i)) r9
  have r11 := u _ 10 (wS W 0) r10
  refine ⟨_, ?_, ?_, r11⟩
  · unfold F_Mod_asks
    rw [wa_ok (by omega) (by omega), ob1_ok, wa_ok (by omega) (by omega), ob1_ok, wa_ok (by omega) (by omega), ob1_ok, wa_ok (by omega) (by omega), ob1_ok, G _ r4, ob1_ok, wa_ok (by omega) (by omega), ob1_ok, wa_ok (by omega) (by omega), ob1_ok, wa_ok (by omega) (by omega), ob1_ok, ra_ok (by omega) (by omega), ob1_ok, o _ r7, h3, wa_ok (by omega) (by omega), ob1_ok, ra_ok (by omega) (by omega), ob1_ok, o _ r8, h4, wa_ok (by omega) (by omega), ob1_ok, Nr _ r9, ob1_ok, wa_ok (by omega) (by omega), ob1_ok, ra_ok (by omega) (by omega), ob1_ok, o _ r10, h0, wa_ok (by omega) (by omega), ob1_ok]
  · intro q hq
    have e4 : envW W T 4 = wG W i := by
      show wG W (T 4).toNatClampNeg = _
      rw [hat, nI_clamp (by omega)]
    have e9 : envW W T 9 = wNr W (nI i) := by
      show wNr W (T 4) = _
      rw [hat]
    have e3 : envW W T 3 = nI i := hat
    rcases (show q = 0 ∨ q = 1 ∨ q = 2 ∨ q = 3 ∨ q = 4 ∨ q = 5 ∨ q = 6 ∨ q = 7 ∨ q = 8 ∨ q = 9 ∨ q = 10 by omega) with rfl | rfl | rfl | rfl | rfl | rfl | rfl | rfl | rfl | rfl | rfl
    all_goals
      first
      | rw [e3]
      | rw [e4]
      | rw [e9]
      | skip
      simp (disch := omega) only [up_neJ, up_same]
      try rfl
theorem mm_asksOf (hz : 1000 ≤ z) (hR : RM M W) (hf : wf c W) {t : Nat} (ht : t < wN W) : ∃ M', F_Mod_asksOf z (nI t) M = some M' ∧ (∀ q, q < 11 → M' 330 q = envW W (wT W t) q) ∧ Fr [330] M M' := by
  have h20 := wf_20 hf
  obtain ⟨i, hi, hat⟩ := wf_at hf ht
  obtain ⟨M', e1, e2, e3⟩ := mm_asks hz hR hf (T := wT W t) hi hat
  refine ⟨M', ?_, e2, e3⟩
  unfold F_Mod_asksOf
  rw [mm_thingAt, nadd, nadd, nadd, nadd, nadd, nadd]
  rw [ra_ok (by omega) (by omega), ob1_ok, ra_ok (by omega) (by omega), ob1_ok, ra_ok (by omega) (by omega), ob1_ok, ra_ok (by omega) (by omega), ob1_ok, ra_ok (by omega) (by omega), ob1_ok, ra_ok (by omega) (by omega), ob1_ok, RM_T hR ht (show 1 < 7 by omega), RM_T hR ht (show 2 < 7 by omega), RM_T hR ht (show 3 < 7 by omega), RM_T hR ht (show 4 < 7 by omega), RM_T hR ht (show 5 < 7 by omega), RM_T hR ht (show 6 < 7 by omega), hat, e1, ob1_ok]
theorem mm_sticks (hz : 1000 ≤ z) (hR : RM M W) (hA : ML M A) {T : Nat → Int32} (hE : ∀ q, q < 11 → M 330 q = envW W T q) : ∃ M', F_Mod_sticksNow z M = some (tellsS A (nI 0) (envW W T), M') ∧ Fr [331] M M' := by
  have h3 : M 313 3 = wS W 3 := RM_S hR (by omega) (by omega)
  obtain ⟨M', e1, e2⟩ := mm_lawTells (z := z) (A := A) (env := envW W T) hz hA hE (nI 0) (m := 1000) (by decide) (by omega)
  have eu : usS (nI 0) (envW W T) = nI 10 * envW W T 4 - nI 50 * wS W 3 := rfl
  refine ⟨M', ?_, e2⟩
  unfold F_Mod_sticksNow
  rw [ra_ok (by omega) (by omega), ob1_ok, ra_ok (by omega) (by omega), ob1_ok, hE 4 (by omega), h3, ← eu, e1, ob2_ok]
theorem mm_frees (hz : 1000 ≤ z) (hR : RM M W) (hA : ML M A) (hf : wf c W) {t : Nat} (ht : t < wN W) : ∃ M', F_Mod_freesOf z (nI t) M = some (tellsS A (nI 1) (envW W (wT W t)), M') ∧ Fr [330, 331] M M' := by
  obtain ⟨M1, a1, a2, a3⟩ := mm_asksOf hz hR hf ht
  have hR1 : RM M1 W := RM_fr hR a3 (by simp) (by simp)
  have h3 : M1 313 3 = wS W 3 := RM_S hR1 (by omega) (by omega)
  have hA1 : ML M1 A := ML_congr hA (fun c' h1 h2 => a3 c' (by simp; omega))
  obtain ⟨M', e1, e2⟩ := mm_lawTells (z := z) (A := A) (env := envW W (wT W t)) hz hA1 a2 (nI 1) (m := 1000) (by decide) (by omega)
  have eu : usS (nI 1) (envW W (wT W t)) = nI 20 * envW W (wT W t) 2 + nI 10 * wS W 3 - nI 2 * envW W (wT W t) 4 := rfl
  refine ⟨M', ?_, Fr_tr (Fr_wk a3 (fun c' h => by simp at h ⊢; omega)) (Fr_wk e2 (fun c' h => by simp at h ⊢; omega))⟩
  unfold F_Mod_freesOf
  rw [a1, ob1_ok, ra_ok (by omega) (by omega), ob1_ok, ra_ok (by omega) (by omega), ob1_ok, ra_ok (by omega) (by omega), ob1_ok, a2 2 (by omega), a2 4 (by omega), h3, ← eu, e1, ob2_ok]
theorem mm_slides (hz : 1000 ≤ z) (hR : RM M W) (hA : ML M A) (hf : wf c W) {t : Nat} (ht : t < wN W) : ∃ M', F_Mod_slidesOf z (nI t) M = some (tellsS A (nI 2) (envW W (wT W t)), M') ∧ Fr [330, 331] M M' := by
  obtain ⟨M1, a1, a2, a3⟩ := mm_asksOf hz hR hf ht
  have hR1 : RM M1 W := RM_fr hR a3 (by simp) (by simp)
  have h4 : M1 313 4 = wS W 4 := RM_S hR1 (by omega) (by omega)
  have hA1 : ML M1 A := ML_congr hA (fun c' h1 h2 => a3 c' (by simp; omega))
  obtain ⟨M', e1, e2⟩ := mm_lawTells (z := z) (A := A) (env := envW W (wT W t)) hz hA1 a2 (nI 2) (m := 9) (by decide) (by omega)
  have eu : usS (nI 2) (envW W (wT W t)) = wS W 4 / nI 4 := rfl
  refine ⟨M', ?_, Fr_tr (Fr_wk a3 (fun c' h => by simp at h ⊢; omega)) (Fr_wk e2 (fun c' h => by simp at h ⊢; omega))⟩
  unfold F_Mod_slidesOf
  rw [a1, ob1_ok, ra_ok (by omega) (by omega), ob1_ok, h4, ← eu, e1, ob2_ok]
abbrev FM : List Nat := [313, 316, 330, 331]
theorem mm_come (hz : 1000 ≤ z) (hR : RM M W) (hth : M 312 5 = bI th) (hA : ML M A) (hf : wf c W) (hc : c + 1 < 2147483648) {k l : Int32} {s i : Nat} (hi : i < 60) (hs : 1 ≤ s ∧ s ≤ 9) : ∃ M', F_Mod_comesUp z k (nI s) l (nI i) M = some M' ∧ RM M' (sCome th A W k (nI s) l (nI i)) ∧ Fr FM M M' := by
  have h20 := wf_20 hf
  unfold F_Mod_comesUp sCome
  rw [mm_isTaken (by omega) hR h20, ob1_ok, ob1_ok]
  have hx : (if (wAt W (nI i)).isSome = true then some true else ob1 (ra M 313 270 (nI 8)) fun v55 => some (decide (v55 = nI 20))) = some (decide ((wAt W (nI i)).isSome = true ∨ wN W = 20)) := by
    by_cases h : (wAt W (nI i)).isSome = true
    · rw [if_pos h, decide_eq_true (Or.inl h)]
    · rw [if_neg h, ra_ok (by omega) (by omega), ob1_ok, RM_N hR]
      by_cases h2 : wN W = 20
      · rw [decide_eq_true (by rw [h2]), decide_eq_true (Or.inr h2)]
      · rw [decide_eq_false (eF h2 (by omega) (by omega)), decide_eq_false (fun q => q.elim h h2)]
  rw [hx, ob1_ok]
  by_cases hroom : (wAt W (nI i)).isSome = true ∨ wN W = 20
  · rw [if_pos (decide_eq_true hroom), if_pos hroom]
    exact ⟨M, rfl, hR, Fr_rf _ _⟩
  · rw [if_neg (fun h => hroom (of_decide_eq_true h)), if_neg hroom]
    have hN : wN W < 20 := by
      apply Classical.byContradiction
      intro h
      exact hroom (Or.inr (by omega))
    obtain ⟨M1, a1, a2, a3⟩ := mm_asks hz hR hf (T := newT (wS W 5) k (nI s) l (nI i)) hi rfl
    have a1' : F_Mod_asks z k (nI s) l (nI i) (nI 0) (nI 6) M = some M1 := a1
    have hA1 : ML M1 A := ML_congr hA (fun c' h1 h2 => a3 c' (by simp; omega))
    obtain ⟨M2, b1, b2⟩ := mm_sticks hz (RM_fr hR a3 (by simp) (by simp)) hA1 a2
    have hF2 : Fr FM M M2 := Fr_tr (Fr_wk a3 (fun c' h => by simp at h ⊢; omega)) (Fr_wk b2 (fun c' h => by simp at h ⊢; omega))
    have hR2 : RM M2 W := RM_fr (RM_fr hR a3 (by simp) (by simp)) b2 (by simp) (by simp)
    have hth2 : M2 312 5 = bI th := by rw [hF2 312 (by simp)]; exact hth
    obtain ⟨o, ho, eo, -⟩ := tells_nat (A := A) (x := nI 0) (env := envW W (newT (wS W 5) k (nI s) l (nI i)))
    obtain ⟨f1, f2, f3, f4, f5⟩ := sHapW_f (th := th) (W := W)
    have hf3 := wf_hap (th := th) hf
    have draw : ∃ M3, (if ¬ M2 312 5 = nI 0 then some (decide (nI 2 * tellsS A (nI 0) (envW W (newT (wS W 5) k (nI s) l (nI i))) < nI 1000), M2) else ob2 (F_Mod_draw (nI 1000) M2) fun v43 M44 => some (decide (¬ v43 < tellsS A (nI 0) (envW W (newT (wS W 5) k (nI s) l (nI i)))), M44)) = some (!sHap th W (tellsS A (nI 0) (envW W (newT (wS W 5) k (nI s) l (nI i)))), M3) ∧ RM M3 (sHapW th W) ∧ Fr [313] M2 M3 := by
      rw [hth2, eo]
      cases th with
      | true =>
        refine ⟨M2, ?_, hR2, Fr_rf _ _⟩
        rw [if_pos (show ¬ bI true = nI 0 by decide), nmul]
        unfold sHap
        rw [if_pos rfl]
        by_cases h : o < 500
        · rw [decide_eq_true (lT (show 2 * o < 1000 by omega) (by omega)), decide_eq_false (fun q => q (lT h (by omega)))]
          rfl
        · rw [decide_eq_false (lF (show 1000 ≤ 2 * o by omega) (by omega)), decide_eq_true (lF (show 500 ≤ o by omega) (by omega))]
          rfl
      | false =>
        refine ⟨_, ?_, RM_setS (k := 1) hR2 (by omega) (by omega), Fr_up (Fr_rf _ _) (by simp)⟩
        rw [if_neg (show ¬ ¬ bI false = nI 0 by decide), mm_draw hR2, ob2_ok]
        unfold sHap
        rw [if_neg Bool.false_ne_true]
        by_cases h : drw (nxt (wS W 1)) < nI o
        · rw [decide_eq_false (fun q => q h), decide_eq_true h]; rfl
        · rw [decide_eq_true h, decide_eq_false h]; rfl
    obtain ⟨M3, d1, d2, d3⟩ := draw
    have hF3 : Fr FM M M3 := Fr_tr hF2 (Fr_wk d3 (fun c' h => by simp at h ⊢; omega))
    have hth3 : M3 312 5 = bI th := by rw [hF3 312 (by simp)]; exact hth
    rw [a1', ob1_ok, b1, ob2_ok, d1, ob2_ok]
    cases hh : sHap th W (tellsS A (nI 0) (envW W (newT (wS W 5) k (nI s) l (nI i)))) with
    | false =>
      rw [if_pos (show (!false) = true from rfl), if_neg Bool.false_ne_true]
      obtain ⟨M4, g1, g2, g3⟩ := mm_notes d2 (wf_150 hf3) hth3 (nI 1) (-1) (nI i)
      exact ⟨M4, by rw [g1, ob1_ok], g2, Fr_tr hF3 (Fr_wk g3 (fun c' h => by simp at h ⊢; omega))⟩
    | true =>
      rw [if_neg (show ¬ (!true) = true by decide), if_pos rfl, nI_clamp (by omega)]
      obtain ⟨M4, g1, g2, g3⟩ := mm_isStuck d2 (wf_150 hf3) hth3 (by rw [f4]; exact hN) k (nI s) l (nI i)
      have hG : wG (sSettle th (sHapW th W) k (nI s) l (nI i)) i = wG W i := by
        have : wG (sSettle th (sHapW th W) k (nI s) l (nI i)) = wG (sHapW th W) := (wNoteT_f).2.1
        rw [this, f1]
      obtain ⟨g, hg, eg⟩ := wf_glue hf hi
      refine ⟨up M4 313 (10 + i) (sMx (nI g - nI s) - nI 50), ?_, ?_, Fr_up (Fr_tr hF3 (Fr_wk g3 (fun c' h => by simp at h ⊢; omega))) (by simp)⟩
      · rw [g1, ob2_ok, mm_glue g2 hi, ob1_ok, hG, eg, mm_hasGlue g2 hi hg (by omega), ob1_ok]
      · unfold sPutG
        rw [hG, eg]
        exact RM_setG (x := sMx (nI g - nI s)) g2 hi
end S37
