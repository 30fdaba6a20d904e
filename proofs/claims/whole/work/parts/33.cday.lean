/-! ===== a day, the class's way ===== -/
def FrW (w l : Nat) (M M' : mM) : Prop := ∀ c, ¬ inW w c → c ≠ l + 4 → M' c = M c
theorem FrW_rf (w l : Nat) (M : mM) : FrW w l M M := fun _ _ _ => rfl
theorem FrW_tr {w l : Nat} {M M' M'' : mM} (h : FrW w l M M') (h' : FrW w l M' M'') : FrW w l M M'' := fun c a b => (h' c a b).trans (h c a b)
theorem FrW_of {w l : Nat} {S : List Nat} {M M' : mM} (h : Fr S M M') (hS : ∀ c, c ∈ S → inW w c ∨ c = l + 4) : FrW w l M M' := fun c a b => h c (fun e => (hS c e).elim a b)
theorem CL_FrW {w l : Nat} {M M' : mM} {A : LA} (hout : ∀ c', inW w c' → ¬ (l ≤ c' ∧ c' ≤ l + 4)) (hF : FrW w l M M') (h : CL l M A) : CL l M' A :=
  CL_congr h (fun c h1 h2 => hF c (fun e => hout c e ⟨h1, by omega⟩) (by omega))
/-- rows of a text: at r, five numbers a line -/
def RwF (r : Nat) (M : mM) (F : Rw) : Prop := M r 3 = nI F.1 ∧ ∀ j k, j < F.1 → k < 5 → M (r + 1) (j * 5 + k) = F.2 j k
def sW (what : Int32) : Int32 := if what = nI 0 then nI 14 else if what = nI 1 then nI 15 else if what = nI 2 then nI 26 else nI 27
def RwS (r : Nat) (M : mM) (S : Rw) : Prop := M r 3 = nI S.1 ∧ ∀ j, j < S.1 → M (r + 1) (j * 5 + 0) = S.2 j 0 ∧ M (r + 1) (j * 5 + 1) = sW (S.2 j 1) ∧ M (r + 1) (j * 5 + 2) = S.2 j 2 ∧ (S.2 j 1 = nI 2 → M (r + 1) (j * 5 + 3) = S.2 j 3)
section S33
variable {th : Bool} {z w l : Nat} {M : mM} {p : Nat → Nat} {W : Wd} {c : Nat} {A : LA}
theorem cw_come (hz : 1000 ≤ z) (hw : isW w) (hl : isL l) (hout : ∀ c', inW w c' → ¬ (l ≤ c' ∧ c' ≤ l + 4)) (hA : CL l M A) (hC : CW th w M p W) (hf : wf c W) (hc : c + 1 < 2147483648) {r : Nat} {F : Rw} (hr : ¬ inW w r ∧ ¬ inW w (r + 1) ∧ r ≠ l + 4 ∧ r + 1 ≠ l + 4) (hR : RwF r M F) (hF : okF F) {j : Nat} (hj : j < F.1) :
    ∃ M', F_World_comeUp z w l r 5 16 (nI j) th M = some M' ∧ CW th w M' p (sCome th A W (F.2 j 1) (F.2 j 2) (F.2 j 3) (F.2 j 4)) ∧ FrW w l M M' := by
  obtain ⟨h16, hrows⟩ := hF
  obtain ⟨⟨s, s1, s2, es⟩, i, hi, ei⟩ := hrows j hj
  obtain ⟨hN3, hRr⟩ := hR
  have h20 := wf_20 hf
  have hP := CW_P hC
  have g : ∀ k, k < 5 → F_Rows_get r 5 16 (nI j) (nI k) M = some (F.2 j k) := fun k hk => by
    rw [get_ok hN3 h16 (by omega) (by omega) hj hk, hRr j k hj hk]
  have hout4 : ∀ c', inW w c' → c' ≠ l + 4 := fun c' h e => hout c' h (by omega)
  unfold F_World_comeUp sCome
  rw [g 4 (by omega), ob1_ok, ei, es, cw_hasRoom hC hf (by omega) hi, ob1_ok, ob1_ok, ob1_ok, nI_clamp (by omega)]
  by_cases hroom : (wAt W (nI i)).isSome = true ∨ wN W = 20
  · rw [if_pos hroom, if_pos]
    · exact ⟨M, rfl, hC, FrW_rf _ _ _⟩
    · rcases hroom with h | h
      · cases e : wAt W (nI i) with
        | none => rw [e] at h; cases h
        | some t => rfl
      · rw [decide_eq_false (by omega)]
        simp
  · rw [if_neg hroom]
    have hfree : wAt W (nI i) = none := by
      cases e : wAt W (nI i) with
      | none => rfl
      | some t => exact absurd (Or.inl (by rw [e]; rfl)) hroom
    have hN : wN W < 20 := by
      apply Classical.byContradiction
      intro h
      exact hroom (Or.inr (by omega))
    rw [hfree, decide_eq_true hN, if_neg (by decide), g 1 (by omega), ob1_ok, g 2 (by omega), ob1_ok, g 3 (by omega), ob1_ok, es]
    obtain ⟨⟨p1, p2⟩, p3, p4⟩ := hP (wN W) hN
    obtain ⟨M1, a1, a2, a3, a4⟩ := cw_newcomer hw hC hN (F.2 j 1) (nI s) (F.2 j 3) (nI i)
    have hct : inW w (p (wN W)) := ⟨by omega, by omega⟩
    have hF1 : FrW w l M M1 := FrW_of a4 (fun c' h => by simp at h; left; rw [h]; exact hct)
    obtain ⟨M2, b1, b2⟩ := cw_tells (T := newT (wS W 5) (F.2 j 1) (nI s) (F.2 j 3) (nI i)) hz hl hout hct hf (by omega) hi rfl (CL_FrW hout hF1 hA) a2 a3 (nI 0)
    have hne2 : ∀ c', c' ≠ l + 4 → M2 c' = M1 c' := fun c' h => b2 c' (by simpa using h)
    have hC2 : CW th w M2 p W := CW_congr a2 (fun c' h => hne2 c' (hout4 c' h))
    have hF2 : FrW w l M M2 := FrW_tr hF1 (FrW_of b2 (fun c' h => by simp at h; right; exact h))
    obtain ⟨M3, d1, d2, d3⟩ := cw_happens hC2 (tellsS A (nI 0) (envW W (newT (wS W 5) (F.2 j 1) (nI s) (F.2 j 3) (nI i))))
    have hF3 : FrW w l M M3 := FrW_tr hF2 (FrW_of d3 (fun c' h => by simp at h; left; rw [h]; exact ⟨by omega, by omega⟩))
    have eg : gTh (p (wN W)) = some () := if_pos (isTh_of hw p1 p2)
    rw [a1, ob2_ok, eg, ob1_ok, b1, ob2_ok, d1, ob2_ok, ob2_ok]
    obtain ⟨f1, f2, f3, f4, f5⟩ := sHapW_f (th := th) (W := W)
    have hf3 := wf_hap (th := th) hf
    cases hh : sHap th W (tellsS A (nI 0) (envW W (newT (wS W 5) (F.2 j 1) (nI s) (F.2 j 3) (nI i)))) with
    | true =>
      rw [if_pos rfl, if_pos rfl]
      have hT3 : TC M3 (p (wN (sHapW th W))) (newT (wS (sHapW th W) 5) (F.2 j 1) (nI s) (F.2 j 3) (nI i)) := by
        intro k hk
        rw [f4, f5 5 (by omega), d3 _ (by simp; omega), hne2 _ (hout4 _ hct)]
        exact a3 k hk
      obtain ⟨M4, g1, g2, g3⟩ := cw_settle (k := F.2 j 1) (l := F.2 j 3) d2 hf3 hc (by rw [f4]; exact hN) hi ⟨s1, s2⟩ (by rw [wAt_cgS f3 f4]; exact hfree) hT3
      have g1' : F_World_settle w (p (wN W)) M3 = some (wS (sHapW th W) 5, M4) := by rw [← f4]; exact g1
      have e2 : M4 (p (wN W)) 2 = nI s := by
        rw [g3 _ (by simp; omega)]
        have := hT3 2 (by omega)
        rw [f4] at this
        exact this
      refine ⟨_, ?_, CW_setG g2 (i := i) (x := sMx (wG (sSettle th (sHapW th W) (F.2 j 1) (nI s) (F.2 j 3) (nI i)) i - nI s)), ?_⟩
      · rw [g1', ob2_ok, ra_ok hi (by omega), ob1_ok, CW_G g2 hi, e2]
        show ob1 (some (sMx _)) _ = _
        rw [ob1_ok, wa_ok hi (by omega), ob1_ok]
      · refine FrW_tr hF3 (FrW_tr (FrW_of g3 (fun c' h => ?_)) (FrW_of (Fr_up (S := [w + 1]) (Fr_rf _ _) (by simp)) (fun c' h => ?_)))
        · simp at h
          left
          unfold inW
          omega
        · simp at h
          left
          unfold inW
          omega
    | false =>
      rw [if_neg Bool.false_ne_true, if_neg Bool.false_ne_true]
      obtain ⟨M4, g1, g2, g3⟩ := cw_write d2 (wf_150 hf3) (nI 1) (-1) (nI i)
      refine ⟨M4, by rw [g1, ob1_ok], g2, FrW_tr hF3 (FrW_of g3 (fun c' h => ?_))⟩
      simp at h
      left
      unfold inW
      omega
theorem cw_freed (hz : 100 ≤ z) (hw : isW w) (hC : CW th w M p W) (hf : wf c W) {t : Nat} (ht : t < wN W) (what : Int32) :
    ∃ M', (ob1 (some (up M w 10 ((M w 10) + (nI 1)))) fun M23 => ob1 (F_World_write w what (M23 (p t) 0) (M23 (p t) 4) M23) fun M25 => ob1 (F_World_remove z w (nI t) M25) fun M27 => some M27) = some M' ∧ CW th w M' (pDel p (wN W) t) (sFreed th W what t) ∧ FrW w l M M' := by
  have hP := CW_P hC
  have h20 := CW_20 hC
  obtain ⟨⟨p1, p2⟩, p3, p4⟩ := hP t (by omega)
  have h10 : M w 10 = wS W 6 := CW_S hC (k := 6) (by omega) (by omega)
  have hC1 : CW th w (up M w 10 (wS W 6 + nI 1)) p (wSetS W 6 (wS W 6 + nI 1)) := CW_setS (k := 6) hC (by omega) (by omega)
  have hf1 : wf c (wSetS W 6 (wS W 6 + nI 1)) := wf_setS hf (by omega)
  obtain ⟨M2, a1, a2, a3⟩ := cw_write hC1 (wf_150 hf1) what (wT W t 0) (wT W t 4)
  have hf2 := wf_note (th := th) hf1 what (wT W t 0) (wT W t 4)
  have hN : wN (wNoteT th (wSetS W 6 (wS W 6 + nI 1)) what (wT W t 0) (wT W t 4)) = wN W := (wNoteT_f).2.2.2.2
  obtain ⟨M3, b1, b2, b3⟩ := cw_remove hz hw a2 hf2 (t := t) (by rw [hN]; exact ht)
  rw [hN] at b2
  refine ⟨M3, ?_, b2, ?_⟩
  · have e0 : (up M w 10 (wS W 6 + nI 1)) (p t) 0 = wT W t 0 := by
      rw [up_neC _ _ _ _ (by omega)]; exact CW_T hC ht (by omega)
    have e4 : (up M w 10 (wS W 6 + nI 1)) (p t) 4 = wT W t 4 := by
      rw [up_neC _ _ _ _ (by omega)]; exact CW_T hC ht (by omega)
    rw [h10, ob1_ok, e0, e4, a1, ob1_ok, b1, ob1_ok]
  · refine FrW_tr (FrW_of (Fr_up (S := [w]) (Fr_rf _ _) (by simp)) (fun c' h => ?_)) (FrW_tr (FrW_of a3 (fun c' h => ?_)) (FrW_of b3 (fun c' h => ?_)))
    all_goals
      simp at h
      left
      unfold inW
      omega
theorem cw_str (hz : 1000 ≤ z) (hw : isW w) (hl : isL l) (hout : ∀ c', inW w c' → ¬ (l ≤ c' ∧ c' ≤ l + 4)) (hA : CL l M A) (hC : CW th w M p W) (hf : wf c W) (hc : c < 2147483648) {t : Nat} (ht : t < wN W) :
    ∃ M' p', F_World_struggle z w l (nI t) th M = some (nI (if (sStr th A W t).1 = true then t else t + 1), M') ∧ CW th w M' p' (sStr th A W t).2 ∧ FrW w l M M' := by
  have hP := CW_P hC
  have h20 := CW_20 hC
  obtain ⟨⟨p1, p2⟩, p3, p4⟩ := hP t (by omega)
  have hct : inW w (p t) := ⟨by omega, by omega⟩
  have hout4 : ∀ c', inW w c' → c' ≠ l + 4 := fun c' h e => hout c' h (by omega)
  obtain ⟨i, hi, hat⟩ := wf_at hf ht
  obtain ⟨M2, b1, b2⟩ := cw_tells (T := wT W t) hz hl hout hct hf hc hi hat hA hC (fun k hk => CW_T hC ht hk) (nI 1)
  have hne2 : ∀ c', c' ≠ l + 4 → M2 c' = M c' := fun c' h => b2 c' (by simpa using h)
  have hC2 : CW th w M2 p W := CW_congr hC (fun c' h => hne2 c' (hout4 c' h))
  have hF2 : FrW w l M M2 := FrW_of b2 (fun c' h => by simp at h; right; exact h)
  unfold F_World_struggle
  rw [rT_ok hw hP (by omega), ob1_ok, b1, ob2_ok]
  by_cases h0 : nI 0 < tellsS A (nI 1) (envW W (wT W t))
  · have nn0 : ¬ ¬ nI 0 < tellsS A (nI 1) (envW W (wT W t)) := fun h => h h0
    rw [if_neg nn0]
    obtain ⟨M3, d1, d2, d3⟩ := cw_happens hC2 (tellsS A (nI 1) (envW W (wT W t)))
    have hF3 : FrW w l M M3 := FrW_tr hF2 (FrW_of d3 (fun c' h => by simp at h; left; rw [h]; exact ⟨by omega, by omega⟩))
    obtain ⟨f1, f2, f3, f4, f5⟩ := sHapW_f (th := th) (W := W)
    have hf3 := wf_hap (th := th) hf
    have ht3 : t < wN (sHapW th W) := by rw [f4]; exact ht
    rw [d1, ob2_ok, ob2_ok, ob2_ok]
    cases hh : sHap th W (tellsS A (nI 1) (envW W (wT W t))) with
    | false =>
      have hs : sStr th A W t = (false, sHapW th W) := by
        unfold sStr
        rw [if_neg nn0, hh, if_neg Bool.false_ne_true]
      rw [hs, if_pos (show (!false) = true from rfl), nadd]
      exact ⟨M3, p, rfl, d2, hF3⟩
    | true =>
      rw [if_neg (show ¬ (!true) = true by decide), ob1_ok]
      have h6 : M3 (p t) 6 = wT W t 6 := by rw [← f3]; exact CW_T d2 ht3 (by omega)
      rw [h6]
      by_cases hl1 : nI 1 < wT W t 6
      · have hs : sStr th A W t = (false, sLeg th (sHapW th W) t) := by
          unfold sStr
          rw [if_neg nn0, hh, if_pos rfl, if_neg (show ¬ ¬ nI 1 < wT W t 6 from fun h => h hl1)]
        rw [hs, if_neg (show ¬ decide (¬ nI 1 < wT W t 6) = true from fun h => absurd hl1 (of_decide_eq_true h)), nadd t 1]
        have hC4 := CW_setT d2 ht3 (k := 6) (x := wT W t 6 - nI 1) (by omega) (by omega)
        have e4 : (up M3 (p t) 6 (wT W t 6 - nI 1)) (p t) 4 = nI i := by
          rw [up_neJ _ _ _ (by omega)]
          have := CW_T d2 ht3 (show 4 < 7 by omega)
          rw [this, f3]
          exact hat
        have eL : (up M3 (p t) 6 (wT W t 6 - nI 1)) (w + 2) i = wL W i := by
          have := CW_L hC4 hi
          rw [this]
          show wL (sHapW th W) i = _
          rw [f2]
        have hC5 := CW_setL hC4 (i := i) (x := wL W i + nI 1)
        have e3 : (up (up M3 (p t) 6 (wT W t 6 - nI 1)) (w + 2) i (wL W i + nI 1)) (p t) 3 = wT W t 3 := by
          rw [up_neC _ _ _ _ (by omega), up_neJ _ _ _ (by omega)]
          have := CW_T d2 ht3 (show 3 < 7 by omega)
          rw [this, f3]
        have hC6 := CW_setT hC5 (t := t) (k := 3) (x := sMx (wT W t 3 - nI 1)) ht3 (by omega) (by omega)
        have e0' : (up (up (up M3 (p t) 6 (wT W t 6 - nI 1)) (w + 2) i (wL W i + nI 1)) (p t) 3 (sMx (wT W t 3 - nI 1))) (p t) 0 = wT W t 0 := by
          rw [up_neJ _ _ _ (by omega), up_neC _ _ _ _ (by omega), up_neJ _ _ _ (by omega)]
          have := CW_T d2 ht3 (show 0 < 7 by omega)
          rw [this, f3]
        have e4' : (up (up (up M3 (p t) 6 (wT W t 6 - nI 1)) (w + 2) i (wL W i + nI 1)) (p t) 3 (sMx (wT W t 3 - nI 1))) (p t) 4 = nI i := by
          rw [up_neJ _ _ _ (by omega), up_neC _ _ _ _ (by omega)]
          exact e4
        have hf6 : wb (wSetT (wSetL (wSetT (sHapW th W) t 6 (wT W t 6 - nI 1)) i (wL W i + nI 1)) t 3 (sMx (wT W t 3 - nI 1))) ≤ 150 := (show wb (sHapW th W) ≤ 150 from wf_150 hf3)
        obtain ⟨M7, g1, g2, g3⟩ := cw_write hC6 hf6 (nI 2) (wT W t 0) (nI i)
        refine ⟨M7, p, ?_, ?_, FrW_tr hF3 (FrW_tr (FrW_of (S := [p t, w + 2]) (Fr_up (Fr_up (Fr_up (Fr_rf _ _) (by simp)) (by simp)) (by simp)) (fun c' h => ?_)) (FrW_of g3 (fun c' h => ?_)))⟩
        · rw [ob1_ok, e4, ra_ok hi (by omega), ob1_ok, eL, wa_ok hi (by omega), ob1_ok, e3]
          show ob1 (some (sMx _)) _ = _
          rw [ob1_ok, ob1_ok, e0', e4', g1, ob1_ok]
          rfl
        · have hs : sLeg th (sHapW th W) t = wNoteT th (wSetT (wSetL (wSetT (sHapW th W) t 6 (wT W t 6 - nI 1)) i (wL W i + nI 1)) t 3 (sMx (wT W t 3 - nI 1))) (nI 2) (wT W t 0) (nI i) := by
            unfold sLeg
            simp only [f3, f2, hat, nI_clamp (show i < 2 ^ 31 by omega)]
          rw [hs]
          exact g2
        · simp at h
          left
          unfold inW at hct ⊢
          omega
        · simp at h
          left
          unfold inW
          omega
      · have hs : sStr th A W t = (true, sFreed th (sHapW th W) (nI 3) t) := by
          unfold sStr
          rw [if_neg nn0, hh, if_pos rfl, if_pos hl1]
        rw [hs, if_pos (decide_eq_true hl1)]
        obtain ⟨M4, g1, g2, g3⟩ := cw_freed (z := z) (l := l) (by omega) hw d2 hf3 ht3 (nI 3)
        obtain ⟨M23, q1, q⟩ := ob1_some g1
        obtain ⟨M25, q2, q⟩ := ob1_some q
        obtain ⟨M27, q3, q⟩ := ob1_some q
        cases q
        cases q1
        refine ⟨M4, _, ?_, g2, FrW_tr hF3 g3⟩
        rw [ob1_ok, q2, ob1_ok, q3, ob1_ok]
        rfl
  · have hs : sStr th A W t = (false, W) := by
      unfold sStr
      rw [if_pos h0]
    rw [hs, if_pos h0, ob2_ok, if_pos rfl, nadd]
    exact ⟨M2, p, rfl, hC2, hF2⟩
end S33
