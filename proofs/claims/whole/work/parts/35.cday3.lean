/-! ===== a day, the class's way: weather, growing old, the whole ===== -/
section S35
variable {th : Bool} {z w l : Nat} {M : mM} {p : Nat → Nat} {W : Wd} {c : Nat} {A : LA}
/-- the row of glue as a whole -/
theorem CW_allG (hC : CW th w M p W) {g : Nat → Int32} {M' : mM} (hF : Fr [w + 1] M M') (hG : ∀ i, i < 60 → M' (w + 1) i = g i) : CW th w M' p (mkW (wS W) g (wL W) (wT W) (wN W) (wB W) (wb W)) := by
  have hne : ∀ c', c' ≠ w + 1 → M' c' = M c' := fun c' h => hF c' (by simpa using h)
  have hP := CW_P hC
  have h20 := CW_20 hC
  refine ⟨⟨fun t ht => by rw [hne (w + 4) (by omega)]; exact hP t ht, h20⟩, fun q h1 h2 => by rw [hne w (by omega)]; exact CW_S hC h1 h2, by rw [hne w (by omega)]; exact CW_N (W := W) (p := p) hC, hG, fun j hj => by rw [hne (w + 2) (by omega)]; exact CW_L hC hj, fun j hj => by rw [hne (w + 3) (by omega)]; exact CW_A hC hj, fun t q ht hq => ?_, by rw [hne (w + 5) (by omega)]; exact CW_b hC, fun hth => ?_⟩
  · have ht' : t < wN W := ht
    have h10 := (hP t (by omega)).1
    rw [hne (p t) (by omega)]
    exact CW_T hC ht hq
  · subst hth
    rw [hne (w + 5) (by omega), hne (w + 6) (by omega)]
    exact CW_B (W := W) (p := p) hC
theorem l_dry (a : Int32) : ∀ (m k n : Nat) (M : mM), k + m = 60 → m < n → L_World_weather_1 z w a n (nI k) M = some (fil M (w + 1) k 60 (fun j => sMx (M (w + 1) j - a))) := by
  intro m
  induction m with
  | zero =>
    intro k n M hk hn
    obtain ⟨n, rfl⟩ : ∃ k, n = k + 1 := ⟨n - 1, by omega⟩
    rw [L_World_weather_1, if_neg (lF (by omega) (by omega)), fil_end (by omega)]
  | succ m ih =>
    intro k n M hk hn
    obtain ⟨n, rfl⟩ : ∃ k, n = k + 1 := ⟨n - 1, by omega⟩
    rw [L_World_weather_1, if_pos (lT (by omega) (by omega)), ra_ok (by omega) (by omega), ob1_ok, wa_ok (by omega) (by omega), ob1_ok, nadd, ih (k + 1) n _ (by omega) (by omega)]
    refine congrArg some (fil_step (g := fun j => sMx (M (w + 1) j - a)) (by omega) (fun j h1 h2 => ?_))
    show sMx (up M (w + 1) k _ (w + 1) j - a) = _
    rw [up_neJ _ _ _ (by omega)]
theorem cw_weather (hz : 1000 ≤ z) (hC : CW th w M p W) {S : Rw} (hS : okS S) {j : Nat} (hj : j < S.1) (v : Int32) (hv : S.2 j 1 = nI 2 → v = S.2 j 3) : ∃ M', F_World_weather z w (sW (S.2 j 1)) (S.2 j 2) v M = some M' ∧ CW th w M' p (sWth W (S.2 j 1) (S.2 j 2) (S.2 j 3)) ∧ FrW w l M M' := by
  unfold F_World_weather sWth sW
  rcases hS.2 j hj with h | h | ⟨h, ⟨i, hi, e⟩, g, hg, e2⟩ | ⟨h, g, hg1, hg, e⟩
  · rw [if_pos h, if_pos h, if_pos rfl, ob1_ok]
    exact ⟨_, rfl, CW_setS (k := 3) hC (by omega) (by omega), FrW_of (Fr_up (S := [w]) (Fr_rf _ _) (by simp)) (fun c' h => by simp at h; left; unfold inW; omega)⟩
  · rw [h, if_neg (show ¬ nI 1 = nI 0 by decide), if_neg (show ¬ nI 1 = nI 0 by decide), if_pos rfl, if_neg (show ¬ nI 15 = nI 14 by decide), if_pos rfl, if_pos rfl, ob1_ok]
    exact ⟨_, rfl, CW_setS (k := 4) hC (by omega) (by omega), FrW_of (Fr_up (S := [w]) (Fr_rf _ _) (by simp)) (fun c' h => by simp at h; left; unfold inW; omega)⟩
  · rw [hv h, h, if_neg (show ¬ nI 2 = nI 0 by decide), if_neg (show ¬ nI 2 = nI 0 by decide), if_neg (show ¬ nI 2 = nI 1 by decide), if_neg (show ¬ nI 2 = nI 1 by decide), if_pos rfl, if_pos rfl, if_neg (show ¬ nI 26 = nI 14 by decide), if_neg (show ¬ nI 26 = nI 15 by decide), e, if_pos ⟨⟨rfl, (inch_k hi).1⟩, (inch_k hi).2⟩, wa_ok hi (by omega), ob1_ok, nI_clamp (by omega)]
    exact ⟨_, rfl, CW_setG hC, FrW_of (Fr_up (S := [w + 1]) (Fr_rf _ _) (by simp)) (fun c' h => by simp at h; left; unfold inW; omega)⟩
  · rw [h, if_neg (show ¬ nI 3 = nI 0 by decide), if_neg (show ¬ nI 3 = nI 0 by decide), if_neg (show ¬ nI 3 = nI 1 by decide), if_neg (show ¬ nI 3 = nI 1 by decide), if_neg (show ¬ nI 3 = nI 2 by decide), if_neg (show ¬ nI 3 = nI 2 by decide), if_neg (show ¬ nI 27 = nI 14 by decide), if_neg (show ¬ nI 27 = nI 15 by decide), if_neg (show ¬ ((nI 27 = nI 26 ∧ ¬ S.2 j 2 < nI 0) ∧ S.2 j 2 < nI 60) from fun q => absurd q.1.1 (by decide)), if_pos rfl, l_dry (S.2 j 2) 60 0 z M (by omega) (by omega), ob1_ok]
    refine ⟨_, rfl, CW_allG hC (Fr_upR (Fr_rf _ _) (by simp)) (fun i hi => ?_), FrW_of (Fr_upR (S := [w + 1]) (Fr_rf _ _) (by simp)) (fun c' h => by simp at h; left; unfold inW; omega)⟩
    rw [fil_at, if_pos ⟨Nat.zero_le _, hi⟩, CW_G hC hi]
theorem l_sky (hz : 1000 ≤ z) {t0 : Nat} (hout : ∀ c', inW w c' → ¬ (t0 ≤ c' ∧ c' ≤ t0 + 21)) {S : Rw} (hS : okS S) : ∀ (m j n : Nat) (M : mM) (W : Wd), j + m = S.1 → m < n → CW th w M p W → RwS (t0 + 8) M S →
    ∃ M', L_World_liveDay_1 z w t0 n (nI j) M = some M' ∧ CW th w M' p (sSky S m j W) ∧ FrW w (t0 + 1) M M' := by
  intro m
  induction m with
  | zero =>
    intro j n M W hj hn hC hR
    obtain ⟨n, rfl⟩ : ∃ k, n = k + 1 := ⟨n - 1, by omega⟩
    have h16 := hS.1
    refine ⟨M, ?_, hC, FrW_rf _ _ _⟩
    rw [L_World_liveDay_1, hR.1, if_neg (lF (by omega) (by omega))]
  | succ m ih =>
    intro j n M W hj hn hC hR
    obtain ⟨n, rfl⟩ : ∃ k, n = k + 1 := ⟨n - 1, by omega⟩
    have h16 := hS.1
    have h12 : M w 12 = wS W 0 := CW_S hC (k := 0) (by omega) (by omega)
    obtain ⟨r0, r1, r2, r3⟩ := hR.2 j (by omega)
    have again : ∀ M1 W1, FrW w (t0 + 1) M M1 → CW th w M1 p W1 → ∃ M', L_World_liveDay_1 z w t0 n (nI j + nI 1) M1 = some M' ∧ CW th w M' p (sSky S m (j + 1) W1) ∧ FrW w (t0 + 1) M M' := by
      intro M1 W1 q1 q2
      have e1 : M1 (t0 + 8) = M (t0 + 8) := q1 _ (fun e => hout _ e (by omega)) (by omega)
      have e2 : M1 (t0 + 8 + 1) = M (t0 + 8 + 1) := q1 _ (fun e => hout _ e (by omega)) (by omega)
      obtain ⟨M', g1, g2, g3⟩ := ih (j + 1) n M1 W1 (by omega) (by omega) q2 (by unfold RwS; rw [e1, e2]; exact hR)
      exact ⟨M', by rw [nadd]; exact g1, g2, FrW_tr q1 g3⟩
    rw [L_World_liveDay_1, hR.1, if_pos (lT (by omega) (by omega)), get_ok hR.1 h16 (by omega) (by omega) (by omega) (by omega), ob1_ok, ob1_ok, r0, h12, sSky]
    by_cases h : S.2 j 0 = wS W 0
    · obtain ⟨M1, a1, a2, a3⟩ := cw_weather (l := t0 + 1) hz hC hS (j := j) (by omega) (M (t0 + 8 + 1) (j * 5 + 3)) r3
      rw [if_pos (decide_eq_true h), get_ok hR.1 h16 (by omega) (by omega) (by omega) (by omega), ob1_ok, get_ok hR.1 h16 (by omega) (by omega) (by omega) (by omega), ob1_ok, get_ok hR.1 h16 (by omega) (by omega) (by omega) (by omega), ob1_ok, r1, r2, a1, ob1_ok, ob1_ok, if_pos h]
      exact again M1 _ a3 a2
    · rw [if_neg (show ¬ decide (S.2 j 0 = wS W 0) = true from fun q => h (of_decide_eq_true q)), ob1_ok, if_neg h]
      exact again M W (FrW_rf _ _ _) hC
/-- ages, one after another -/
def sAge (W : Wd) (k : Nat) : Wd := mkW (wS W) (wG W) (wL W) (fun t => if t < k then upd (wT W t) 5 (F_Math_min (nI 999) (wT W t 5 + nI 1)) else wT W t) (wN W) (wB W) (wb W)
theorem l_age (hw : isW w) : ∀ (m k n : Nat) (M : mM), k + m = wN W → m < n → CW th w M p (sAge W k) → ∃ M', L_World_growOld_1 z w n (nI k) M = some M' ∧ CW th w M' p (sAge W (wN W)) ∧ FrW w l M M' := by
  intro m
  induction m with
  | zero =>
    intro k n M hk hn hC
    obtain ⟨n, rfl⟩ : ∃ k, n = k + 1 := ⟨n - 1, by omega⟩
    have h20 : wN W ≤ 20 := (show wN (sAge W k) ≤ 20 from CW_20 hC)
    have hN : M w 5 = nI (wN W) := CW_N (W := sAge W k) hC
    refine ⟨M, ?_, by have e : k = wN W := hk; rw [← e]; exact hC, FrW_rf _ _ _⟩
    rw [L_World_growOld_1, hN, if_neg (lF (by omega) (by omega))]
  | succ m ih =>
    intro k n M hk hn hC
    obtain ⟨n, rfl⟩ : ∃ k, n = k + 1 := ⟨n - 1, by omega⟩
    have h20 : wN W ≤ 20 := (show wN (sAge W k) ≤ 20 from CW_20 hC)
    have hN : M w 5 = nI (wN W) := CW_N (W := sAge W k) hC
    have hP := CW_P hC
    have hk' : k < wN (sAge W k) := show k < wN W by omega
    obtain ⟨⟨p1, p2⟩, p3, p4⟩ := hP k (by omega)
    have hTk : wT (sAge W k) k = wT W k := if_neg (by omega)
    have e5 : M (p k) 5 = wT W k 5 := by rw [CW_T hC hk' (by omega), hTk]
    have hC2 := CW_setT hC hk' (k := 5) (x := F_Math_min (nI 999) (wT W k 5 + nI 1)) (by omega) (by omega)
    have hs : wSetT (sAge W k) k 5 (F_Math_min (nI 999) (wT W k 5 + nI 1)) = sAge W (k + 1) := by
      unfold wSetT sAge mkW
      congr 4
      funext t
      show (if t = k then upd (if t < k then _ else wT W t) 5 _ else if t < k then _ else wT W t) = if t < k + 1 then _ else wT W t
      by_cases h : t = k
      · subst h
        rw [if_pos rfl, if_neg (by omega), if_pos (by omega)]
      · rw [if_neg h]
        by_cases h2 : t < k
        · rw [if_pos h2, if_pos (by omega)]
        · rw [if_neg h2, if_neg (by omega)]
    rw [hs] at hC2
    obtain ⟨M', g1, g2, g3⟩ := ih (k + 1) n _ (by omega) (by omega) hC2
    refine ⟨M', ?_, g2, FrW_tr (FrW_of (Fr_up (S := [p k]) (Fr_rf _ _) (by simp)) (fun c' h => by simp at h; left; unfold inW; omega)) g3⟩
    rw [L_World_growOld_1, hN, if_pos (lT (by omega) (by omega)), rT_ok hw hP (by omega), ob1_ok, ob1_ok, e5, ob1_ok, ob1_ok, nadd]
    exact g1
def sDryG (W : Wd) : Nat → Int32 := fun i => if nI 4 < wS W 4 ∧ wAt W (nI i) = none then sMx (wG W i - nI 1) else wG W i
theorem l_dryG (hf : wf c W) (hc : c < 2147483648) : ∀ (m k n : Nat) (M : mM), k + m = 60 → m < n → CW th w M p (mkW (wS W) (fun i => if i < k then sDryG W i else wG W i) (wL W) (wT W) (wN W) (wB W) (wb W)) → ∃ M', L_World_growOld_2 z w n (nI k) M = some M' ∧ CW th w M' p (mkW (wS W) (sDryG W) (wL W) (wT W) (wN W) (wB W) (wb W)) ∧ FrW w l M M' := by
  intro m
  induction m with
  | zero =>
    intro k n M hk hn hC
    obtain ⟨n, rfl⟩ : ∃ k, n = k + 1 := ⟨n - 1, by omega⟩
    refine ⟨M, ?_, CW_allG hC (Fr_rf _ _) (fun i hi => ?_), FrW_rf _ _ _⟩
    · rw [L_World_growOld_2, if_neg (fun h => lF (by omega) (by omega) h.1)]
    · have := CW_G hC hi
      rw [this]
      exact if_pos (by omega)
  | succ m ih =>
    intro k n M hk hn hC
    obtain ⟨n, rfl⟩ : ∃ k, n = k + 1 := ⟨n - 1, by omega⟩
    have h8 : M w 8 = wS W 4 := CW_S hC (k := 4) (by omega) (by omega)
    have hG : M (w + 1) k = wG W k := by
      have := CW_G hC (i := k) (by omega)
      rw [this]
      exact if_neg (by omega)
    rw [L_World_growOld_2, h8]
    by_cases h4 : nI 4 < wS W 4
    · have hA : (wAt W (nI k)).isSome = (wAt W (nI k)).isSome := rfl
      have hT : F_World_isTaken w (nI k) M = some (wAt W (nI k)).isSome := by
        unfold F_World_isTaken
        rw [if_pos (inch_k (by omega)), ra_ok (by omega) (by omega), ob1_ok, ob1_ok, CW_A hC (by omega)]
        have hn : numAt (mkW (wS W) (fun i => if i < k then sDryG W i else wG W i) (wL W) (wT W) (wN W) (wB W) (wb W)) k = numAt W k := numAt_cg (W := W) (fun _ _ => ⟨rfl, rfl⟩) rfl k
        rw [hn]
        unfold numAt
        cases h : wAt W (nI k) with
        | none => rfl
        | some t =>
          obtain ⟨h1, -⟩ := wAt_some h
          obtain ⟨j, hj, e⟩ := wf_no hf hc h1
          simp only [e, nnon hj, not_false_eq_true, decide_true, Option.isSome_some]
      rw [if_pos ⟨lT (by omega) (by omega), h4⟩, hT, ob1_ok, ob1_ok, ob1_ok]
      cases hs : wAt W (nI k) with
      | none =>
        have hC2 : CW th w (up M (w + 1) k (sMx (wG W k - nI 1))) p (mkW (wS W) (fun i => if i < k + 1 then sDryG W i else wG W i) (wL W) (wT W) (wN W) (wB W) (wb W)) := by
          refine CW_allG hC (Fr_up (Fr_rf _ _) (by simp)) (fun i hi => ?_)
          by_cases h : i = k
          · subst h
            rw [up_same, if_pos (by omega)]
            unfold sDryG
            rw [if_pos ⟨h4, hs⟩]
          · rw [up_neJ _ _ _ h, CW_G hC hi]
            show (if i < k then sDryG W i else wG W i) = _
            by_cases h2 : i < k
            · rw [if_pos h2, if_pos (by omega)]
            · rw [if_neg h2, if_neg (by omega)]
        obtain ⟨M', g1, g2, g3⟩ := ih (k + 1) n _ (by omega) (by omega) hC2
        refine ⟨M', ?_, g2, FrW_tr (FrW_of (Fr_up (S := [w + 1]) (Fr_rf _ _) (by simp)) (fun c' h => by simp at h; left; unfold inW; omega)) g3⟩
        show ob1 (ob1 (ra M (w + 1) 60 (nI k)) _) _ = _
        rw [ra_ok (by omega) (by omega), ob1_ok, hG]
        show ob1 (ob1 (some (sMx (wG W k - nI 1))) _) _ = _
        rw [ob1_ok, wa_ok (by omega) (by omega), ob1_ok, ob1_ok, nadd]
        exact g1
      | some t =>
        have hC2 : CW th w M p (mkW (wS W) (fun i => if i < k + 1 then sDryG W i else wG W i) (wL W) (wT W) (wN W) (wB W) (wb W)) := by
          refine CW_allG hC (Fr_rf _ _) (fun i hi => ?_)
          rw [CW_G hC hi]
          show (if i < k then sDryG W i else wG W i) = _
          by_cases h : i = k
          · subst h
            rw [if_neg (by omega), if_pos (by omega)]
            unfold sDryG
            rw [if_neg (fun q => by rw [hs] at q; cases q.2)]
          · by_cases h2 : i < k
            · rw [if_pos h2, if_pos (by omega)]
            · rw [if_neg h2, if_neg (by omega)]
        obtain ⟨M', g1, g2, g3⟩ := ih (k + 1) n _ (by omega) (by omega) hC2
        refine ⟨M', ?_, g2, g3⟩
        show ob1 (some M) _ = _
        rw [ob1_ok, nadd]
        exact g1
    · refine ⟨M, ?_, CW_allG hC (Fr_rf _ _) (fun i hi => ?_), FrW_rf _ _ _⟩
      · rw [if_neg (fun h => h4 h.2)]
      · have e : ∀ i, sDryG W i = wG W i := fun i => if_neg (fun q => h4 q.1)
        rw [CW_G hC hi]
        show (if i < k then sDryG W i else wG W i) = _
        rw [e, ite_self]
theorem cw_grow (hz : 1000 ≤ z) (hw : isW w) (hC : CW th w M p W) (hf : wf c W) (hc : c < 2147483648) : ∃ M', F_World_growOld z w M = some M' ∧ CW th w M' p (sGrow W) ∧ FrW w l M M' := by
  have h20 := CW_20 hC
  have h0 : sAge W 0 = W := rfl
  obtain ⟨M1, a1, a2, a3⟩ := l_age (z := z) (l := l) hw (W := W) (wN W) 0 z M (by omega) (by omega) hC
  have hfA : wf c (sAge W (wN W)) := by
    refine wf_cg hf rfl (show wb W ≤ 150 from wf_150 hf) (fun t ht => ?_) (fun t ht => ?_) rfl (fun i hi => wf_glue hf hi) (Nat.le_refl _)
    · have e : wT (sAge W (wN W)) t = upd (wT W t) 5 (F_Math_min (nI 999) (wT W t 5 + nI 1)) := if_pos ht
      rw [e, upd_ne _ _ (by omega), upd_ne _ _ (by omega)]
      exact ⟨rfl, rfl⟩
    · have e : wT (sAge W (wN W)) t = upd (wT W t) 5 (F_Math_min (nI 999) (wT W t 5 + nI 1)) := if_pos ht
      rw [e, upd_ne _ _ (by omega)]
      exact wf_size hf ht
  obtain ⟨M2, b1, b2, b3⟩ := l_dryG (z := z) (l := l) hfA hc 60 0 z M1 (by omega) (by omega) a2
  have h12 : M2 w 12 = wS W 0 := CW_S b2 (k := 0) (by omega) (by omega)
  have hC3 := CW_setS (k := 0) (x := wS W 0 + nI 1) b2 (by omega) (by omega)
  have hsame : ∀ i, wAt (sAge W (wN W)) (nI i) = wAt W (nI i) := fun i => wAt_cg (W := W) (W' := sAge W (wN W)) (fun t ht => by
    have e : wT (sAge W (wN W)) t = upd (wT W t) 5 (F_Math_min (nI 999) (wT W t 5 + nI 1)) := if_pos ht
    rw [e, upd_ne _ _ (by omega)]) rfl _
  refine ⟨up M2 w 12 (wS W 0 + nI 1), ?_, ?_, FrW_tr a3 (FrW_tr b3 (FrW_of (Fr_up (S := [w]) (Fr_rf _ _) (by simp)) (fun c' h => by simp at h; left; unfold inW; omega)))⟩
  · unfold F_World_growOld
    rw [a1, ob1_ok, b1, ob1_ok, h12, ob1_ok]
  · obtain ⟨q1, q2, q3, q4, q5, q6, q7, q8, q9⟩ := hC3
    refine ⟨q1, q2, q3, fun i hi => ?_, q5, fun i hi => ?_, fun t k ht hk => ?_, q8, q9⟩
    · have := q4 i hi
      refine this.trans ?_
      show sDryG (sAge W (wN W)) i = if nI 4 < wS W 4 ∧ wAt W (nI i) = none then sMx (wG W i - nI 1) else wG W i
      unfold sDryG
      rw [hsame]
      rfl
    · refine (q6 i hi).trans ?_
      refine (numAt_cg (W := sGrow W) (W' := wSetS (mkW (wS (sAge W (wN W))) (sDryG (sAge W (wN W))) (wL (sAge W (wN W))) (wT (sAge W (wN W))) (wN (sAge W (wN W))) (wB (sAge W (wN W))) (wb (sAge W (wN W)))) 0 (wS W 0 + nI 1)) (fun t ht => ?_) rfl i)
      have ht' : t < wN W := ht
      have e : wT (sAge W (wN W)) t = upd (wT W t) 5 (F_Math_min (nI 999) (wT W t 5 + nI 1)) := if_pos ht'
      exact ⟨congrFun e 4, congrFun e 0⟩
    · have ht' : t < wN W := ht
      refine (q7 t k ht hk).trans ?_
      have e : wT (sAge W (wN W)) t = upd (wT W t) 5 (F_Math_min (nI 999) (wT W t 5 + nI 1)) := if_pos ht'
      exact congrFun e k
theorem cw_day (hz : 1000 ≤ z) (hw : isW w) {t0 : Nat} (hl : isL (t0 + 1)) (hout : ∀ c', inW w c' → ¬ (t0 ≤ c' ∧ c' ≤ t0 + 21)) {S F : Rw} (hS : okS S) (hF : okF F) (hA : CL (t0 + 1) M A) (hC : CW th w M p W) (hf : wf c W) (hc : c + 16 < 2147483648) (hRS : RwS (t0 + 8) M S) (hRF : RwF (t0 + 6) M F) :
    ∃ M' p', F_World_liveDay z w t0 th M = some M' ∧ CW th w M' p' (sDay th A S F W) ∧ FrW w (t0 + 1) M M' := by
  have hoL : ∀ c', inW w c' → ¬ (t0 + 1 ≤ c' ∧ c' ≤ t0 + 1 + 4) := fun c' h e => hout c' h (by omega)
  have h16 := hS.1
  have h16' := hF.1
  obtain ⟨M1, a1, a2, a3⟩ := l_sky hz hout hS S.1 0 z M W (by omega) (by omega) hC hRS
  have f1 := wf_sky hS S.1 0 (by omega) hf
  have e1 : M1 (t0 + 6) = M (t0 + 6) := a3 _ (fun e => hout _ e (by omega)) (by omega)
  have e2 : M1 (t0 + 6 + 1) = M (t0 + 6 + 1) := a3 _ (fun e => hout _ e (by omega)) (by omega)
  have A1 := CL_FrW hoL a3 hA
  obtain ⟨M2, b1, b2, b3⟩ := l_fly hz hw hl hout hF F.1 0 z c M1 _ (by omega) (by omega) (by omega) A1 a2 f1 (by unfold RwF; rw [e1, e2]; exact hRF)
  have f2 := wf_fly (th := th) (A := A) hF F.1 0 c (by omega) (by omega) f1
  have A2 := CL_FrW hoL b3 A1
  obtain ⟨M3, p3, v, d1, d2, d3⟩ := l_strL hz hw hl hoL (by omega) 20 0 z M2 p _ (by omega) (by omega) A2 b2 f2 (by omega)
  have f3 := wf_strL (th := th) (A := A) 20 0 f2
  have A3 := CL_FrW hoL d3 A2
  obtain ⟨M4, p4, g1, g2, g3⟩ := l_slL hz hw hl hoL (by omega) 60 z M3 p3 _ (nI 59) (by decide) (by omega) (by omega) A3 d2 f3
  have f4 := wf_slL (th := th) (A := A) 60 f3
  obtain ⟨M5, k1, k2, k3⟩ := cw_grow (l := t0 + 1) hz hw g2 f4 (by omega)
  refine ⟨M5, p4, ?_, k2, FrW_tr a3 (FrW_tr b3 (FrW_tr d3 (FrW_tr g3 k3)))⟩
  unfold F_World_liveDay
  rw [a1, ob1_ok, b1, ob1_ok, d1, ob2_ok, g1, ob1_ok, k1, ob1_ok]
end S35
