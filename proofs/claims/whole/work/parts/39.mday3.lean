/-! ===== a day, the model's way: sliding, evening, weather, the whole ===== -/
section S39
variable {th : Bool} {z : Nat} {M : mM} {W : Wd} {c : Nat} {A : LA}
theorem l_falls (hz : 1000 ≤ z) {steps : Nat} (h9 : steps ≤ 9) {t : Nat} {kt : mM → Option (Bool × mM)} (hkt : ∀ M', kt M' = some (false, M')) : ∀ (m n : Nat) (M : mM) (W : Wd), m ≤ steps → m < n → RM M W → M 312 5 = bI th → wf c W → t < wN W →
    ∃ b M', L_Mod_fallsOff_1 z (nI t) (nI (130 + 7 * t)) (nI steps) kt n (nI (steps - m)) M = some (b, M') ∧ RM M' (sSl th m t W) ∧ Fr FM M M' ∧ wS (sSl th m t W) 6 = (if b = true then wS W 6 + nI 1 else wS W 6) := by
  intro m
  induction m with
  | zero =>
    intro n M W hm hn hR hth hf ht
    obtain ⟨n, rfl⟩ : ∃ k, n = k + 1 := ⟨n - 1, by omega⟩
    refine ⟨false, M, ?_, hR, Fr_rf _ _, rfl⟩
    rw [L_Mod_fallsOff_1, if_neg (lF (by omega) (by omega)), hkt]
  | succ m ih =>
    intro n M W hm hn hR hth hf ht
    obtain ⟨n, rfl⟩ : ∃ k, n = k + 1 := ⟨n - 1, by omega⟩
    have h20 := wf_20 hf
    obtain ⟨i, hi, hat⟩ := wf_at hf ht
    have e4 : M 313 (130 + 7 * t + 4) = nI i := (RM_T hR ht (by omega)).trans hat
    rw [L_Mod_fallsOff_1, if_pos (lT (by omega) (by omega)), nadd, ra_ok (by omega) (by omega), ob1_ok, e4, nadd i 1, sSl, hat, nadd i 1]
    by_cases h59 : i < 59
    · rw [if_neg (eF (by omega) (by omega) (by omega)), mm_isTaken (by omega) hR h20, ob1_ok, ob1_ok]
      cases hT : (wAt W (nI (i + 1))).isSome with
      | true =>
        rw [if_pos rfl, if_pos rfl]
        exact ⟨false, M, rfl, hR, Fr_rf _ _, rfl⟩
      | false =>
        have hfree : wAt W (nI (i + 1)) = none := by
          cases q : wAt W (nI (i + 1)) with
          | none => rfl
          | some s => rw [q] at hT; cases hT
        have nn : ¬ ¬ nI i < nI 59 := fun h => h (lT h59 (by omega))
        rw [if_neg Bool.false_ne_true, if_neg Bool.false_ne_true, if_neg nn, wa_ok (by omega) (by omega), ob1_ok]
        have R2 := RM_setT hR (t := t) (k := 4) (x := nI (i + 1)) (by omega)
        obtain ⟨b, M', g1, g2, g3, g4⟩ := ih n _ _ (by omega) (by omega) R2 (by rw [up_neC _ _ _ _ (by omega)]; exact hth) (wf_step hf ht hat h59 hfree) ht
        refine ⟨b, M', ?_, g2, Fr_tr (Fr_up (Fr_rf _ _) (by simp)) g3, g4⟩
        rw [nadd (steps - (m + 1)) 1, show steps - (m + 1) + 1 = steps - m by omega]
        exact g1
    · have hi59 : i = 59 := by omega
      subst hi59
      have hout : wAt W (nI (59 + 1)) = none := wAt_out hf (fun q => lF (by omega) (by omega) q.2)
      have q6 : M 313 6 = wS W 6 := RM_S hR (by omega) (by omega)
      have q0 : (up M 313 6 (wS W 6 + nI 1)) 313 (130 + 7 * t) = wT W t 0 := by rw [up_neJ _ _ _ (by omega), RM_T0 hR ht]
      obtain ⟨M5, M6, k1, k2, k3, k4⟩ := mm_freed hz hR hth hf ht (nI 4)
      rw [hat] at k1
      rw [if_pos rfl, hout, if_neg (show ¬ (none : Option Nat).isSome = true by decide), if_pos (lF (by omega) (by omega)), ra_ok (by omega) (by omega), ob1_ok, q6, wa_ok (by omega) (by omega), ob1_ok, ra_ok (by omega) (by omega), ob1_ok, q0, k1, ob1_ok, k2, ob1_ok]
      exact ⟨true, M6, rfl, k3, k4, freed_6⟩
theorem mm_falls (hz : 1000 ≤ z) (hR : RM M W) (hth : M 312 5 = bI th) (hA : ML M A) (hf : wf c W) {t : Nat} (ht : t < wN W) : ∃ b M', F_Mod_fallsOff z (nI t) M = some (b, M') ∧ RM M' (sSl th (tellsS A (nI 2) (envW W (wT W t))).toNatClampNeg t W) ∧ Fr FM M M' ∧ wS (sSl th (tellsS A (nI 2) (envW W (wT W t))).toNatClampNeg t W) 6 = (if b = true then wS W 6 + nI 1 else wS W 6) := by
  obtain ⟨M2, b1, b2⟩ := mm_slides hz hR hA hf ht
  have hR2 : RM M2 W := RM_fr hR b2 (by simp) (by simp)
  have hF2 : Fr FM M M2 := Fr_wk b2 (fun c' h => by simp at h ⊢; omega)
  have hth2 : M2 312 5 = bI th := by rw [hF2 312 (by simp)]; exact hth
  obtain ⟨k, -, ek, hk⟩ := tells_nat (A := A) (x := nI 2) (env := envW W (wT W t))
  obtain ⟨b, M', g1, g2, g3, g4⟩ := l_falls (th := th) (c := c) hz (hk rfl) (t := t) (kt := fun M28 => some (false, M28)) (fun _ => rfl) k z M2 W (Nat.le_refl _) (by have := hk rfl; omega) hR2 hth2 hf ht
  rw [ek, nI_clamp (by have := hk rfl; omega)]
  refine ⟨b, M', ?_, g2, Fr_tr hF2 g3, g4⟩
  unfold F_Mod_fallsOff
  rw [b1, ob2_ok, mm_thingAt, ek]
  rw [Nat.sub_self] at g1
  exact g1
theorem l_mSlL (hz : 1000 ≤ z) : ∀ (m n : Nat) (M : mM) (W : Wd) (x a : Int32), x = nI m - nI 1 → m ≤ 60 → m < n → RM M W → M 312 5 = bI th → ML M A → wf c W →
    ∃ a' M', L_Mod_goesBy_4 z n a x M = some (a', M') ∧ RM M' (sSlL th A m W) ∧ Fr FM M M' ∧ a' = a + (wS (sSlL th A m W) 6 - wS W 6) := by
  intro m
  induction m with
  | zero =>
    intro n M W x a hx hm hn hR hth hA hf
    obtain ⟨n, rfl⟩ : ∃ k, n = k + 1 := ⟨n - 1, by omega⟩
    refine ⟨a, M, ?_, hR, Fr_rf _ _, i_nil _ _⟩
    rw [L_Mod_goesBy_4, hx, if_neg (by decide)]
  | succ m ih =>
    intro n M W x a hx hm hn hR hth hA hf
    obtain ⟨n, rfl⟩ : ∃ k, n = k + 1 := ⟨n - 1, by omega⟩
    have h20 := wf_20 hf
    rw [nsb (by omega), Nat.add_sub_cancel] at hx
    subst hx
    have hx1 : nI m + -1 = nI m - nI 1 := by
      rw [Int32.sub_eq_add_neg]
      rfl
    rw [L_Mod_goesBy_4, if_pos (lF (by omega) (by omega)), mm_isTaken (by omega) hR h20, ob1_ok, ob1_ok, sSlL]
    unfold sSlide
    cases hT : wAt W (nI m) with
    | none =>
      obtain ⟨a', M2, b1, b2, b3, b4⟩ := ih n M W (nI m + -1) a hx1 (by omega) (by omega) hR hth hA hf
      exact ⟨a', M2, b1, b2, b3, b4⟩
    | some t =>
      obtain ⟨ht, -⟩ := wAt_some hT
      obtain ⟨b, M1, q1, q2, q3, q4⟩ := mm_falls hz hR hth hA hf ht
      have ho : oI (some t) = nI t := rfl
      rw [if_pos Option.isSome_some, mm_stuckAt (by omega) hR h20, ob1_ok, hT, ho, q1, ob2_ok, ob2_ok]
      have hth1 : M1 312 5 = bI th := by rw [q3 312 (by simp)]; exact hth
      have hA1 : ML M1 A := ML_congr hA (fun c' h1 h2 => q3 c' (by simp; omega))
      have hf1 := wf_sl (th := th) (tellsS A (nI 2) (envW W (wT W t))).toNatClampNeg t hf ht
      cases b with
      | true =>
        obtain ⟨a', M2, b1, b2, b3, b4⟩ := ih n M1 _ (nI m + -1) (a + nI 1) hx1 (by omega) (by omega) q2 hth1 hA1 hf1
        refine ⟨a', M2, ?_, b2, Fr_tr q3 b3, ?_⟩
        · rw [if_pos rfl, ob2_ok]
          exact b1
        · rw [if_pos rfl] at q4
          rw [b4, q4]
          rw [i_one a (wS W 6), i_tel]
      | false =>
        obtain ⟨a', M2, b1, b2, b3, b4⟩ := ih n M1 _ (nI m + -1) a hx1 (by omega) (by omega) q2 hth1 hA1 hf1
        refine ⟨a', M2, ?_, b2, Fr_tr q3 b3, ?_⟩
        · rw [if_neg Bool.false_ne_true, ob2_ok]
          exact b1
        · rw [if_neg Bool.false_ne_true] at q4
          rw [b4, q4]
theorem l_mStrL (hz : 1000 ≤ z) : ∀ (m t n : Nat) (M : mM) (W : Wd) (a : Int32), wN W ≤ t + m → t ≤ 20 → m < n → RM M W → M 312 5 = bI th → ML M A → wf c W →
    ∃ a' v M', L_Mod_goesBy_3 z n a (nI t) M = some (a', v, M') ∧ RM M' (sStrL th A m t W) ∧ Fr FM M M' ∧ a' = a + (wS (sStrL th A m t W) 6 - wS W 6) := by
  intro m
  induction m with
  | zero =>
    intro t n M W a hm ht hn hR hth hA hf
    obtain ⟨n, rfl⟩ : ∃ k, n = k + 1 := ⟨n - 1, by omega⟩
    have h20 := wf_20 hf
    refine ⟨a, nI t, M, ?_, hR, Fr_rf _ _, i_nil _ _⟩
    rw [L_Mod_goesBy_3, ra_ok (by omega) (by omega), ob1_ok, ob1_ok, RM_N hR, if_neg (fun h => lF (by omega) (by omega) (of_decide_eq_true h))]
  | succ m ih =>
    intro t n M W a hm ht hn hR hth hA hf
    obtain ⟨n, rfl⟩ : ∃ k, n = k + 1 := ⟨n - 1, by omega⟩
    have h20 := wf_20 hf
    rw [L_Mod_goesBy_3, ra_ok (by omega) (by omega), ob1_ok, ob1_ok, RM_N hR, sStrL]
    by_cases h : t < wN W
    · rw [if_pos (decide_eq_true (lT h (by omega))), if_pos h]
      obtain ⟨M1, q1, q2, q3⟩ := mm_isFreed hz hR hth hA hf h
      have hth1 : M1 312 5 = bI th := by rw [q3 312 (by simp)]; exact hth
      have hA1 : ML M1 A := ML_congr hA (fun c' h1 h2 => q3 c' (by simp; omega))
      have hf1 := wf_str (th := th) (A := A) hf h
      obtain ⟨s6, sN⟩ := str_f (th := th) (A := A) (W := W) (t := t)
      rw [q1, ob2_ok, ob2_ok]
      cases hb : (sStr th A W t).1 with
      | true =>
        rw [hb, if_pos rfl] at s6 sN
        obtain ⟨a', v, M2, b1, b2, b3, b4⟩ := ih t n M1 _ (a + nI 1) (by rw [sN]; omega) ht (by omega) q2 hth1 hA1 hf1
        refine ⟨a', v, M2, ?_, b2, Fr_tr q3 b3, ?_⟩
        · rw [if_pos rfl]
          exact b1
        · rw [if_pos rfl, b4, s6, i_one a (wS W 6), i_tel]
      | false =>
        rw [hb, if_neg Bool.false_ne_true] at s6 sN
        obtain ⟨a', v, M2, b1, b2, b3, b4⟩ := ih (t + 1) n M1 _ a (by rw [sN]; omega) (by omega) (by omega) q2 hth1 hA1 hf1
        refine ⟨a', v, M2, ?_, b2, Fr_tr q3 b3, ?_⟩
        · rw [if_neg Bool.false_ne_true, nadd]
          exact b1
        · rw [if_neg Bool.false_ne_true, b4, s6]
    · rw [if_neg (fun q => h ((nI_lt' (by omega) (by omega)).mp (of_decide_eq_true q))), if_neg h]
      exact ⟨a, nI t, M, rfl, hR, Fr_rf _ _, i_nil _ _⟩
theorem RM_tb (hR : RM M W) {W' : Wd} (hS : wS W' = wS W) (hG : wG W' = wG W) (hL : wL W' = wL W) (hN : wN W' = wN W) (hT : ∀ t q, t < wN W → q < 7 → wT W' t q = wT W t q) (hb : wb W' = wb W) (hB : wB W' = wB W) : RM M W' := by
  obtain ⟨h1, h2, h3, h4, h5, h6, h7⟩ := hR
  refine ⟨by rw [hS]; exact h1, by rw [hb]; exact h2, by rw [hN]; exact h3, by rw [hG]; exact h4, by rw [hL]; exact h5, fun t q ht hq => ?_, by rw [hb, hB]; exact h7⟩
  rw [hN] at ht
  rw [hT t q ht hq]
  exact h6 t q ht hq
theorem l_mAge : ∀ (m k n : Nat) (M : mM), k + m = wN W → wN W ≤ 20 → m < n → RM M (sAge W k) → ∃ M', L_Mod_evening_1 z n (nI k) M = some M' ∧ RM M' (sAge W (wN W)) ∧ Fr [313] M M' := by
  intro m
  induction m with
  | zero =>
    intro k n M hk h20 hn hR
    obtain ⟨n, rfl⟩ : ∃ k, n = k + 1 := ⟨n - 1, by omega⟩
    have h8 : M 313 8 = nI (wN W) := RM_N (W := sAge W k) hR
    refine ⟨M, ?_, by have e : k = wN W := hk; rw [← e]; exact hR, Fr_rf _ _⟩
    rw [L_Mod_evening_1, ra_ok (by omega) (by omega), ob1_ok, ob1_ok, h8, if_neg (fun h => lF (by omega) (by omega) (of_decide_eq_true h))]
  | succ m ih =>
    intro k n M hk h20 hn hR
    obtain ⟨n, rfl⟩ : ∃ k, n = k + 1 := ⟨n - 1, by omega⟩
    have h8 : M 313 8 = nI (wN W) := RM_N (W := sAge W k) hR
    have hk' : k < wN (sAge W k) := show k < wN W by omega
    have hTk : wT (sAge W k) k = wT W k := if_neg (by omega)
    have e5 : M 313 (130 + 7 * k + 5) = wT W k 5 := by rw [RM_T hR hk' (by omega), hTk]
    have hR2 := RM_setT hR (t := k) (k := 5) (x := F_Math_min (nI 999) (wT W k 5 + nI 1)) (by omega)
    have hs : wSetT (sAge W k) k 5 (F_Math_min (nI 999) (wT W k 5 + nI 1)) = sAge W (k + 1) := by
      unfold wSetT sAge mkW
      congr 4
      funext t
      show (if t = k then upd (if t < k then _ else wT W t) 5 _ else if t < k then _ else wT W t) = if t < k + 1 then _ else wT W t
      by_cases h : t = k
      · subst h
        rw [if_pos rfl, if_neg (by omega), if_pos (by omega)]
      · rw [if_neg h]
        by_cases h2 : t < k
        · rw [if_pos h2, if_pos (by omega)]
        · rw [if_neg h2, if_neg (by omega)]
    rw [hs] at hR2
    obtain ⟨M', g1, g2, g3⟩ := ih (k + 1) n _ (by omega) h20 (by omega) hR2
    refine ⟨M', ?_, g2, Fr_tr (Fr_up (Fr_rf _ _) (by simp)) g3⟩
    rw [L_Mod_evening_1, ra_ok (by omega) (by omega), ob1_ok, ob1_ok, h8, if_pos (decide_eq_true (lT (by omega) (by omega))), mm_thingAt, nadd, ra_ok (by omega) (by omega), ob1_ok, e5, lesser_eq, ob1_ok, wa_ok (by omega) (by omega), ob1_ok, nadd]
    exact g1
theorem l_mDryG (hz : 1000 ≤ z) (hf : wf c W) : ∀ (m k n : Nat) (M : mM), k + m = 60 → m < n → RM M (mkW (wS W) (fun i => if i < k then sDryG W i else wG W i) (wL W) (wT W) (wN W) (wB W) (wb W)) → ∃ M', L_Mod_evening_2 z n (nI k) M = some M' ∧ RM M' (mkW (wS W) (sDryG W) (wL W) (wT W) (wN W) (wB W) (wb W)) ∧ Fr [313] M M' := by
  have h20 := wf_20 hf
  intro m
  induction m with
  | zero =>
    intro k n M hk hn hR
    obtain ⟨n, rfl⟩ : ∃ k, n = k + 1 := ⟨n - 1, by omega⟩
    refine ⟨M, ?_, RM_allG hR (Fr_rf _ _) (fun i hi => ?_) (fun _ _ => rfl), Fr_rf _ _⟩
    · rw [L_Mod_evening_2, if_neg (lF (by omega) (by omega)), ob1_ok, if_neg Bool.false_ne_true]
    · have := RM_G hR hi
      rw [this]
      exact congrArg (· - nI 50) (if_pos (by omega))
  | succ m ih =>
    intro k n M hk hn hR
    obtain ⟨n, rfl⟩ : ∃ k, n = k + 1 := ⟨n - 1, by omega⟩
    have h4v : M 313 4 = wS W 4 := RM_S hR (by omega) (by omega)
    have hG : F_Mod_glue (nI k) M = some (wG W k) := by
      rw [mm_glue hR (by omega)]
      exact congrArg some (if_neg (by omega))
    rw [L_Mod_evening_2, if_pos (lT (by omega) (by omega)), ra_ok (by omega) (by omega), ob1_ok, ob1_ok, h4v]
    by_cases h4 : nI 4 < wS W 4
    · have hT : F_Mod_isTaken z (nI k) M = some (wAt W (nI k)).isSome := by
        rw [mm_isTaken (by omega) hR h20]
        rfl
      rw [if_pos (decide_eq_true h4), hT, ob1_ok, ob1_ok, ob1_ok]
      cases hs : wAt W (nI k) with
      | none =>
        obtain ⟨g, hg, eg⟩ := wf_glue hf (show k < 60 by omega)
        have hR2 : RM (up M 313 (10 + k) (sMx (wG W k - nI 1) - nI 50)) (mkW (wS W) (fun i => if i < k + 1 then sDryG W i else wG W i) (wL W) (wT W) (wN W) (wB W) (wb W)) := by
          refine RM_allG hR (Fr_up (Fr_rf _ _) (by simp)) (fun i hi => ?_) (fun j hj => up_neJ _ _ _ (by omega))
          by_cases h : i = k
          · subst h
            rw [up_same, if_pos (by omega)]
            unfold sDryG
            rw [if_pos ⟨h4, hs⟩]
          · rw [up_neJ _ _ _ (by omega), RM_G hR hi]
            show (if i < k then sDryG W i else wG W i) - nI 50 = _
            by_cases h2 : i < k
            · rw [if_pos h2, if_pos (by omega)]
            · rw [if_neg h2, if_neg (by omega)]
        obtain ⟨M', g1, g2, g3⟩ := ih (k + 1) n _ (by omega) (by omega) hR2
        refine ⟨M', ?_, g2, Fr_tr (Fr_up (Fr_rf _ _) (by simp)) g3⟩
        show ob1 (ob1 (F_Mod_glue (nI k) M) _) _ = _
        rw [hG, ob1_ok, eg, mm_hasGlue hR (by omega) hg (by omega), ob1_ok, ob1_ok, nadd, ← eg]
        exact g1
      | some t =>
        have hR2 : RM M (mkW (wS W) (fun i => if i < k + 1 then sDryG W i else wG W i) (wL W) (wT W) (wN W) (wB W) (wb W)) := by
          refine RM_allG hR (Fr_rf _ _) (fun i hi => ?_) (fun _ _ => rfl)
          rw [RM_G hR hi]
          show (if i < k then sDryG W i else wG W i) - nI 50 = _
          by_cases h : i = k
          · subst h
            rw [if_neg (by omega), if_pos (by omega)]
            unfold sDryG
            rw [if_neg (fun q => by rw [hs] at q; cases q.2)]
          · by_cases h2 : i < k
            · rw [if_pos h2, if_pos (by omega)]
            · rw [if_neg h2, if_neg (by omega)]
        obtain ⟨M', g1, g2, g3⟩ := ih (k + 1) n _ (by omega) (by omega) hR2
        refine ⟨M', ?_, g2, g3⟩
        show ob1 (some M) _ = _
        rw [ob1_ok, nadd]
        exact g1
    · refine ⟨M, ?_, RM_allG hR (Fr_rf _ _) (fun i hi => ?_) (fun _ _ => rfl), Fr_rf _ _⟩
      · rw [if_neg (fun q => h4 (of_decide_eq_true q))]
      · have e : ∀ i, sDryG W i = wG W i := fun i => if_neg (fun q => h4 q.1)
        rw [RM_G hR hi]
        show (if i < k then sDryG W i else wG W i) - nI 50 = _
        rw [e, ite_self]
theorem mm_evening (hz : 1000 ≤ z) (hR : RM M W) (hf : wf c W) : ∃ M', F_Mod_evening z M = some M' ∧ RM M' (sGrow W) ∧ Fr FM M M' := by
  have h20 := wf_20 hf
  obtain ⟨M1, a1, a2, a3⟩ := l_mAge (z := z) (W := W) (wN W) 0 z M (by omega) h20 (by omega) hR
  have hage : ∀ t, t < wN W → wT (sAge W (wN W)) t = upd (wT W t) 5 (F_Math_min (nI 999) (wT W t 5 + nI 1)) := fun t ht => if_pos ht
  have hfA : wf c (sAge W (wN W)) := by
    refine wf_cg hf rfl (show wb W ≤ 150 from wf_150 hf) (fun t ht => ?_) (fun t ht => ?_) rfl (fun i hi => wf_glue hf hi) (Nat.le_refl _)
    · rw [hage t ht, upd_ne _ _ (by omega), upd_ne _ _ (by omega)]
      exact ⟨rfl, rfl⟩
    · rw [hage t ht, upd_ne _ _ (by omega)]
      exact wf_size hf ht
  obtain ⟨M2, b1, b2, b3⟩ := l_mDryG hz hfA 60 0 z M1 (by omega) (by omega) a2
  have h0 : M2 313 0 = wS W 0 := RM_S b2 (by omega) (by omega)
  have hR3 := RM_setS (k := 0) (x := wS W 0 + nI 1) b2 (by omega) (by omega)
  have hsame : ∀ i, wAt (sAge W (wN W)) (nI i) = wAt W (nI i) := fun i => wAt_cg (W := W) (W' := sAge W (wN W)) (fun t ht => by
    rw [hage t ht, upd_ne _ _ (by omega)]) rfl _
  refine ⟨up M2 313 0 (wS W 0 + nI 1), ?_, ?_, Fr_up (Fr_tr (Fr_wk a3 (fun c' h => by simp at h ⊢; omega)) (Fr_wk b3 (fun c' h => by simp at h ⊢; omega))) (by simp)⟩
  · unfold F_Mod_evening
    rw [a1, ob1_ok, b1, ob1_ok, ra_ok (by omega) (by omega), ob1_ok, h0, wa_ok (by omega) (by omega), ob1_ok]
  · refine RM_tb hR3 rfl ?_ rfl rfl (fun t q ht hq => ?_) rfl rfl
    · funext i
      show (if nI 4 < wS W 4 ∧ wAt W (nI i) = none then sMx (wG W i - nI 1) else wG W i) = sDryG (sAge W (wN W)) i
      unfold sDryG
      rw [hsame]
      rfl
    · have ht' : t < wN W := ht
      exact (congrFun (hage t ht') q).symm
end S39
