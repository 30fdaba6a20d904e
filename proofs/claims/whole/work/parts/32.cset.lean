/-! ===== single changes of the class's World ===== -/
section S32
variable {th : Bool} {z w : Nat} {M : mM} {p : Nat → Nat} {W : Wd} {c : Nat}
theorem CW_setG (hC : CW th w M p W) {i : Nat} {x : Int32} : CW th w (up M (w + 1) i x) p (wSetG W i x) := by
  have hne : ∀ c', c' ≠ w + 1 → up M (w + 1) i x c' = M c' := fun c' h => by rw [up, upR_ne _ _ h]
  have hP := CW_P hC
  have h20 := CW_20 hC
  refine ⟨⟨fun t ht => by rw [hne (w + 4) (by omega)]; exact hP t ht, h20⟩, fun q h1 h2 => by rw [hne w (by omega)]; exact CW_S hC h1 h2, by rw [hne w (by omega)]; exact CW_N (W := W) (p := p) hC, fun j hj => ?_, fun j hj => by rw [hne (w + 2) (by omega)]; exact CW_L hC hj, fun j hj => by rw [hne (w + 3) (by omega)]; exact CW_A hC hj, fun t q ht hq => ?_, by rw [hne (w + 5) (by omega)]; exact CW_b hC, fun hth => ?_⟩
  · show _ = upd (wG W) i x j
    by_cases h : j = i
    · subst h; rw [up_same, upd_same]
    · rw [up_neJ _ _ _ h, upd_ne _ _ h]
      exact CW_G hC hj
  · have ht' : t < wN W := ht
    have h10 := (hP t (by omega)).1
    rw [hne (p t) (by omega)]
    exact CW_T hC ht hq
  · subst hth
    rw [hne (w + 5) (by omega), hne (w + 6) (by omega)]
    exact CW_B (W := W) (p := p) hC
theorem CW_setL (hC : CW th w M p W) {i : Nat} {x : Int32} : CW th w (up M (w + 2) i x) p (wSetL W i x) := by
  have hne : ∀ c', c' ≠ w + 2 → up M (w + 2) i x c' = M c' := fun c' h => by rw [up, upR_ne _ _ h]
  have hP := CW_P hC
  have h20 := CW_20 hC
  refine ⟨⟨fun t ht => by rw [hne (w + 4) (by omega)]; exact hP t ht, h20⟩, fun q h1 h2 => by rw [hne w (by omega)]; exact CW_S hC h1 h2, by rw [hne w (by omega)]; exact CW_N (W := W) (p := p) hC, fun j hj => by rw [hne (w + 1) (by omega)]; exact CW_G hC hj, fun j hj => ?_, fun j hj => by rw [hne (w + 3) (by omega)]; exact CW_A hC hj, fun t q ht hq => ?_, by rw [hne (w + 5) (by omega)]; exact CW_b hC, fun hth => ?_⟩
  · show _ = upd (wL W) i x j
    by_cases h : j = i
    · subst h; rw [up_same, upd_same]
    · rw [up_neJ _ _ _ h, upd_ne _ _ h]
      exact CW_L hC hj
  · have ht' : t < wN W := ht
    have h10 := (hP t (by omega)).1
    rw [hne (p t) (by omega)]
    exact CW_T hC ht hq
  · subst hth
    rw [hne (w + 5) (by omega), hne (w + 6) (by omega)]
    exact CW_B (W := W) (p := p) hC
theorem CW_setT (hC : CW th w M p W) {t k : Nat} {x : Int32} (ht : t < wN W) (h0 : k ≠ 0) (h4 : k ≠ 4) : CW th w (up M (p t) k x) p (wSetT W t k x) := by
  have hP := CW_P hC
  have h20 := CW_20 hC
  have hp := (hP t (by omega)).1
  have hne : ∀ c', c' ≠ p t → up M (p t) k x c' = M c' := fun c' h => by rw [up, upR_ne _ _ h]
  refine ⟨⟨fun t ht => by rw [hne (w + 4) (by omega)]; exact hP t ht, h20⟩, fun q h1 h2 => by rw [hne w (by omega)]; exact CW_S hC h1 h2, by rw [hne w (by omega)]; exact CW_N (W := W) (p := p) hC, fun j hj => by rw [hne (w + 1) (by omega)]; exact CW_G hC hj, fun j hj => by rw [hne (w + 2) (by omega)]; exact CW_L hC hj, fun j hj => ?_, fun s q hs hq => ?_, by rw [hne (w + 5) (by omega)]; exact CW_b hC, fun hth => ?_⟩
  · rw [hne (w + 3) (by omega), numAt_cg (W := W) (W' := wSetT W t k x) (fun s _ => ⟨upT_ne (Or.inr (Ne.symm h4)), upT_ne (Or.inr (Ne.symm h0))⟩) rfl]
    exact CW_A hC hj
  · have hs' : s < wN W := hs
    show _ = upT (wT W) t k x s q
    by_cases h : s = t
    · subst h
      by_cases h2 : q = k
      · subst h2
        rw [up_same, upT_same]
      · rw [up_neJ _ _ _ h2, upT_ne (Or.inr h2)]
        exact CW_T hC hs' hq
    · rw [hne (p s) (fun e => h ((hP t (by omega)).2.2 s (by omega) e)), upT_ne (Or.inl h)]
      exact CW_T hC hs' hq
  · subst hth
    rw [hne (w + 5) (by omega), hne (w + 6) (by omega)]
    exact CW_B (W := W) (p := p) hC
theorem numAt_step (hf : wf c W) {t i : Nat} (ht : t < wN W) (hat : wT W t 4 = nI i) (hi : i < 59) (hfree : wAt W (nI (i + 1)) = none) {j : Nat} (hj : j < 60) : numAt (wSetT W t 4 (nI (i + 1))) j = if j = i + 1 then wT W t 0 else if j = i then -1 else numAt W j := by
  have hf' := wf_step hf ht hat hi hfree
  have o0 : ∀ s, wT (wSetT W t 4 (nI (i + 1))) s 0 = wT W s 0 := fun s => upT_ne (Or.inr (by omega))
  have u : ∀ s, s ≠ t → wT (wSetT W t 4 (nI (i + 1))) s 4 = wT W s 4 := fun s h => upT_ne (Or.inl h)
  have ut : wT (wSetT W t 4 (nI (i + 1))) t 4 = nI (i + 1) := upT_same
  unfold numAt
  by_cases h1 : j = i + 1
  · subst h1
    rw [if_pos rfl, wAt_of hf' (t := t) ht ut]
    exact o0 t
  · rw [if_neg h1]
    by_cases h2 : j = i
    · subst h2
      rw [if_pos rfl]
      have e : wAt (wSetT W t 4 (nI (j + 1))) (nI j) = none := by
        refine fi_no (fun s hs => decide_eq_false (fun q => ?_))
        by_cases h : s = t
        · subst h
          rw [ut] at q
          exact eF (by omega) (by omega) (by omega) q
        · rw [u s h] at q
          exact h (wf_atU hf hs ht (q.trans hat.symm))
      rw [e]
    · rw [if_neg h2]
      cases e : wAt W (nI j) with
      | some s =>
        obtain ⟨a1, a2⟩ := wAt_some e
        have hst : s ≠ t := fun q => by
          subst q
          rw [hat] at a2
          exact eF (Ne.symm h2) (by omega) (by omega) a2
        rw [wAt_of hf' (t := s) a1 (by rw [u s hst]; exact a2)]
        exact o0 s
      | none =>
        have e2 : wAt (wSetT W t 4 (nI (i + 1))) (nI j) = none := by
          refine fi_no (fun s hs => decide_eq_false (fun q => ?_))
          by_cases h : s = t
          · subst h
            rw [ut] at q
            exact eF (Ne.symm h1) (by omega) (by omega) q
          · rw [u s h] at q
            exact wAt_none e hs q
        rw [e2]
theorem CW_step (hC : CW th w M p W) (hf : wf c W) {t i : Nat} (ht : t < wN W) (hat : wT W t 4 = nI i) (hi : i < 59) (hfree : wAt W (nI (i + 1)) = none) : CW th w (up (up (up M (w + 3) i (-1)) (p t) 4 (nI (i + 1))) (w + 3) (i + 1) (wT W t 0)) p (wSetT W t 4 (nI (i + 1))) := by
  have hP := CW_P hC
  have h20 := CW_20 hC
  have hp := (hP t (by omega)).1
  have hF : Fr [w + 3, p t] M (up (up (up M (w + 3) i (-1)) (p t) 4 (nI (i + 1))) (w + 3) (i + 1) (wT W t 0)) := Fr_up (Fr_up (Fr_up (Fr_rf _ _) (by simp)) (by simp)) (by simp)
  have hne : ∀ c', c' ≠ w + 3 → c' ≠ p t → _ = M c' := fun c' h1 h2 => hF c' (by simp [h1, h2])
  refine ⟨⟨fun t ht => by rw [hne (w + 4) (by omega) (by omega)]; exact hP t ht, h20⟩, fun q h1 h2 => by rw [hne w (by omega) (by omega)]; exact CW_S hC h1 h2, by rw [hne w (by omega) (by omega)]; exact CW_N (W := W) (p := p) hC, fun j hj => by rw [hne (w + 1) (by omega) (by omega)]; exact CW_G hC hj, fun j hj => by rw [hne (w + 2) (by omega) (by omega)]; exact CW_L hC hj, fun j hj => ?_, fun s q hs hq => ?_, by rw [hne (w + 5) (by omega) (by omega)]; exact CW_b hC, fun hth => ?_⟩
  · rw [numAt_step hf ht hat hi hfree hj]
    by_cases h1 : j = i + 1
    · subst h1
      rw [if_pos rfl, up_same]
    · rw [if_neg h1, up_neJ _ _ _ h1, up_neC _ _ _ _ (by omega)]
      by_cases h2 : j = i
      · subst h2
        rw [if_pos rfl, up_same]
      · rw [if_neg h2, up_neJ _ _ _ h2]
        exact CW_A hC hj
  · have hs' : s < wN W := hs
    have h10 := (hP s (by omega)).1
    show _ = upT (wT W) t 4 (nI (i + 1)) s q
    rw [up_neC _ _ _ _ (by omega)]
    by_cases h : s = t
    · subst h
      by_cases h2 : q = 4
      · subst h2
        rw [up_same, upT_same]
      · rw [up_neJ _ _ _ h2, up_neC _ _ _ _ (by omega), upT_ne (Or.inr h2)]
        exact CW_T hC hs' hq
    · rw [up_neC _ _ _ _ (fun e => h ((hP t (by omega)).2.2 s (by omega) e)), up_neC _ _ _ _ (by omega), upT_ne (Or.inl h)]
      exact CW_T hC hs' hq
  · subst hth
    rw [hne (w + 5) (by omega) (by omega), hne (w + 6) (by omega) (by omega)]
    exact CW_B (W := W) (p := p) hC
end S32
