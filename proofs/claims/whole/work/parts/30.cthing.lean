/-! ===== the class's things come and go ===== -/
/-- where the cells are when t has gone -/
def pDel (p : Nat → Nat) (N t : Nat) : Nat → Nat := fun s => if s < t then p s else if s < N - 1 then p (s + 1) else if s = N - 1 then p t else p s
section S30
variable {th : Bool} {z w : Nat} {M : mM} {p : Nat → Nat} {W : Wd} {c : Nat}
theorem cw_settle (hC : CW th w M p W) (hf : wf c W) (hc : c + 1 < 2147483648) (hN : wN W < 20) {s i : Nat} {k l : Int32} (hi : i < 60) (hs : 1 ≤ s ∧ s ≤ 9) (hfree : wAt W (nI i) = none) (hT : TC M (p (wN W)) (newT (wS W 5) k (nI s) l (nI i))) :
    ∃ M', F_World_settle w (p (wN W)) M = some (wS W 5, M') ∧ CW th w M' p (sSettle th W k (nI s) l (nI i)) ∧ Fr [w, w + 3, w + 5, w + 6] M M' := by
  have hP := CW_P hC
  have h20 := CW_20 hC
  obtain ⟨⟨p1, p2⟩, p3, p4⟩ := hP (wN W) hN
  let c0 := p (wN W)
  have t4 : M c0 4 = nI i := hT 4 (by omega)
  have t0 : M c0 0 = wS W 5 := hT 0 (by omega)
  have h9 : M w 9 = wS W 5 := CW_S hC (k := 5) (by omega) (by omega)
  let M2 := up M (w + 3) i (wS W 5)
  let M3 := up M2 w 5 (nI (wN W + 1))
  let M5 := up M3 w 9 (wS W 5 + nI 1)
  have hF : Fr [w, w + 3] M M5 := Fr_up (Fr_up (Fr_up (Fr_rf _ _) (by simp)) (by simp)) (by simp)
  have hne : ∀ c', c' ≠ w → c' ≠ w + 3 → M5 c' = M c' := fun c' h1 h2 => hF c' (by simp; omega)
  have hWt : ∀ t, t < wN W → wT (wAdd W k (nI s) l (nI i)) t = wT W t := fun t ht => if_neg (by omega)
  have hWn : wT (wAdd W k (nI s) l (nI i)) (wN W) = newT (wS W 5) k (nI s) l (nI i) := if_pos rfl
  have hC5 : CW th w M5 p (wAdd W k (nI s) l (nI i)) := by
    refine ⟨⟨fun t ht => by rw [hne (w + 4) (by omega) (by omega)]; exact hP t ht, show wN W + 1 ≤ 20 by omega⟩, fun q h1 h2 => ?_, ?_, fun j hj => by rw [hne (w + 1) (by omega) (by omega)]; exact CW_G hC hj, fun j hj => by rw [hne (w + 2) (by omega) (by omega)]; exact CW_L hC hj, fun j hj => ?_, fun t q ht hq => ?_, by rw [hne (w + 5) (by omega) (by omega)]; exact CW_b hC, fun hth => ?_⟩
    · show M5 w (cS q) = upd (wS W) 5 (wS W 5 + nI 1) q
      by_cases h5 : q = 5
      · subst h5
        rw [upd_same]
        exact up_same _ _ _ _
      · rw [upd_ne _ _ h5]
        have hcs : cS q ≠ 9 ∧ cS q ≠ 5 := by
          unfold cS
          rcases (show q = 0 ∨ q = 1 ∨ q = 3 ∨ q = 4 ∨ q = 6 ∨ q = 7 by omega) with rfl | rfl | rfl | rfl | rfl | rfl <;> decide
        show up M3 w 9 _ w (cS q) = _
        rw [up_neJ _ _ _ hcs.1]
        show up M2 w 5 _ w (cS q) = _
        rw [up_neJ _ _ _ hcs.2]
        show up M (w + 3) i _ w (cS q) = _
        rw [up_neC _ _ _ _ (by omega)]
        exact CW_S hC h1 h2
    · show up M3 w 9 _ w 5 = _
      rw [up_neJ _ _ _ (by omega)]
      exact up_same _ _ _ _
    · rw [numAt_add hf hc hN hi hs hfree hj]
      show up M3 w 9 _ (w + 3) j = _
      rw [up_neC _ _ _ _ (by omega)]
      show up M2 w 5 _ (w + 3) j = _
      rw [up_neC _ _ _ _ (by omega)]
      by_cases h : j = i
      · rw [if_pos h, h]
        exact up_same _ _ _ _
      · rw [if_neg h]
        show up M (w + 3) i _ (w + 3) j = _
        rw [up_neJ _ _ _ h]
        exact CW_A hC hj
    · have ht' : t < wN W + 1 := ht
      have h10 := (hP t (by omega)).1
      rw [hne (p t) (by omega) (by omega)]
      by_cases h : t < wN W
      · rw [hWt t h]
        exact CW_T hC h hq
      · rw [show t = wN W by omega, hWn]
        exact hT q hq
    · subst hth
      rw [hne (w + 5) (by omega) (by omega), hne (w + 6) (by omega) (by omega)]
      exact CW_B (W := W) (p := p) hC
  obtain ⟨M', e1, e2, e3⟩ := cw_write hC5 (show wb W ≤ 150 from wf_150 hf) (nI 0) (wS W 5) (nI i)
  refine ⟨M', ?_, e2, ?_⟩
  · have q0 : M5 c0 0 = wS W 5 := by rw [hne c0 (by omega) (by omega)]; exact t0
    have q4 : M5 c0 4 = nI i := by rw [hne c0 (by omega) (by omega)]; exact t4
    have q0' : M' c0 0 = wS W 5 := by rw [e3 c0 (by simp; omega)]; exact q0
    have eN : M2 w 5 = nI (wN W) := by
      show up M (w + 3) i _ w 5 = _
      rw [up_neC _ _ _ _ (by omega)]
      exact CW_N hC
    have e9 : M3 w 9 = wS W 5 := by
      show up M2 w 5 _ w 9 = _
      rw [up_neJ _ _ _ (by omega)]
      show up M (w + 3) i _ w 9 = _
      rw [up_neC _ _ _ _ (by omega)]
      exact h9
    have s2 : wa M (w + 3) 60 (M c0 4) (M c0 0) = some M2 := by rw [t4, t0]; exact wa_ok hi (by omega)
    unfold F_World_settle
    show ob1 (wa M (w + 3) 60 (M c0 4) (M c0 0)) _ = _
    rw [s2, ob1_ok, eN, nadd]
    show ob1 (some M3) _ = _
    rw [ob1_ok, e9]
    show ob1 (some M5) _ = _
    rw [ob1_ok]
    show ob1 (F_World_write w (nI 0) (M5 c0 0) (M5 c0 4) M5) _ = _
    rw [q0, q4, e1, ob1_ok]
    show some (M' c0 0, M') = _
    rw [q0']
  · refine Fr_tr (Fr_wk hF (fun c' h => ?_)) (Fr_wk e3 (fun c' h => ?_))
    · simp at h ⊢; omega
    · simp at h ⊢; omega
theorem l_remove (hw : isW w) {N : Nat} (hN : N ≤ 19) : ∀ (m k n : Nat) (M : mM), k + m = N → m < n → M w 5 = nI N → (∀ j, k < j → j ≤ N → rT M (w + 4) 20 (nI j) = some (p j)) → L_World_remove_1 z w n (nI k) M = some (fil M (w + 4) k N (fun j => nI (p (j + 1)))) := by
  intro m
  induction m with
  | zero =>
    intro k n M hk hn h5 hr
    obtain ⟨n, rfl⟩ : ∃ k, n = k + 1 := ⟨n - 1, by omega⟩
    rw [L_World_remove_1, h5, if_neg (lF (by omega) (by omega)), fil_end (by omega)]
  | succ m ih =>
    intro k n M hk hn h5 hr
    obtain ⟨n, rfl⟩ : ∃ k, n = k + 1 := ⟨n - 1, by omega⟩
    rw [L_World_remove_1, h5, if_pos (lT (by omega) (by omega)), nadd, hr (k + 1) (by omega) (by omega), ob1_ok, wa_ok (by omega) (by omega), ob1_ok, ih (k + 1) n _ (by omega) (by omega) (by rw [up_neC _ _ _ _ (by omega)]; exact h5) (fun j h1 h2 => ?_)]
    · exact congrArg some (fil_step (g := fun j => nI (p (j + 1))) (by omega) (fun _ _ _ => rfl))
    · have h3 := hr j (by omega) h2
      unfold rT at h3 ⊢
      rw [nI_clamp (by omega), up_neJ _ _ _ (by omega)]
      rw [nI_clamp (by omega)] at h3
      exact h3
theorem cw_remove (hz : 100 ≤ z) (hw : isW w) (hC : CW th w M p W) (hf : wf c W) {t : Nat} (ht : t < wN W) : ∃ M', F_World_remove z w (nI t) M = some M' ∧ CW th w M' (pDel p (wN W) t) (wDel W t) ∧ Fr [w, w + 3, w + 4] M M' := by
  have hP := CW_P hC
  have h20 := CW_20 hC
  obtain ⟨⟨p1, p2⟩, p3, p4⟩ := hP t (by omega)
  obtain ⟨i, hi, hat⟩ := wf_at hf ht
  let c0 := p t
  have t4 : M c0 4 = nI i := (CW_T hC ht (by omega)).trans hat
  let M4 := up M (w + 3) i (-1)
  let M5 := up M4 w 5 (nI (wN W - 1))
  let M11 := fil M5 (w + 4) t (wN W - 1) (fun j => nI (p (j + 1)))
  let M13 := up M11 (w + 4) (wN W - 1) (nI c0)
  have hF5 : Fr [w, w + 3, w + 4] M M5 := Fr_up (Fr_up (Fr_rf _ _) (by simp)) (by simp)
  have hF : Fr [w, w + 3, w + 4] M M13 := Fr_up (Fr_upR hF5 (by simp)) (by simp)
  have hne : ∀ c', c' ≠ w → c' ≠ w + 3 → c' ≠ w + 4 → M13 c' = M c' := fun c' h1 h2 h3 => hF c' (by simp; omega)
  have e4 : M4 w 5 = nI (wN W) := by
    show up M (w + 3) i _ w 5 = _
    rw [up_neC _ _ _ _ (by omega)]
    exact CW_N hC
  have eL : L_World_remove_1 z w z (nI t) M5 = some M11 := by
    refine l_remove hw (N := wN W - 1) (by omega) (wN W - 1 - t) t z M5 (by omega) (by omega) (up_same _ _ _ _) (fun j h1 h2 => ?_)
    have hP5 : TP w M5 p := fun q hq => by rw [show M5 (w + 4) = M (w + 4) from (by show upR _ _ _ _ = _; rw [upR_ne _ _ (by omega)]; exact upR_ne _ _ (by omega))]; exact hP q hq
    exact rT_ok hw hP5 (by omega)
  have e11 : M11 w 5 = nI (wN W - 1) := by
    show fil _ _ _ _ _ w 5 = _
    rw [fil_ne (by omega)]
    exact up_same _ _ _ _
  have row4 : ∀ s, s < 20 → M13 (w + 4) s = nI (pDel p (wN W) t s) := by
    intro s hs
    show up M11 (w + 4) (wN W - 1) (nI c0) (w + 4) s = _
    unfold pDel
    by_cases h1 : s = wN W - 1
    · subst h1
      rw [up_same]
      by_cases h2 : wN W - 1 < t
      · omega
      · rw [if_neg h2, if_neg (by omega), if_pos rfl]
    · rw [up_neJ _ _ _ h1]
      show fil M5 _ _ _ _ (w + 4) s = _
      rw [fil_at]
      have h5 : M5 (w + 4) s = nI (p s) := by
        show up M4 w 5 _ (w + 4) s = _
        rw [up_neC _ _ _ _ (by omega)]
        show up M (w + 3) i _ (w + 4) s = _
        rw [up_neC _ _ _ _ (by omega)]
        exact (hP s hs).2.1
      by_cases h2 : s < t
      · rw [if_neg (by omega), if_pos h2, h5]
      · by_cases h3 : s < wN W - 1
        · rw [if_pos ⟨by omega, h3⟩, if_neg h2, if_pos h3]
        · rw [if_neg (by omega), if_neg h2, if_neg h3, if_neg h1, h5]
  -- the permutation
  let sg : Nat → Nat := fun s => if s < t then s else if s < wN W - 1 then s + 1 else if s = wN W - 1 then t else s
  have hsg : ∀ s, pDel p (wN W) t s = p (sg s) := by
    intro s
    show (if s < t then p s else if s < wN W - 1 then p (s + 1) else if s = wN W - 1 then p t else p s) = p (if s < t then s else if s < wN W - 1 then s + 1 else if s = wN W - 1 then t else s)
    split
    · rfl
    split
    · rfl
    split
    · rfl
    · rfl
  have hsl : ∀ s, s < 20 → sg s < 20 := by
    intro s hs
    show (if s < t then s else if s < wN W - 1 then s + 1 else if s = wN W - 1 then t else s) < 20
    split
    · omega
    split
    · omega
    split <;> omega
  have hsi : ∀ s s', s < 20 → s' < 20 → sg s = sg s' → s = s' := by
    intro s s' h1 h2 h3
    have h3' : (if s < t then s else if s < wN W - 1 then s + 1 else if s = wN W - 1 then t else s) = (if s' < t then s' else if s' < wN W - 1 then s' + 1 else if s' = wN W - 1 then t else s') := h3
    split at h3' <;> split at h3' <;> (try split at h3') <;> (try split at h3') <;> (try split at h3') <;> (try split at h3') <;> omega
  refine ⟨M13, ?_, ?_, hF⟩
  · unfold F_World_remove
    rw [rT_ok hw hP (by omega), ob1_ok]
    have s2 : wa M (w + 3) 60 (M (p t) 4) (-1) = some M4 := by
      have : M (p t) 4 = nI i := t4
      rw [this]; exact wa_ok hi (by omega)
    rw [s2, ob1_ok, e4, nsb (by omega)]
    show ob1 (some M5) _ = _
    rw [ob1_ok, eL, ob1_ok, e11, wa_ok (by omega) (by omega), ob1_ok]
  · refine ⟨⟨fun s hs => ⟨?_, row4 s hs, fun s' hs' e => ?_⟩, show wN W - 1 ≤ 20 by omega⟩, fun q h1 h2 => ?_, ?_, fun j hj => by rw [hne (w + 1) (by omega) (by omega) (by omega)]; exact CW_G hC hj, fun j hj => by rw [hne (w + 2) (by omega) (by omega) (by omega)]; exact CW_L hC hj, fun j hj => ?_, fun s q hs hq => ?_, by rw [hne (w + 5) (by omega) (by omega) (by omega)]; exact CW_b hC, fun hth => ?_⟩
    · rw [hsg]
      exact (hP _ (hsl s hs)).1
    · rw [hsg, hsg] at e
      exact hsi _ _ hs' hs ((hP _ (hsl s hs)).2.2 _ (hsl s' hs') e)
    · show up M11 (w + 4) _ _ w (cS q) = wS W q
      rw [up_neC _ _ _ _ (by omega)]
      show fil M5 _ _ _ _ w (cS q) = _
      rw [fil_ne (by omega)]
      show up M4 w 5 _ w (cS q) = _
      have hcs : cS q ≠ 5 := by
        unfold cS
        rcases (show q = 0 ∨ q = 1 ∨ q = 3 ∨ q = 4 ∨ q = 5 ∨ q = 6 ∨ q = 7 by omega) with rfl | rfl | rfl | rfl | rfl | rfl | rfl <;> decide
      rw [up_neJ _ _ _ hcs]
      show up M (w + 3) i _ w (cS q) = _
      rw [up_neC _ _ _ _ (by omega)]
      exact CW_S hC h1 h2
    · show up M11 (w + 4) _ _ w 5 = nI (wN W - 1)
      rw [up_neC _ _ _ _ (by omega)]
      exact e11
    · rw [numAt_del hf ht hi hat hj]
      show up M11 (w + 4) _ _ (w + 3) j = _
      rw [up_neC _ _ _ _ (by omega)]
      show fil M5 _ _ _ _ (w + 3) j = _
      rw [fil_ne (by omega)]
      show up M4 w 5 _ (w + 3) j = _
      rw [up_neC _ _ _ _ (by omega)]
      by_cases h : j = i
      · rw [if_pos h, h]
        exact up_same _ _ _ _
      · rw [if_neg h]
        show up M (w + 3) i _ (w + 3) j = _
        rw [up_neJ _ _ _ h]
        exact CW_A hC hj
    · have hs' : s < wN W - 1 := hs
      have hb : pDel p (wN W) t s = p (bk t s) := by
        unfold pDel bk
        by_cases h : s < t
        · rw [if_pos h, if_pos h]
        · rw [if_neg h, if_neg h, if_pos hs']
      have h10 := (hP (bk t s) (by have := bk_lt ht hs'; omega)).1
      rw [hb, hne (p (bk t s)) (by omega) (by omega) (by omega), wDel_T]
      exact CW_T hC (bk_lt ht hs') hq
    · subst hth
      rw [hne (w + 5) (by omega) (by omega) (by omega), hne (w + 6) (by omega) (by omega) (by omega)]
      exact CW_B (W := W) (p := p) hC
/-- the next number of the row -/
def nxt (s : Int32) : Int32 := nI 1664525 * s + nI 1013904223
def drw (s : Int32) : Int32 := jrem (jushr s (nI 8)) (nI 1000)
def sDraw (W : Wd) : Wd := wSetS W 1 (nxt (wS W 1))
def sHap (th : Bool) (W : Wd) (ch : Int32) : Bool := if th = true then decide (¬ ch < nI 500) else decide (drw (nxt (wS W 1)) < ch)
def sHapW (th : Bool) (W : Wd) : Wd := if th = true then W else sDraw W
/-- one scalar changed -/
theorem CW_setS (hC : CW th w M p W) {k : Nat} {x : Int32} (hk : k < 8) (hk2 : k ≠ 2) : CW th w (up M w (cS k) x) p (wSetS W k x) := by
  have hne : ∀ c', c' ≠ w → up M w (cS k) x c' = M c' := fun c' h => by rw [up, upR_ne _ _ h]
  have hP := CW_P hC
  have h20 := CW_20 hC
  refine ⟨⟨fun t ht => by rw [hne (w + 4) (by omega)]; exact hP t ht, h20⟩, fun q h1 h2 => ?_, ?_, fun i hi => by rw [hne (w + 1) (by omega)]; exact CW_G hC hi, fun i hi => by rw [hne (w + 2) (by omega)]; exact CW_L hC hi, fun i hi => by rw [hne (w + 3) (by omega)]; exact CW_A hC hi, fun t q ht hq => ?_, by rw [hne (w + 5) (by omega)]; exact CW_b hC, fun hth => ?_⟩
  · show up M w (cS k) x w (cS q) = upd (wS W) k x q
    by_cases h : q = k
    · subst h
      rw [up_same, upd_same]
    · have hcs : cS q ≠ cS k := by
        unfold cS
        rcases (show q = 0 ∨ q = 1 ∨ q = 3 ∨ q = 4 ∨ q = 5 ∨ q = 6 ∨ q = 7 by omega) with rfl | rfl | rfl | rfl | rfl | rfl | rfl <;> rcases (show k = 0 ∨ k = 1 ∨ k = 3 ∨ k = 4 ∨ k = 5 ∨ k = 6 ∨ k = 7 by omega) with rfl | rfl | rfl | rfl | rfl | rfl | rfl <;> first | exact absurd rfl h | decide
      rw [up_neJ _ _ _ hcs, upd_ne _ _ h]
      exact CW_S hC h1 h2
  · have hcs : 5 ≠ cS k := by
      unfold cS
      rcases (show k = 0 ∨ k = 1 ∨ k = 3 ∨ k = 4 ∨ k = 5 ∨ k = 6 ∨ k = 7 by omega) with rfl | rfl | rfl | rfl | rfl | rfl | rfl <;> decide
    rw [up_neJ _ _ _ hcs]
    exact CW_N (W := W) (p := p) hC
  · have ht' : t < wN W := ht
    have h10 := (hP t (by omega)).1
    rw [hne (p t) (by omega)]
    exact CW_T hC ht hq
  · subst hth
    rw [hne (w + 5) (by omega), hne (w + 6) (by omega)]
    exact CW_B (W := W) (p := p) hC
theorem cw_happens (hC : CW th w M p W) (ch : Int32) : ∃ M', F_World_happens w ch th M = some (sHap th W ch, M') ∧ CW th w M' p (sHapW th W) ∧ Fr [w] M M' := by
  unfold F_World_happens F_World_draw sHap sHapW
  cases th with
  | true => exact ⟨M, rfl, hC, Fr_rf _ _⟩
  | false =>
    have h6 : M w 6 = wS W 1 := CW_S hC (k := 1) (by omega) (by omega)
    refine ⟨up M w 6 (nxt (wS W 1)), ?_, CW_setS (k := 1) hC (by omega) (by omega), Fr_up (Fr_rf _ _) (by simp)⟩
    rw [if_neg Bool.false_ne_true, if_neg Bool.false_ne_true, h6, ob1_ok, ob1_ok, up_same]
    have hz : ∀ x : Int32, nz (nI 1000) x = some x := fun x => if_neg (by decide)
    rw [hz]
    rfl
end S30
