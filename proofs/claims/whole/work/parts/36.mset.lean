/-! ===== the model's row is written ===== -/
section S36
variable {th : Bool} {z : Nat} {M : mM} {W : Wd} {c : Nat} {A : LA}
theorem RM_setS (hR : RM M W) {k : Nat} {x : Int32} (hk : k < 8) (hk2 : k ≠ 2) : RM (up M 313 k x) (wSetS W k x) := by
  obtain ⟨h1, h2, h3, h4, h5, h6, h7⟩ := hR
  refine ⟨fun q q1 q2 => ?_, by rw [up_neJ _ _ _ (by omega)]; exact h2, by rw [up_neJ _ _ _ (by omega)]; exact h3, fun i hi => by rw [up_neJ _ _ _ (by omega)]; exact h4 i hi, fun i hi => by rw [up_neJ _ _ _ (by omega)]; exact h5 i hi, fun t q ht hq => by rw [up_neJ _ _ _ (by omega)]; exact h6 t q ht hq, fun j q hj hq => by rw [up_neC _ _ _ _ (by omega)]; exact h7 j q hj hq⟩
  show _ = upd (wS W) k x q
  by_cases h : q = k
  · subst h; rw [up_same, upd_same]
  · rw [up_neJ _ _ _ h, upd_ne _ _ h]; exact h1 q q1 q2
theorem RM_allG (hR : RM M W) {g : Nat → Int32} {M' : mM} (hF : Fr [313] M M') (hG : ∀ i, i < 60 → M' 313 (10 + i) = g i - nI 50) (ho : ∀ j, (j < 10 ∨ 70 ≤ j) → M' 313 j = M 313 j) : RM M' (mkW (wS W) g (wL W) (wT W) (wN W) (wB W) (wb W)) := by
  obtain ⟨h1, h2, h3, h4, h5, h6, h7⟩ := hR
  have h316 : M' 316 = M 316 := hF 316 (by simp)
  exact ⟨fun q q1 q2 => by rw [ho q (by omega)]; exact h1 q q1 q2, by rw [ho 2 (by omega)]; exact h2, by rw [ho 8 (by omega)]; exact h3, hG, fun i hi => by rw [ho _ (by omega)]; exact h5 i hi, fun t q ht hq => by rw [ho _ (by omega)]; exact h6 t q ht hq, fun j q hj hq => by rw [h316]; exact h7 j q hj hq⟩
theorem RM_setG (hR : RM M W) {i : Nat} {x : Int32} (hi : i < 60) : RM (up M 313 (10 + i) (x - nI 50)) (wSetG W i x) := by
  refine RM_allG hR (Fr_up (Fr_rf _ _) (by simp)) (fun j hj => ?_) (fun j hj => up_neJ _ _ _ (by omega))
  by_cases h : j = i
  · subst h; rw [up_same, upd_same]
  · rw [up_neJ _ _ _ (by omega), upd_ne _ _ h]; exact RM_G hR hj
theorem RM_setL (hR : RM M W) {i : Nat} {x : Int32} (hi : i < 60) : RM (up M 313 (70 + i) x) (wSetL W i x) := by
  obtain ⟨h1, h2, h3, h4, h5, h6, h7⟩ := hR
  refine ⟨fun q q1 q2 => by rw [up_neJ _ _ _ (by omega)]; exact h1 q q1 q2, by rw [up_neJ _ _ _ (by omega)]; exact h2, by rw [up_neJ _ _ _ (by omega)]; exact h3, fun j hj => by rw [up_neJ _ _ _ (by omega)]; exact h4 j hj, fun j hj => ?_, fun t q ht hq => by rw [up_neJ _ _ _ (by omega)]; exact h6 t q ht hq, fun j q hj hq => by rw [up_neC _ _ _ _ (by omega)]; exact h7 j q hj hq⟩
  show _ = upd (wL W) i x j
  by_cases h : j = i
  · subst h; rw [up_same, upd_same]
  · rw [up_neJ _ _ _ (by omega), upd_ne _ _ h]; exact h5 j hj
theorem RM_setT (hR : RM M W) {t k : Nat} {x : Int32} (hk : k < 7) : RM (up M 313 (130 + 7 * t + k) x) (wSetT W t k x) := by
  obtain ⟨h1, h2, h3, h4, h5, h6, h7⟩ := hR
  refine ⟨fun q q1 q2 => by rw [up_neJ _ _ _ (by omega)]; exact h1 q q1 q2, by rw [up_neJ _ _ _ (by omega)]; exact h2, by rw [up_neJ _ _ _ (by omega)]; exact h3, fun j hj => by rw [up_neJ _ _ _ (by omega)]; exact h4 j hj, fun j hj => by rw [up_neJ _ _ _ (by omega)]; exact h5 j hj, fun s q hs hq => ?_, fun j q hj hq => by rw [up_neC _ _ _ _ (by omega)]; exact h7 j q hj hq⟩
  show _ = upT (wT W) t k x s q
  by_cases h : s = t ∧ q = k
  · obtain ⟨rfl, rfl⟩ := h
    rw [up_same, upT_same]
  · rw [up_neJ _ _ _ (by omega), upT_ne (by omega)]
    exact h6 s q hs hq
theorem mm_hasGlue (hR : RM M W) {i : Nat} (hi : i < 60) {g a : Nat} (hg : g ≤ 99) (ha : a ≤ 99) : F_Mod_hasGlue (nI i) (nI g - nI a) M = some (up M 313 (10 + i) (sMx (nI g - nI a) - nI 50)) := by
  have e : (nI g - nI a).toInt = (g : Int) - a := by
    rw [Int32.toInt_sub, nI_toInt (by omega), nI_toInt (by omega)]
    exact Int.bmod_eq_of_le (by omega) (by omega)
  have h1 : F_Math_min (nI g - nI a) (nI 99) = nI g - nI a := by
    unfold F_Math_min
    rw [if_neg]
    rw [Int32.lt_iff_toInt_lt, e, nI_toInt (by omega)]
    omega
  unfold F_Mod_hasGlue
  rw [clamp_eq (by omega), h1, nadd, ob1_ok, wa_ok (by omega) (by omega), ob1_ok]
  rfl
theorem mm_notes (hR : RM M W) (h150 : wb W ≤ 150) (hth : M 312 5 = bI th) (a b e : Int32) : ∃ M', F_Mod_notes a b e M = some M' ∧ RM M' (wNoteT th W a b e) ∧ Fr [313, 316] M M' := by
  unfold F_Mod_notes
  rw [hth]
  cases th with
  | true =>
    rw [if_pos (show ¬ bI true = nI 0 by decide), ob1_ok, if_pos rfl]
    exact ⟨M, rfl, hR, Fr_rf _ _⟩
  | false =>
    rw [if_neg (show ¬ ¬ bI false = nI 0 by decide), ra_ok (by omega) (by omega), ob1_ok, ob1_ok, RM_b hR]
    by_cases hb : wb W = 150
    · have hW : wNoteT false W a b e = W := by
        unfold wNoteT wNote
        rw [if_neg Bool.false_ne_true, if_pos hb]
      rw [hW, if_pos (decide_eq_true (by rw [hb]))]
      exact ⟨M, rfl, hR, Fr_rf _ _⟩
    · have hW : wNoteT false W a b e = mkW (wS W) (wG W) (wL W) (wT W) (wN W) (fun j => if j = wb W then nl4 (wS W 0) a b e else wB W j) (wb W + 1) := by
        unfold wNoteT wNote
        rw [if_neg Bool.false_ne_true, if_neg hb]
      have h0 : M 313 0 = wS W 0 := RM_S hR (by omega) (by omega)
      rw [hW, if_neg (show ¬ decide (nI (wb W) = nI 150) = true from fun h => eF hb (by omega) (by omega) (of_decide_eq_true h)), ob1_ok, ra_ok (by omega) (by omega), ob1_ok, h0, nmul, wa_ok (by omega) (by omega), ob1_ok, nadd, wa_ok (by omega) (by omega), ob1_ok, nadd, wa_ok (by omega) (by omega), ob1_ok, nadd, wa_ok (by omega) (by omega), ob1_ok, ra_ok (by omega) (by omega), ob1_ok]
      have e2 : (up (up (up (up M 316 (4 * wb W) (wS W 0)) 316 (4 * wb W + 1) a) 316 (4 * wb W + 2) b) 316 (4 * wb W + 3) e) 313 = M 313 := by
        funext j
        rw [up_neC _ _ _ _ (by omega), up_neC _ _ _ _ (by omega), up_neC _ _ _ _ (by omega), up_neC _ _ _ _ (by omega)]
      rw [e2, RM_b hR, nadd, wa_ok (by omega) (by omega), ob1_ok]
      refine ⟨_, rfl, ?_, Fr_up (Fr_up (Fr_up (Fr_up (Fr_up (Fr_rf _ _) (by simp)) (by simp)) (by simp)) (by simp)) (by simp)⟩
      obtain ⟨h1, h2, h3, h4, h5, h6, h7⟩ := hR
      refine ⟨fun q q1 q2 => ?_, up_same _ _ _ _, ?_, fun i hi => ?_, fun i hi => ?_, fun t q ht hq => ?_, fun j q hj hq => ?_⟩
      · rw [up_neJ _ _ _ q2, e2]; exact h1 q q1 q2
      · rw [up_neJ _ _ _ (by omega), e2]; exact h3
      · rw [up_neJ _ _ _ (by omega), e2]; exact h4 i hi
      · rw [up_neJ _ _ _ (by omega), e2]; exact h5 i hi
      · rw [up_neJ _ _ _ (by omega), e2]; exact h6 t q ht hq
      · have hj' : j < wb W + 1 := hj
        rw [up_neC _ _ _ _ (by omega)]
        show _ = (if j = wb W then nl4 (wS W 0) a b e else wB W j) q
        by_cases h : j = wb W
        · subst h
          rw [if_pos rfl]
          unfold nl4
          rcases (show q = 0 ∨ q = 1 ∨ q = 2 ∨ q = 3 by omega) with rfl | rfl | rfl | rfl <;> simp (disch := omega) [up_same, up_neJ]
        · rw [if_neg h, up_neJ _ _ _ (by omega), up_neJ _ _ _ (by omega), up_neJ _ _ _ (by omega), up_neJ _ _ _ (by omega)]
          exact h7 j q (by omega) hq
theorem mm_isStuck (hR : RM M W) (h150 : wb W ≤ 150) (hth : M 312 5 = bI th) (hN : wN W < 20) (k s l x : Int32) : ∃ M', F_Mod_isStuck k s l x M = some (wS W 5, M') ∧ RM M' (sSettle th W k s l x) ∧ Fr [313, 316] M M' := by
  have h8 : M 313 8 = nI (wN W) := RM_N hR
  have h5 : M 313 5 = wS W 5 := RM_S hR (by omega) (by omega)
  have ha : 130 + 7 * wN W ≤ 263 := by omega
  generalize hn : 130 + 7 * wN W = n at ha
  have hn8 : 130 ≤ n := by omega
  let M7 := up (up (up (up (up (up (up M 313 n (wS W 5)) 313 (n + 1) k) 313 (n + 2) s) 313 (n + 3) l) 313 (n + 4) x) 313 (n + 5) (nI 0)) 313 (n + 6) (nI 6)
  have lo : ∀ j, j < n → M7 313 j = M 313 j := by
    intro j hj
    show up (up (up (up (up (up (up M 313 n (wS W 5)) 313 (n + 1) k) 313 (n + 2) s) 313 (n + 3) l) 313 (n + 4) x) 313 (n + 5) (nI 0)) 313 (n + 6) (nI 6) 313 j = _
    simp (disch := omega) only [up_neJ]
  let M9 := up (up M7 313 8 (nI (wN W + 1))) 313 5 (wS W 5 + nI 1)
  have hR9 : RM M9 (wAdd W k s l x) := by
    obtain ⟨h1, h2, h3, h4, h5', h6, h7⟩ := hR
    have o : ∀ j, j ≠ 5 → j ≠ 8 → M9 313 j = M7 313 j := fun j a b => by
      show up (up M7 313 8 _) 313 5 _ 313 j = _
      rw [up_neJ _ _ _ a, up_neJ _ _ _ b]
    refine ⟨fun q q1 q2 => ?_, by rw [o 2 (by omega) (by omega), lo 2 (by omega)]; exact h2, ?_, fun i hi => by rw [o _ (by omega) (by omega), lo _ (by omega)]; exact h4 i hi, fun i hi => by rw [o _ (by omega) (by omega), lo _ (by omega)]; exact h5' i hi, fun t q ht hq => ?_, fun j q hj hq => ?_⟩
    · show _ = upd (wS W) 5 (wS W 5 + nI 1) q
      by_cases hq5 : q = 5
      · subst hq5
        rw [upd_same]
        exact up_same _ _ _ _
      · rw [upd_ne _ _ hq5, o q hq5 (by omega), lo q (by omega)]
        exact h1 q q1 q2
    · show up (up M7 313 8 _) 313 5 _ 313 8 = nI (wN W + 1)
      rw [up_neJ _ _ _ (by omega), up_same]
    · have ht' : t < wN W + 1 := ht
      rw [o _ (by omega) (by omega)]
      show _ = (if t = wN W then newT (wS W 5) k s l x else wT W t) q
      by_cases h : t = wN W
      · rw [if_pos h, h, hn]
        show up (up (up (up (up (up (up M 313 n (wS W 5)) 313 (n + 1) k) 313 (n + 2) s) 313 (n + 3) l) 313 (n + 4) x) 313 (n + 5) (nI 0)) 313 (n + 6) (nI 6) 313 (n + q) = _
        rcases (show q = 0 ∨ q = 1 ∨ q = 2 ∨ q = 3 ∨ q = 4 ∨ q = 5 ∨ q = 6 by omega) with rfl | rfl | rfl | rfl | rfl | rfl | rfl <;> simp (disch := omega) [up_same, up_neJ, newT]
      · rw [if_neg h, lo _ (by omega)]
        exact h6 t q (by omega) hq
    · have e316 : M9 316 = M 316 := by
        funext i
        show up (up (up (up (up (up (up (up (up M 313 n (wS W 5)) 313 (n + 1) k) 313 (n + 2) s) 313 (n + 3) l) 313 (n + 4) x) 313 (n + 5) (nI 0)) 313 (n + 6) (nI 6)) 313 8 (nI (wN W + 1))) 313 5 (wS W 5 + nI 1) 316 i = _
        simp (disch := omega) only [up_neC]
      rw [e316]
      exact h7 j q hj hq
  have hF9 : Fr [313, 316] M M9 := Fr_up (Fr_up (Fr_up (Fr_up (Fr_up (Fr_up (Fr_up (Fr_up (Fr_up (Fr_rf _ _) (by simp)) (by simp)) (by simp)) (by simp)) (by simp)) (by simp)) (by simp)) (by simp)) (by simp)
  have e0 : M9 313 n = wS W 5 := by
    show up (up M7 313 8 _) 313 5 _ 313 n = _
    rw [up_neJ _ _ _ (by omega), up_neJ _ _ _ (by omega)]
    show up (up (up (up (up (up (up M 313 n (wS W 5)) 313 (n + 1) k) 313 (n + 2) s) 313 (n + 3) l) 313 (n + 4) x) 313 (n + 5) (nI 0)) 313 (n + 6) (nI 6) 313 n = _
    simp (disch := omega) only [up_neJ, up_same]
  obtain ⟨M', g1, g2, g3⟩ := mm_notes hR9 h150 (by rw [hF9 312 (by simp)]; exact hth) (nI 0) (wS W 5) x
  have hWN : wN (wNoteT th (wAdd W k s l x) (nI 0) (wS W 5) x) = wN W + 1 := (wNoteT_f).2.2.2.2
  have hWT : wT (wNoteT th (wAdd W k s l x) (nI 0) (wS W 5) x) = wT (wAdd W k s l x) := (wNoteT_f).2.2.2.1
  have e0' : M' 313 n = wS W 5 := by
    have := RM_T0 g2 (t := wN W) (by rw [hWN]; omega)
    rw [hn, hWT] at this
    rw [this]
    exact congrFun (show wT (wAdd W k s l x) (wN W) = newT (wS W 5) k s l x from if_pos rfl) 0
  refine ⟨M', ?_, g2, Fr_tr hF9 g3⟩
  unfold F_Mod_isStuck
  rw [ra_ok (by omega) (by omega), ob1_ok, ra_ok (by omega) (by omega), ob1_ok, h8, h5, mm_thingAt, hn, nadd, Nat.add_zero, wa_ok (by omega) (by omega), ob1_ok, nadd, wa_ok (by omega) (by omega), ob1_ok, nadd, wa_ok (by omega) (by omega), ob1_ok, nadd, wa_ok (by omega) (by omega), ob1_ok, nadd, wa_ok (by omega) (by omega), ob1_ok, nadd, wa_ok (by omega) (by omega), ob1_ok, nadd, wa_ok (by omega) (by omega), ob1_ok]
  show ob1 (ra M7 313 270 (nI 8)) _ = _
  rw [ra_ok (by omega) (by omega), ob1_ok, lo 8 (by omega), h8, nadd, wa_ok (by omega) (by omega), ob1_ok, ra_ok (by omega) (by omega), ob1_ok]
  have e5 : up M7 313 8 (nI (wN W + 1)) 313 5 = wS W 5 := by rw [up_neJ _ _ _ (by omega), lo 5 (by omega)]; exact h5
  rw [e5, wa_ok (by omega) (by omega), ob1_ok]
  show ob1 (ra M9 313 270 (nI n)) _ = _
  rw [ra_ok (by omega) (by omega), ob1_ok, e0, g1, ob1_ok, ra_ok (by omega) (by omega), ob1_ok, e0']
end S36
