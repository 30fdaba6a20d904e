/-! ===== a day, the model's way: struggling, sliding, evening ===== -/
theorem i_tel (a b c e : Int32) : a + (b - c) + (e - b) = a + (e - c) := by grind
theorem i_one (a b : Int32) : a + nI 1 = a + (b + nI 1 - b) := by grind
theorem i_nil (a b : Int32) : a = a + (b - b) := by grind
section S38
variable {th : Bool} {z : Nat} {M : mM} {W : Wd} {c : Nat} {A : LA}
theorem freed_6 {what : Int32} {t : Nat} : wS (sFreed th W what t) 6 = wS W 6 + nI 1 := by
  show wS (wNoteT th (wSetS W 6 (wS W 6 + nI 1)) what (wT W t 0) (wT W t 4)) 6 = _
  rw [(wNoteT_f).1]
  exact upd_same (wS W) 6 (wS W 6 + nI 1)
theorem freed_N {what : Int32} {t : Nat} : wN (sFreed th W what t) = wN W - 1 := by
  show wN (wNoteT th (wSetS W 6 (wS W 6 + nI 1)) what (wT W t 0) (wT W t 4)) - 1 = _
  rw [(wNoteT_f).2.2.2.2]
  rfl
theorem leg_f {t : Nat} : wS (sLeg th W t) 6 = wS W 6 ∧ wN (sLeg th W t) = wN W := by
  unfold sLeg
  exact ⟨congrFun (wNoteT_f).1 6, (wNoteT_f).2.2.2.2⟩
theorem str_f {t : Nat} : wS (sStr th A W t).2 6 = (if (sStr th A W t).1 = true then wS W 6 + nI 1 else wS W 6) ∧ wN (sStr th A W t).2 = (if (sStr th A W t).1 = true then wN W - 1 else wN W) := by
  obtain ⟨f1, f2, f3, f4, f5⟩ := sHapW_f (th := th) (W := W)
  unfold sStr
  split
  · exact ⟨rfl, rfl⟩
  split
  · split
    · exact ⟨by rw [freed_6, f5 6 (by omega)]; rfl, by rw [freed_N, f4]; rfl⟩
    · exact ⟨by rw [leg_f.1, f5 6 (by omega)]; rfl, by rw [leg_f.2, f4]; rfl⟩
  · exact ⟨by rw [f5 6 (by omega)]; rfl, by rw [f4]; rfl⟩
theorem greater_eq (b : Int32) : F_Mod_greater (nI 0) b = sMx b := by
  unfold F_Mod_greater sMx F_Math_max
  by_cases h : b < nI 0
  · rw [if_pos h, if_neg]
    rw [Int32.lt_iff_toInt_lt] at h ⊢
    omega
  · rw [if_neg h]
    by_cases h2 : nI 0 < b
    · rw [if_pos h2]
    · rw [if_neg h2]
      rw [Int32.lt_iff_toInt_lt] at h h2
      apply Int32.toInt_inj.mp
      omega
theorem lesser_eq (a b : Int32) : F_Mod_lesser a b = F_Math_min a b := by
  unfold F_Mod_lesser F_Math_min
  by_cases h : a < b
  · rw [if_pos h, if_neg]
    rw [Int32.lt_iff_toInt_lt] at h ⊢
    omega
  · rw [if_neg h]
    by_cases h2 : b < a
    · rw [if_pos h2]
    · rw [if_neg h2]
      rw [Int32.lt_iff_toInt_lt] at h h2
      apply Int32.toInt_inj.mp
      omega
theorem mm_freed (hz : 1000 ≤ z) (hR : RM M W) (hth : M 312 5 = bI th) (hf : wf c W) {t : Nat} (ht : t < wN W) (what : Int32) : ∃ M3 M4, F_Mod_notes what (wT W t 0) (wT W t 4) (up M 313 6 (wS W 6 + nI 1)) = some M3 ∧ F_Mod_isGone z (nI t) M3 = some M4 ∧ RM M4 (sFreed th W what t) ∧ Fr FM M M4 := by
  have hR1 := RM_setS (k := 6) (x := wS W 6 + nI 1) hR (by omega) (by omega)
  have hf1 : wf c (wSetS W 6 (wS W 6 + nI 1)) := wf_setS hf (by omega)
  obtain ⟨M3, a1, a2, a3⟩ := mm_notes hR1 (wf_150 hf1) (by rw [up_neC _ _ _ _ (by omega)]; exact hth) what (wT W t 0) (wT W t 4)
  have hN : wN (wNoteT th (wSetS W 6 (wS W 6 + nI 1)) what (wT W t 0) (wT W t 4)) = wN W := (wNoteT_f).2.2.2.2
  obtain ⟨M4, b1, b2, b3⟩ := mm_isGone hz a2 (by rw [hN]; exact wf_20 hf) (t := t) (by rw [hN]; exact ht)
  exact ⟨M3, M4, a1, b1, b2, Fr_tr (Fr_up (Fr_rf _ _) (by simp)) (Fr_tr (Fr_wk a3 (fun c' h => by simp at h ⊢; omega)) (Fr_wk b3 (fun c' h => by simp at h ⊢; omega)))⟩
theorem mm_isFreed (hz : 1000 ≤ z) (hR : RM M W) (hth : M 312 5 = bI th) (hA : ML M A) (hf : wf c W) {t : Nat} (ht : t < wN W) : ∃ M', F_Mod_isFreed z (nI t) M = some ((sStr th A W t).1, M') ∧ RM M' (sStr th A W t).2 ∧ Fr FM M M' := by
  have h20 := wf_20 hf
  obtain ⟨i, hi, hat⟩ := wf_at hf ht
  obtain ⟨M2, b1, b2⟩ := mm_frees hz hR hA hf ht
  have hR2 : RM M2 W := RM_fr hR b2 (by simp) (by simp)
  have hF2 : Fr FM M M2 := Fr_wk b2 (fun c' h => by simp at h ⊢; omega)
  have hth2 : M2 312 5 = bI th := by rw [hF2 312 (by simp)]; exact hth
  obtain ⟨o, ho, eo, -⟩ := tells_nat (A := A) (x := nI 1) (env := envW W (wT W t))
  obtain ⟨f1, f2, f3, f4, f5⟩ := sHapW_f (th := th) (W := W)
  have hf3 := wf_hap (th := th) hf
  -- whether something happens, and the world then
  let hap : Bool := decide (nI 0 < nI o) && sHap th W (nI o)
  let W3 : Wd := if nI 0 < nI o then sHapW th W else W
  have draw : ∃ M3, (if ¬ M2 312 5 = nI 0 then some (decide (¬ nI 2 * nI o < nI 1000), M2) else ob2 (if nI 0 < nI o then ob2 (F_Mod_draw (nI 1000) M2) fun v72 M73 => some (decide (v72 < nI o), M73) else some (false, M2)) fun x69 M71 => some (x69, M71)) = some (hap, M3) ∧ RM M3 W3 ∧ Fr [313] M2 M3 := by
    show ∃ M3, _ = some (decide (nI 0 < nI o) && sHap th W (nI o), M3) ∧ RM M3 (if nI 0 < nI o then sHapW th W else W) ∧ _
    rw [hth2]
    cases th with
    | true =>
      refine ⟨M2, ?_, ?_, Fr_rf _ _⟩
      · rw [if_pos (show ¬ bI true = nI 0 by decide), nmul]
        unfold sHap
        rw [if_pos rfl]
        by_cases h : o < 500
        · rw [decide_eq_false (show ¬ ¬ nI (2 * o) < nI 1000 from fun q => q (lT (show 2 * o < 1000 by omega) (by omega))), decide_eq_false (show ¬ ¬ nI o < nI 500 from fun q => q (lT h (by omega))), Bool.and_false]
        · rw [decide_eq_true (lF (show 1000 ≤ 2 * o by omega) (by omega)), decide_eq_true (lF (show 500 ≤ o by omega) (by omega)), decide_eq_true (lT (by omega) (by omega))]
          rfl
      · have e : sHapW true W = W := rfl
        rw [e, ite_self]
        exact hR2
    | false =>
      rw [if_neg (show ¬ ¬ bI false = nI 0 by decide)]
      by_cases h0 : nI 0 < nI o
      · refine ⟨up M2 313 1 (nxt (wS W 1)), ?_, ?_, Fr_up (Fr_rf _ _) (by simp)⟩
        · rw [if_pos h0, mm_draw hR2, ob2_ok, ob2_ok, decide_eq_true h0]
          rfl
        · rw [if_pos h0]
          exact RM_setS (k := 1) hR2 (by omega) (by omega)
      · refine ⟨M2, ?_, ?_, Fr_rf _ _⟩
        · rw [if_neg h0, ob2_ok, decide_eq_false h0]
          rfl
        · rw [if_neg h0]
          exact hR2
  obtain ⟨M3, d1, d2, d3⟩ := draw
  have hF3 : Fr FM M M3 := Fr_tr hF2 (Fr_wk d3 (fun c' h => by simp at h ⊢; omega))
  have hth3 : M3 312 5 = bI th := by rw [hF3 312 (by simp)]; exact hth
  have hW3c : W3 = sHapW th W ∨ W3 = W := by
    by_cases h : nI 0 < nI o
    · exact Or.inl (if_pos h)
    · exact Or.inr (if_neg h)
  have g3 : wG W3 = wG W ∧ wL W3 = wL W ∧ wT W3 = wT W ∧ wN W3 = wN W := by
    rcases hW3c with e | e
    · rw [e]; exact ⟨f1, f2, f3, f4⟩
    · rw [e]; exact ⟨rfl, rfl, rfl, rfl⟩
  obtain ⟨g1, g2, g3, g4⟩ := g3
  have hf3' : wf c W3 := by
    rcases hW3c with e | e
    · rw [e]; exact hf3
    · rw [e]; exact hf
  unfold F_Mod_isFreed
  rw [b1, ob2_ok, eo, d1, ob2_ok]
  by_cases hh : hap = true
  · have h0 : nI 0 < nI o := by
      have : (decide (nI 0 < nI o) && sHap th W (nI o)) = true := hh
      rw [Bool.and_eq_true] at this
      exact of_decide_eq_true this.1
    have hs1 : sHap th W (nI o) = true := by
      have : (decide (nI 0 < nI o) && sHap th W (nI o)) = true := hh
      rw [Bool.and_eq_true] at this
      exact this.2
    have hW3 : W3 = sHapW th W := if_pos h0
    have e6 : M3 313 (130 + 7 * t + 6) = wT W t 6 := by rw [RM_T d2 (by rw [g4]; exact ht) (by omega), g3]
    rw [if_neg (show ¬ ¬ hap = true from fun h => h hh), mm_thingAt, nadd, ra_ok (by omega) (by omega), ob1_ok, ob1_ok, e6]
    by_cases hl1 : nI 1 < wT W t 6
    · have hs : sStr th A W t = (false, sLeg th (sHapW th W) t) := by
        unfold sStr
        rw [eo, if_neg (show ¬ ¬ nI 0 < nI o from fun h => h h0), hs1, if_pos rfl, if_neg (show ¬ ¬ nI 1 < wT W t 6 from fun h => h hl1)]
      rw [if_pos (decide_eq_true hl1), hs, ob1_ok, wa_ok (by omega) (by omega), ob1_ok, nadd, ra_ok (by omega) (by omega), ob1_ok, ob1_ok]
      have R4 := RM_setT d2 (t := t) (k := 6) (x := wT W t 6 - nI 1) (by omega)
      have q4 : (up M3 313 (130 + 7 * t + 6) (wT W t 6 - nI 1)) 313 (130 + 7 * t + 4) = nI i := by
        rw [up_neJ _ _ _ (by omega), RM_T d2 (by rw [g4]; exact ht) (by omega), g3, hat]
      have qL : (up M3 313 (130 + 7 * t + 6) (wT W t 6 - nI 1)) 313 (70 + i) = wL W i := by
        rw [up_neJ _ _ _ (by omega), RM_L d2 hi, g2]
      rw [q4, nadd, ra_ok (by omega) (by omega), ob1_ok, qL, wa_ok (by omega) (by omega), ob1_ok]
      have R5 := RM_setL R4 (i := i) (x := wL W i + nI 1) hi
      have q3 : (up (up M3 313 (130 + 7 * t + 6) (wT W t 6 - nI 1)) 313 (70 + i) (wL W i + nI 1)) 313 (130 + 7 * t + 3) = wT W t 3 := by
        rw [up_neJ _ _ _ (by omega), up_neJ _ _ _ (by omega), RM_T d2 (by rw [g4]; exact ht) (by omega), g3]
      rw [nadd, ra_ok (by omega) (by omega), ob1_ok, q3, greater_eq, ob1_ok, wa_ok (by omega) (by omega), ob1_ok]
      have R6 := RM_setT R5 (t := t) (k := 3) (x := sMx (wT W t 3 - nI 1)) (by omega)
      have q0' : (up (up (up M3 313 (130 + 7 * t + 6) (wT W t 6 - nI 1)) 313 (70 + i) (wL W i + nI 1)) 313 (130 + 7 * t + 3) (sMx (wT W t 3 - nI 1))) 313 (130 + 7 * t) = wT W t 0 := by
        rw [up_neJ _ _ _ (by omega), up_neJ _ _ _ (by omega), up_neJ _ _ _ (by omega), RM_T0 d2 (by rw [g4]; exact ht), g3]
      have q4' : (up (up (up M3 313 (130 + 7 * t + 6) (wT W t 6 - nI 1)) 313 (70 + i) (wL W i + nI 1)) 313 (130 + 7 * t + 3) (sMx (wT W t 3 - nI 1))) 313 (130 + 7 * t + 4) = nI i := by
        rw [up_neJ _ _ _ (by omega), up_neJ _ _ _ (by omega)]
        exact q4
      have h150 : wb (wSetT (wSetL (wSetT W3 t 6 (wT W t 6 - nI 1)) i (wL W i + nI 1)) t 3 (sMx (wT W t 3 - nI 1))) ≤ 150 := (show wb W3 ≤ 150 from wf_150 hf3')
      have FF : Fr FM M (up (up (up M3 313 (130 + 7 * t + 6) (wT W t 6 - nI 1)) 313 (70 + i) (wL W i + nI 1)) 313 (130 + 7 * t + 3) (sMx (wT W t 3 - nI 1))) := Fr_up (Fr_up (Fr_up hF3 (by simp)) (by simp)) (by simp)
      obtain ⟨M7, k1, k2, k3⟩ := mm_notes R6 h150 (by rw [FF 312 (by simp)]; exact hth) (nI 2) (wT W t 0) (nI i)
      rw [ra_ok (by omega) (by omega), ob1_ok, q0', ra_ok (by omega) (by omega), ob1_ok, q4', k1, ob1_ok]
      refine ⟨M7, rfl, ?_, Fr_tr FF (Fr_wk k3 (fun c' h => by simp at h ⊢; omega))⟩
      have hsl : sLeg th (sHapW th W) t = wNoteT th (wSetT (wSetL (wSetT W3 t 6 (wT W t 6 - nI 1)) i (wL W i + nI 1)) t 3 (sMx (wT W t 3 - nI 1))) (nI 2) (wT W t 0) (nI i) := by
        rw [hW3]
        unfold sLeg
        simp only [f3, f2, hat, nI_clamp (show i < 2 ^ 31 by omega)]
      rw [hsl]
      exact k2
    · have hs : sStr th A W t = (true, sFreed th (sHapW th W) (nI 3) t) := by
        unfold sStr
        rw [eo, if_neg (show ¬ ¬ nI 0 < nI o from fun h => h h0), hs1, if_pos rfl, if_pos hl1]
      obtain ⟨M5, M6, k1, k2, k3, k4⟩ := mm_freed hz d2 hth3 hf3' (t := t) (by rw [g4]; exact ht) (nI 3)
      have q6 : M3 313 6 = wS W3 6 := RM_S d2 (by omega) (by omega)
      have q0 : (up M3 313 6 (wS W3 6 + nI 1)) 313 (130 + 7 * t) = wT W3 t 0 := by rw [up_neJ _ _ _ (by omega), RM_T0 d2 (by rw [g4]; exact ht)]
      have q4 : (up M3 313 6 (wS W3 6 + nI 1)) 313 (130 + 7 * t + 4) = wT W3 t 4 := by rw [up_neJ _ _ _ (by omega), RM_T d2 (by rw [g4]; exact ht) (by omega)]
      rw [if_neg (show ¬ decide (nI 1 < wT W t 6) = true from fun q => hl1 (of_decide_eq_true q)), hs, ra_ok (by omega) (by omega), ob1_ok, q6, wa_ok (by omega) (by omega), ob1_ok, ra_ok (by omega) (by omega), ob1_ok, q0, nadd, ra_ok (by omega) (by omega), ob1_ok, q4, k1, ob1_ok, k2, ob1_ok]
      rw [hW3] at k3
      exact ⟨M6, rfl, k3, Fr_tr hF3 k4⟩
  · rw [if_pos hh]
    have hs : sStr th A W t = (false, W3) := by
      unfold sStr
      rw [eo]
      show _ = (false, if nI 0 < nI o then sHapW th W else W)
      by_cases h0 : nI 0 < nI o
      · have : ¬ sHap th W (nI o) = true := fun q => hh (by show (decide (nI 0 < nI o) && sHap th W (nI o)) = true; rw [decide_eq_true h0, q]; rfl)
        rw [if_neg (show ¬ ¬ nI 0 < nI o from fun h => h h0), if_neg this, if_pos h0]
      · rw [if_pos h0, if_neg h0]
    have hf0 : hap = false := Bool.not_eq_true _ ▸ hh
    rw [hs]
    exact ⟨M3, rfl, d2, hF3⟩
end S38
