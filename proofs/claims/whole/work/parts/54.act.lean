/-! ===== what is done by hand: act, both ways ===== -/
def sTw (W : Wd) (t : Nat) : Wd := wDel (wNoteT false (wSetS W 7 (wS W 7 + nI 1)) (nI 5) (wT W t 0) (wT W t 4)) t
section S54
variable {z r : Nat} {M N : mM} {p q : Nat → Nat} {W : Wd} {P : Ps} {c : Nat}
theorem oI_some (t : Nat) : oI (some t) = nI t := rfl
theorem pre_tw {t : Nat} : pre W (sTw W t) := pre_tr (pre_cg (W' := wSetS W 7 (wS W 7 + nI 1)) rfl rfl) (pre_tr (pre_note _ _ _) (pre_cg rfl rfl))
theorem tw_N {t : Nat} {th : Bool} {a b e : Int32} : wN (wNoteT th (wSetS W 7 (wS W 7 + nI 1)) a b e) = wN W := (wNoteT_f (W := wSetS W 7 (wS W 7 + nI 1))).2.2.2.2
theorem tw_T {t : Nat} {th : Bool} {a b e : Int32} : wT (wNoteT th (wSetS W 7 (wS W 7 + nI 1)) a b e) = wT W := (wNoteT_f (W := wSetS W 7 (wS W 7 + nI 1))).2.2.2.1
theorem wf_tw (hf : wf c W) {t : Nat} (ht : t < wN W) : wf c (sTw W t) := wf_del (wf_note (wf_setS hf (by omega)) _ _ _) (by rw [tw_N (t := t)]; exact ht)
theorem cw_tweeze (hz : 100 ≤ z) (hC : CW false 1 M p W) (hf : wf c W) {t : Nat} {x : Int32} (hx : wOf W x = some t) : ∃ M' p', F_World_tweeze z 1 x M = some M' ∧ CW false 1 M' p' (sTw W t) ∧ ∀ c', ¬ inW 1 c' → M' c' = M c' := by
  obtain ⟨ht, e0⟩ := wOf_some hx
  have h20 := wf_20 hf
  have h11 : M 1 11 = wS W 7 := CW_S hC (k := 7) (by omega) (by omega)
  have C1 : CW false 1 (up M 1 11 (wS W 7 + nI 1)) p (wSetS W 7 (wS W 7 + nI 1)) := CW_setS (k := 7) hC (by omega) (by omega)
  have hat : up M 1 11 (wS W 7 + nI 1) (p t) 4 = wT W t 4 := CW_T C1 ht (by omega)
  obtain ⟨M2, a1, a2, a3⟩ := cw_write C1 (wf_150 (W := wSetS W 7 (wS W 7 + nI 1)) (wf_setS hf (by omega))) (nI 5) x (wT W t 4)
  obtain ⟨M3, b1, b2, b3⟩ := cw_remove (z := z) (t := t) hz isW_1 a2 (wf_note (wf_setS hf (by omega)) _ _ _) (by rw [tw_N (t := t)]; exact ht)
  refine ⟨M3, pDel p (wN (wNoteT false (wSetS W 7 (wS W 7 + nI 1)) (nI 5) x (wT W t 4))) t, ?_, ?_, fun c' h => ?_⟩
  · unfold F_World_tweeze
    rw [cw_slotOf hz isW_1 hC x, ob1_ok, hx, oI_some, if_pos (mF (by omega)), h11, ob1_ok, rT_ok isW_1 (CW_P C1) (by omega), ob1_ok, hat, a1, ob1_ok, b1, ob1_ok]
  · unfold sTw
    rw [e0]
    exact b2
  · unfold inW at h
    rw [b3 c' (by simp only [List.mem_cons, List.not_mem_nil, or_false]; omega), a3 c' (by simp only [List.mem_cons, List.not_mem_nil, or_false]; omega)]
    funext j
    exact up_neC _ _ _ _ (by omega)
theorem mm_tweeze (hz : 1000 ≤ z) (hR : RM N W) (hth : N 312 5 = bI false) (hf : wf c W) {t : Nat} {x : Int32} (hx : wOf W x = some t) : ∃ N2 N3, F_Mod_notes (nI 5) x (wT W t 4) (up N 313 7 (wS W 7 + nI 1)) = some N2 ∧ F_Mod_isGone z (nI t) N2 = some N3 ∧ RM N3 (sTw W t) ∧ Fr [313, 316] N N3 := by
  obtain ⟨ht, e0⟩ := wOf_some hx
  have R1 : RM (up N 313 7 (wS W 7 + nI 1)) (wSetS W 7 (wS W 7 + nI 1)) := RM_setS hR (by omega) (by omega)
  have t1 : up N 313 7 (wS W 7 + nI 1) 312 5 = bI false := (up_neC _ _ _ _ (by omega)).trans hth
  obtain ⟨N2, a1, a2, a3⟩ := mm_notes R1 (wf_150 (W := wSetS W 7 (wS W 7 + nI 1)) (wf_setS hf (by omega))) t1 (nI 5) x (wT W t 4)
  obtain ⟨N3, b1, b2, b3⟩ := mm_isGone (z := z) (t := t) hz a2 (by rw [tw_N (t := t)]; exact wf_20 hf) (by rw [tw_N (t := t)]; exact ht)
  refine ⟨N2, N3, a1, b1, ?_, fun c' h => ?_⟩
  · unfold sTw
    rw [e0]
    exact b2
  · simp only [List.mem_cons, List.not_mem_nil, or_false] at h
    rw [b3 c' (by simp only [List.mem_cons, List.not_mem_nil, or_false]; omega), a3 c' (by simp only [List.mem_cons, List.not_mem_nil, or_false]; omega)]
    funext j
    exact up_neC _ _ _ _ (by omega)
theorem glue_eq (hR : RM N W) {i g : Nat} (hi : i < 60) (hg : g ≤ 99) : F_Mod_hasGlue (nI i) (nI g) N = some (up N 313 (10 + i) (nI g - nI 50)) := by
  have h := mm_hasGlue hR hi hg (show 0 ≤ 99 by omega)
  rw [nsb (by omega), Nat.sub_zero] at h
  rw [h]
  unfold sMx
  rw [max0 (by omega)]
/-- the common part of both acts: the world is kept, then changed -/
theorem act_end (hz : 2000 ≤ z) (hI : IA c W P) (hIC : IC M W P) (hIM : IM N W P) (hth : N 312 5 = bI false) (W' : Wd) (hw : wf c W') (hp : pre W W') :
    ∃ M1 N1 p, F_Rec_remember z M = some M1 ∧ F_Mod_keepsAhead z N = some N1 ∧ CW false 1 M1 p W ∧ RM N1 W ∧ N1 312 5 = bI false ∧
      ∀ M3 N3 p', CW false 1 M3 p' W' → (∀ c', ¬ inW 1 c' → M3 c' = M1 c') → RM N3 W' → Fr [313, 316] N1 N3 → OK5 c M M3 N N3 := by
  have hf := hI.1
  have h20 := wf_20 hf
  obtain ⟨⟨p, hC⟩, r, hP⟩ := id hIC
  obtain ⟨hR, hPM⟩ := id hIM
  obtain ⟨M1, r1, a1, a2, a3, a4⟩ := cw_remember (z := z) (by omega) hC (wf_150 hf) hP
  have C1 : CW false 1 M1 p W := CW_congr hC (fun c' hc => a3 c' (by unfold inW at hc; omega) (by unfold inW at hc; omega))
  obtain ⟨N1, f1, f2, f3, f4⟩ := mm_keepsAhead hz hR h20 hPM
  have R1 : RM N1 W := RM_congr (f3 313 (by omega) (by omega)) (f3 316 (by omega) (by omega)) hR
  have t1 : N1 312 5 = bI false := (f4 5 (by omega)).trans hth
  refine ⟨M1, N1, p, a1, f1, C1, R1, t1, fun M3 N3 p' d2 e3 g2 g3 => ?_⟩
  have e0 : M3 0 = M1 0 := e3 0 (by unfold inW; omega)
  have P3 : PC M3 r1 (sRem P W) := PC_cg a2 (fun c' h => e3 c' (by unfold inW; omega)) (by rw [e0]) (by rw [e0])
  have IA1 := IA_rem hI
  have PM2 : PM N3 (sRem P W) := PM_on f2 R1 g2 IA1.2.1 hp (by rw [g3 312 (by simp)]) (g3 314 (by simp))
  refine ⟨W', sRem P W, IA_on IA1 hp (wf_mono hw (by omega)) (by omega), ⟨⟨p', d2⟩, r1, P3⟩, ⟨g2, PM2⟩, ⟨fun c' h1 h2 h3 h4 => ?_, fun j h1 h2 => ?_⟩, fun c' h => ?_, fun j h => ?_⟩
  · rw [e3 c' h2, a3 c' h1 h4]
  · rw [e0, a4 j h1 h2]
  · simp only [List.mem_cons, List.not_mem_nil, or_false] at h
    rw [g3 c' (by simp only [List.mem_cons, List.not_mem_nil, or_false]; omega), f3 c' (by omega) (by omega)]
  · rw [g3 312 (by simp), f4 j h]
theorem b_act (hz : 2000 ≤ z) (hI : IA c W P) (hc : c + 1000 < 2147483648) (hIC : IC M W P) (hIM : IM N W P) (hth : N 312 5 = bI false) (what who v : Int32) :
    ∃ b M' N', F_Rec_act z what who v M = some (b, M') ∧ F_Mod_act z what who v N = some (b, N') ∧ OK5 c M M' N N' := by
  have hf := hI.1
  have h20 := wf_20 hf
  obtain ⟨⟨p, hC⟩, r, hP⟩ := id hIC
  obtain ⟨hR, hPM⟩ := id hIM
  have same : OK5 c M M N N := ⟨W, P, IA_mono hI (by omega), hIC, hIM, FrD_rf M, FrN_rf N⟩
  unfold F_Rec_act F_Mod_act
  rw [isIn_eq, isIn_eq]
  by_cases h0 : what = nI 0
  · have h1 : ¬ what = nI 1 := fun h => by rw [h0] at h; exact eF (a := 0) (b := 1) (by omega) (by omega) (by omega) h
    have hn1 : ¬ (what = nI 1 ∧ (¬ F_Mod_isInch who = true ∨ ¬ F_Rec_within v (nI 0) (nI 99) = true)) := fun h => h1 h.1
    have hin : ¬ ¬ F_Rec_within what (nI 0) (nI 1) = true := fun h => h (by rw [h0]; exact rg_k (by omega) (by omega) (by omega))
    rw [if_pos h0, if_pos h0, cw_find (by omega) isW_1 hC who, ob1_ok, ob1_ok, mm_thingOf (by omega) hR h20, ob1_ok, ob1_ok]
    cases hx : wOf W who with
    | none =>
      rw [show decide (¬ (Option.map p none : Option Nat) = none) = false from decide_eq_false (fun h => h rfl), if_neg Bool.false_ne_true, if_neg (fun h => h1 h.1.1),
        show oI none = (-1 : Int32) from rfl, if_pos (show decide ((-1 : Int32) = -1) = true from rfl), ob1_ok, if_pos rfl, ob1_ok, if_pos rfl]
      exact ⟨_, M, N, rfl, rfl, same⟩
    | some t =>
      obtain ⟨ht, e0⟩ := wOf_some hx
      obtain ⟨M1, N1, p1, a1, f1, C1, R1, t1, fin⟩ := act_end hz hI hIC hIM hth (sTw W t) (wf_tw hf ht) pre_tw
      obtain ⟨M2, p2, b1, b2, b3⟩ := cw_tweeze (z := z) (by omega) C1 hf hx
      obtain ⟨N2, N3, g1, g2, g3, g4⟩ := mm_tweeze (z := z) (by omega) R1 t1 hf hx
      have e7 : N1 313 7 = wS W 7 := RM_S R1 (by omega) (by omega)
      have e4 : up N1 313 7 (wS W 7 + nI 1) 313 (130 + 7 * t + 4) = wT W t 4 := by
        rw [up_neJ _ _ _ (by omega)]
        exact RM_T R1 ht (by omega)
      refine ⟨true, M2, N3, ?_, ?_, fin M2 N3 p2 b2 b3 g3 g4⟩
      · rw [show decide (¬ (Option.map p (some t) : Option Nat) = none) = true from decide_eq_true (fun h => by cases h), if_pos rfl, a1, ob1_ok, b1, ob1_ok]
      · rw [oI_some, show decide (nI t = (-1 : Int32)) = false from decide_eq_false (mF (by omega)), if_neg Bool.false_ne_true, ob1_ok, decide_eq_false hn1, if_neg Bool.false_ne_true, ob1_ok, decide_eq_false hin, if_neg Bool.false_ne_true,
          f1, ob1_ok, if_neg h1, mm_thingOf (by omega) R1 h20, hx, ob1_ok, oI_some, ra_ok (by omega) (by omega), ob1_ok, e7, wa_ok (by omega) (by omega), ob1_ok, mm_thingAt, nadd, ra_ok (by omega) (by omega), ob1_ok, e4, g1, ob1_ok, g2, ob1_ok]
  · rw [if_neg h0, if_neg h0, ob1_ok, if_neg Bool.false_ne_true, ob1_ok, if_neg Bool.false_ne_true]
    by_cases h1 : what = nI 1
    · have hin : ¬ ¬ F_Rec_within what (nI 0) (nI 1) = true := fun h => h (by rw [h1]; exact rg_k (by omega) (by omega) (by omega))
      rw [within_inch who]
      by_cases hc1 : decide (¬ who < nI 0 ∧ who < nI 60) = true ∧ F_Rec_within v (nI 0) (nI 99) = true
      · obtain ⟨hw, hv⟩ := id hc1
        rcases inch_c who with ⟨i, hi, rfl⟩ | hx
        · obtain ⟨g, -, hg, rfl⟩ := rng_n (by omega) (by omega) (of_decide_eq_true hv)
          have hn1 : ¬ (what = nI 1 ∧ (¬ F_Mod_isInch (nI i) = true ∨ ¬ F_Rec_within (nI g) (nI 0) (nI 99) = true)) := fun h => h.2.elim (fun h => h hw) (fun h => h hv)
          obtain ⟨M1, N1, p1, a1, f1, C1, R1, t1, fin⟩ := act_end hz hI hIC hIM hth (wSetG W i (nI g)) (wf_setG hf hg) (pre_cg rfl rfl)
          have b2 := CW_setG C1 (i := i) (x := nI g)
          have g2 := RM_setG R1 (i := i) (x := nI g) hi
          refine ⟨true, up M1 2 i (nI g), up N1 313 (10 + i) (nI g - nI 50), ?_, ?_, fin _ _ p1 b2 (fun c' h => ?_) g2 (Fr_up (Fr_rf _ _) (by simp))⟩
          · rw [if_pos ⟨⟨h1, hw⟩, hv⟩, a1, ob1_ok, wa_ok (by omega) (by omega), ob1_ok]
          · rw [ob1_ok, decide_eq_false hn1, if_neg Bool.false_ne_true, ob1_ok, decide_eq_false hin, if_neg Bool.false_ne_true, f1, ob1_ok, if_pos h1, glue_eq R1 hi hg, ob1_ok]
          · funext j
            unfold inW at h
            exact up_neC _ _ _ _ (by omega)
        · exact absurd (of_decide_eq_true hw) hx
      · have hn1 : what = nI 1 ∧ (¬ F_Mod_isInch who = true ∨ ¬ F_Rec_within v (nI 0) (nI 99) = true) := by
          refine ⟨h1, ?_⟩
          by_cases h : F_Mod_isInch who = true
          · exact Or.inr (fun h2 => hc1 ⟨h, h2⟩)
          · exact Or.inl h
        rw [if_neg (fun h => hc1 ⟨h.1.2, h.2⟩), ob1_ok, decide_eq_true hn1, if_pos rfl, ob1_ok, if_pos rfl]
        exact ⟨_, M, N, rfl, rfl, same⟩
    · have hin : ¬ F_Rec_within what (nI 0) (nI 1) = true := fun h => by
        obtain ⟨k, -, hk, e⟩ := rng_n (by omega) (by omega) (of_decide_eq_true h)
        have : k = 0 ∨ k = 1 := by omega
        rcases this with rfl | rfl
        · exact h0 e
        · exact h1 e
      rw [if_neg (fun h => h1 h.1.1), ob1_ok, decide_eq_false (fun h => h1 h.1), if_neg Bool.false_ne_true, ob1_ok, decide_eq_true hin, if_pos rfl]
      exact ⟨_, M, N, rfl, rfl, same⟩
end S54
