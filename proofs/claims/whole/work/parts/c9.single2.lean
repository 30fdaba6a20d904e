/-! ===== a single condition, both ways, when those in brackets are right ===== -/
def CondOK (z n t : Nat) (tp : Nat → Nat) (y : Nat) : Prop := ∀ (o i cc cm ym bk d b0 b1 s : Nat) (fs : Fs) (P : List Int32) (M N : mM), o ≤ 8 → 12 ≤ y + o → PZ tp n t i M N → XSt d b0 b1 cc cm fs M N → fs.length + (22 - 2 * o) ≤ d → d ≤ 64 → cc + s ≤ i → cm + s ≤ i → PD N P → P.length ≤ 3 * o → topNe P (nI 9) → topNe P (nI 10) → topNe P (nI 11) → N 312 23 = nI o → bk ≤ o → 402 ≤ ym + i → 1 ≤ i →
  ∃ M' N', FrX cc M M' ∧ FrZ cm N N' ∧ ((F_Reader_condition z y (nI o) M = some (false, M') ∧ AX z ym (nI bk) true N = some (-1, N') ∧ FQ M' N') ∨
    (∃ g i' cc' cm' ym', F_Reader_condition z y (nI o) M = some (true, M') ∧ AX z ym (nI bk) true N = AEnd z ym' (nI bk) N' ∧ PZ tp n t i' M' N' ∧ XSt d b0 b1 cc' cm' (g :: fs) M' N' ∧ PD N' P ∧ N' 312 23 = nI o ∧ Bit g ∧ 401 ≤ ym' + i' ∧ cc ≤ cc' ∧ cm ≤ cm' ∧ cc' + s ≤ i' ∧ cm' + s ≤ i' ∧ i < i'))
section SC9
variable {z n t i : Nat} {M N M' N' : mM} {tp : Nat → Nat} {d b0 b1 cc cm y ym cn s o bk : Nat} {f g : En → Int32} {fs : Fs} {P0 : List Int32}
/-- the end of a single condition: what waits as not is settled, and the class drops pairs -/
theorem b_tail (hz : 1000 ≤ z) {k : Nat} (ho : o + k ≤ 8) (hP : P0.length ≤ 3 * o + 2) (ht9 : topNe P0 (nI 9)) (h : PZ tp n t i M N) (hx : XSt d b0 b1 cc cm (g :: fs) M N) (hB : Bit g) (hcc : cc + k + s ≤ i) (hcm : cm + k + s ≤ i) (hD : PD N (List.replicate k (nI 9) ++ P0)) (h23 : N 312 23 = nI (o + k)) :
    ∃ N', F_Mod_settles z (nI 9) N = some N' ∧ PD N' P0 ∧ N' 312 23 = nI o ∧ N' 312 22 = nI (cm + k) ∧ RunM (dr N' 324) (dr N' 325) b1 (cm + k) ((fun env => nt k (g env)) :: fs) ∧ PZ tp n t i M N' ∧ FrZ cm N N' := by
  have ht := PZ_t h
  obtain ⟨N', q1, q2, q3, q4, q5, q6, q7⟩ := set9 (z := z) ht9 k z cm g N (by omega) hD (by omega) h23 hx.2.1 (by omega) hx.2.2.2 h
  refine ⟨N', ?_, q2, q3, q4, q5, q6, q7⟩
  unfold F_Mod_settles
  rw [q1, ob1_ok]
theorem b_single (hz : 1000 ≤ z) (hC : CondOK z n t tp y) (ho : o ≤ 8) (hy : 11 ≤ y + o) (h : PZ tp n t i M N) (hx : XSt d b0 b1 cc cm fs M N) (hd : fs.length + (20 - 2 * o) ≤ d) (hd2 : d ≤ 64) (hcc : cc + s ≤ i) (hcm : cm + s ≤ i) (hD : PD N P0) (hP : P0.length ≤ 3 * o + 2) (ht9 : topNe P0 (nI 9)) (h23 : N 312 23 = nI o) (hbk : bk ≤ o) (hym : 402 ≤ ym + i) :
    ∃ M' N', FrX cc M M' ∧ FrZ cm N N' ∧ ((F_Reader_single z (F_Reader_condition z y) (nI o) M = some (false, M') ∧ AX z ym (nI bk) true N = some (-1, N') ∧ FQ M' N') ∨
      (∃ g i' cc' cm' ym', F_Reader_single z (F_Reader_condition z y) (nI o) M = some (true, M') ∧ AX z ym (nI bk) true N = AX z ym' (nI bk) false N' ∧ PZ tp n t i' M' N' ∧ XSt d b0 b1 cc' cm' (g :: fs) M' N' ∧ PD N' P0 ∧ N' 312 23 = nI o ∧ Bit g ∧ 402 ≤ ym' + i' ∧ cc ≤ cc' ∧ cm ≤ cm' ∧ cc' + s ≤ i' ∧ cm' + s ≤ i' ∧ i < i')) := by
  rw [single_eq]
  obtain ⟨M1, N1, k, ym1, e1, e2, -, e4, e5, e6, e7, e8, e9, e10, e11⟩ := b_nots (z := z) (rc := F_Reader_condition z y) (b := nI bk) hz ho hP 8 0 i z ym M N (by omega) (by omega) (by omega) h (by simpa using hD) (by simpa using h23) hym
  rw [Nat.add_zero] at e1
  rw [Nat.sub_zero] at e5 e8 e11
  have hx1 := XSt_st hx e10
  have ht := PZ_t e5
  obtain ⟨ym1, rfl⟩ : ∃ q, ym1 = q + 1 := ⟨ym1 - 1, by omega⟩
  rw [e1, ob2_ok, e2]
  obtain ⟨p1, p2⟩ := pz_isSign e5 (show 40 < 256 by omega)
  have pw6 := pz_isWord e5 (show 6 < 100 by omega) (show 6 < 100 by omega)
  have pm6 : F_Mod_isWord (nI 6) N1 = decide ((tkA tp n (i + k)).1 = 3 ∧ 6 ≤ (tkA tp n (i + k)).2.1 ∧ (tkA tp n (i + k)).2.1 ≤ 6) := tw_one (by omega) (by decide) _ M1 N1 e5
  rw [p1, ob1_ok]
  have hlen : (List.replicate k (nI 9) ++ P0).length < 40 := by
    rw [List.length_append, List.length_replicate]
    omega
  -- too deep
  by_cases hdeep : o + k = 8 ∧ (((tkA tp n (i + k)).1 = 4 ∧ (tkA tp n (i + k)).2.1 = 40) ∨ ((tkA tp n (i + k)).1 = 3 ∧ 6 ≤ (tkA tp n (i + k)).2.1 ∧ (tkA tp n (i + k)).2.1 ≤ 6))
  · obtain ⟨M2, N2, g1, g2, g3, g4, g5⟩ := x_fail e5 (nI 3) cc cm
    refine ⟨M2, N2, FrX_tr (e9 cc).1 g4 (Nat.le_refl _), FrZ_tr (e9 cm).2 (FrZ_Y g5) (Nat.le_refl _), Or.inl ⟨?_, ?_, g3⟩⟩
    · rw [if_pos (show ¬ nI (o + k) < nI 8 from lF (by omega) (by omega)), pw6]
      rcases hdeep.2 with hs | hw
      · rw [decide_eq_true hs, if_pos rfl, ob1_ok, if_pos rfl, g1, ob2_ok]
      · rw [decide_eq_false (fun e => by omega), if_neg Bool.false_ne_true, ob1_ok, decide_eq_true hw, ob1_ok, if_pos rfl, g1, ob2_ok]
    · rw [AX_due, pm6, p2, e7, hdeep.1, if_pos rfl, g2, ob2_ok]
      rcases hdeep.2 with hs | hw
      · rw [if_pos (Or.inr (decide_eq_true hs))]
      · rw [if_pos (Or.inl (decide_eq_true hw))]
  have hnot : ¬ ((tkA tp n (i + k)).1 = 3 ∧ 6 ≤ (tkA tp n (i + k)).2.1 ∧ (tkA tp n (i + k)).2.1 ≤ 6) := fun e => by
    rcases e11 with e11 | e11
    · exact hdeep ⟨e11, Or.inr e⟩
    · exact e11 e
  have hpass : (if ¬ (nI (o + k) < (nI 8)) then if decide ((tkA tp n (i + k)).1 = 4 ∧ (tkA tp n (i + k)).2.1 = 40) = true then some (true) else ob1 (F_Reader_isWord (nI 6) (nI 6) M1) fun v580 => some (v580) else some (false)) = some false := by
    by_cases h8 : o + k = 8
    · rw [if_pos (lF (by omega) (by omega)), if_neg (fun e => hdeep ⟨h8, Or.inl (of_decide_eq_true e)⟩), pw6, ob1_ok, decide_eq_false hnot]
    · rw [if_neg (fun e => e (lT (by omega) (by omega)))]
  rw [hpass, ob1_ok, if_neg Bool.false_ne_true]
  by_cases hs : (tkA tp n (i + k)).1 = 4 ∧ (tkA tp n (i + k)).2.1 = 40
  · -- a bracket
    have h8 : o + k < 8 := by
      have : ¬ o + k = 8 := fun e => hdeep ⟨e, Or.inl hs⟩
      omega
    have hit := PZ_lt e5 (by omega)
    rw [decide_eq_true hs, if_pos rfl]
    obtain ⟨N0, d0⟩ : ∃ N0, N0 = up N1 312 23 (nI (o + k + 1)) := ⟨_, rfl⟩
    have hD0 : PD N0 (List.replicate k (nI 9) ++ P0) := by
      rw [d0]
      exact ⟨by rw [up_neJ _ _ _ (by omega)]; exact e6.1, SK_congr e6.2 (fun j _ => by rw [up_neC _ _ _ _ (by omega)])⟩
    obtain ⟨N2, d2⟩ : ∃ N2, N2 = pw N0 (List.replicate k (nI 9) ++ P0).length (nI 12) := ⟨_, rfl⟩
    have hD2 : PD N2 (nI 12 :: (List.replicate k (nI 9) ++ P0)) := by
      rw [d2]
      exact PD_w hD0
    have hZ2 : PZ tp n t (i + k) M1 N2 := by
      rw [d2]
      refine PZ_w ?_
      rw [d0]
      exact PZ_u e5 (by omega)
    have keep2 : N2 324 = N1 324 ∧ N2 325 = N1 325 ∧ N2 312 22 = N1 312 22 ∧ N2 312 23 = nI (o + k + 1) := by
      rw [d2, pw_keep.1, pw_keep.2.1, pw_keep.2.2.1, pw_keep.2.2.2, d0, up_same, upC (show 324 ≠ 312 by omega), upC (show 325 ≠ 312 by omega), up_neJ _ _ _ (show 22 ≠ 23 by omega)]
      exact ⟨rfl, rfl, rfl, rfl⟩
    have hF2 : ∀ b, FrZ b N1 N2 := fun b => by
      rw [d2, d0]
      exact FrZ_tr (FrZ_up (by omega)) FrZ_w (Nat.le_refl _)
    obtain ⟨M3, N3, s1, s2, s3, s4, s5, s6⟩ := x_step (z := z) hz hZ2 (by omega) cc cm
    have hx3 : XSt d b0 b1 cc cm fs M3 N3 := XSt_st (XSt_st hx1 ⟨rfl, rfl, keep2.2.2.1, keep2.1, keep2.2.1⟩) s6
    have eM : AX z (ym1 + 1) (nI bk) true N1 = AX z ym1 (nI (bk + 1)) true N3 := by
      rw [AX_due, pm6, p2, if_pos (Or.inr (decide_eq_true hs)), e7, if_neg (eF (by omega) (by omega) (by omega)), nadd (o + k) 1, ob1_ok, if_pos (fun e => hnot (of_decide_eq_true e)), ob1_ok, nadd bk 1, if_neg (fun e => hnot (of_decide_eq_true e)), ← d0, m_waits hD0 hlen, ob1_ok, ← d2, s2, ob1_ok]
    rw [eM]
    obtain ⟨M4, N4, c1, c2, c3⟩ := hC (o + k + 1) (i + k + 1) cc cm ym1 (bk + 1) d b0 b1 (s + k) fs (nI 12 :: (List.replicate k (nI 9) ++ P0)) M3 N3 (by omega) (by omega) s3 hx3 (by omega) hd2 (by omega) (by omega) (PD_Y hD2 s5) (by simp only [List.length_cons, List.length_append, List.length_replicate]; omega)
      (fun p P' e => by cases e; decide) (fun p P' e => by cases e; decide) (fun p P' e => by cases e; decide) (by rw [s5.2.1 23 (by omega) (by omega) (by omega) (by omega)]; exact keep2.2.2.2) (by omega) (by omega) (by omega)
    have fX4 : FrX cc M M4 := FrX_tr (e9 cc).1 (FrX_tr s4 c1 (Nat.le_refl _)) (Nat.le_refl _)
    have fZ4 : FrZ cm N N4 := FrZ_tr (e9 cm).2 (FrZ_tr (hF2 cm) (FrZ_tr (FrZ_Y s5) c2 (Nat.le_refl _)) (Nat.le_refl _)) (Nat.le_refl _)
    have eBr : ∀ {v : Bool} {M5 : mM}, F_Reader_condition z y (nI (o + k + 1)) M3 = some (v, M5) → cBr (F_Reader_condition z y) (nI (o + k)) (cKj (nI o) (nI (o + k))) M1 = ob2 (ob2 (some (!v, M5)) fun x555 M557 => if x555 = true then some (true, M557) else ob2 (ob2 (F_Reader_takeSign (nI 41) M557) fun v571 M572 => some (v571, M572)) fun x568 M570 => some (!x568, M570)) fun x523 M525 => if x523 = true then some (false, M525) else cKj (nI o) (nI (o + k)) M525 := by
      intro v M5 hv
      unfold cBr
      rw [s1, ob2_ok, nadd (o + k) 1, hv, ob2_ok, ob2_ok]
    rcases c3 with ⟨r1, r2, r3⟩ | ⟨g, j, cc', cm', ym2, r1, r2, r3, r4, r5, r6, r7, r8, r9, r10, r11, r12, r13⟩
    · refine ⟨M4, N4, fX4, fZ4, Or.inl ⟨?_, r2, r3⟩⟩
      rw [eBr r1, ob2_ok, if_pos (show (!false) = true from rfl), ob2_ok, if_pos rfl]
    have htj := PZ_t r3
    obtain ⟨p3, p4⟩ := pz_isSign r3 (show 41 < 256 by omega)
    rw [eBr r1, r2, ob2_ok, if_neg (show ¬ (!true) = true from Bool.false_ne_true)]
    unfold AEnd
    rw [if_neg (eF (show bk + 1 ≠ 0 by omega) (by omega) (by omega)), p4]
    by_cases h41 : (tkA tp n j).1 = 4 ∧ (tkA tp n j).2.1 = 41
    · obtain ⟨N5, d5⟩ : ∃ N5, N5 = up (up N4 312 25 (nI (List.replicate k (nI 9) ++ P0).length)) 312 23 (nI (o + k)) := ⟨_, rfl⟩
      have hD5 : PD N5 (List.replicate k (nI 9) ++ P0) := by
        rw [d5]
        exact ⟨by rw [up_neJ _ _ _ (by omega), up_same], SK_congr r5.2.2 (fun q _ => by rw [up_neC _ _ _ _ (by omega), up_neC _ _ _ _ (by omega)])⟩
      have hZ5 : PZ tp n t j M4 N5 := by
        rw [d5]
        exact PZ_u (PZ_u r3 (by omega)) (by omega)
      have hx5 : XSt d b0 b1 cc' cm' (g :: fs) M4 N5 := by
        rw [d5]
        exact XSt_cg r4 rfl rfl (by rw [up_neJ _ _ _ (by omega), up_neJ _ _ _ (by omega)]) (by rw [upC (by omega), upC (by omega)]) (by rw [upC (by omega), upC (by omega)])
      have hF5 : ∀ b, FrZ b N4 N5 := fun b => by
        rw [d5]
        exact FrZ_tr (FrZ_up (by omega)) (FrZ_up (by omega)) (Nat.le_refl _)
      obtain ⟨N6, q1, q2, q3, q4, q5, q6, q7⟩ := b_tail (z := z) (s := s) hz (k := k) (by omega) hP ht9 hZ5 hx5 r7 (by omega) (by omega) hD5 (by rw [d5, up_same])
      obtain ⟨M7, N7, w1, w2, w3, w4, w5, w6⟩ := x_step (z := z) hz q6 (by omega) cc' (cm' + k)
      obtain ⟨M8, g', cc2, v1, v2, v3, v4, v5, v6, v7⟩ := b_fin (s := s) (k := k) (by omega) w3 (by rw [w6.2.1]; exact r4.1) (by rw [w6.1]; exact r4.2.2.1) (by rw [w6.2.2.1]; exact q4) (by unfold dr at q5 ⊢; rw [w6.2.2.2.1, w6.2.2.2.2]; exact q5) r7 (by omega) (by omega)
      refine ⟨M8, N7, FrX_tr fX4 (FrX_tr w4 v2 (Nat.le_refl _)) (by omega), FrZ_tr fZ4 (FrZ_tr (hF5 cm') (FrZ_tr q7 (FrZ_Y w5) (by omega)) (Nat.le_refl _)) (by omega), Or.inr ⟨g', j + 1, cc2, cm' + k, ym2, ?_, ?_, v3, v4, PD_Y q2 w5, ?_, v5, by omega, by omega, by omega, v7, by omega, by omega⟩⟩
      · unfold F_Reader_takeSign
        rw [p3, ob1_ok, ob1_ok, ob1_ok, decide_eq_true h41, if_neg (show ¬ (!true) = true from Bool.false_ne_true), w1, ob2_ok, ob2_ok, ob2_ok, ob2_ok, if_neg (show ¬ (!true) = true from Bool.false_ne_true)]
        exact v1
      · have hl : N4 312 25 - nI 1 = nI (List.replicate k (nI 9) ++ P0).length := by
          rw [r5.1]
          simp only [List.length_cons]
          rw [nsb (by omega), Nat.add_sub_cancel]
        rw [if_neg (fun e => e (decide_eq_true h41)), hl, ob1_ok, up_neJ _ _ _ (show 23 ≠ 25 by omega), r6, nsb (by omega), Nat.add_sub_cancel, ob1_ok, ← d5, q1, ob1_ok, w2, ob1_ok, nsb (by omega), Nat.add_sub_cancel]
      · rw [w5.2.1 23 (by omega) (by omega) (by omega) (by omega)]
        exact q3
    · obtain ⟨M5, N5, g1, g2, g3, g4, g5⟩ := x_fail r3 (nI 1) cc' cm'
      refine ⟨M5, N5, FrX_tr fX4 g4 r9, FrZ_tr fZ4 (FrZ_Y g5) r10, Or.inl ⟨?_, ?_, g3⟩⟩
      · unfold F_Reader_takeSign
        rw [p3, ob1_ok, ob1_ok, ob1_ok, decide_eq_false h41, if_pos (show (!false) = true from rfl), g1, ob2_ok, ob2_ok, ob2_ok, ob2_ok, if_pos (show (!false) = true from rfl)]
      · rw [if_pos (fun e => h41 (of_decide_eq_true e)), g2, ob2_ok]
  · -- a comparison
    rw [decide_eq_false hs, if_neg Bool.false_ne_true]
    obtain ⟨M3, N3, c1, c2, c3⟩ := b_comp (z := z) (s := s + k) hz e5 hx1 (by omega) hd2 (by omega) (by omega)
    have fX3 := FrX_tr (e9 cc).1 c1 (Nat.le_refl _)
    have fZ3 := FrZ_tr (e9 cm).2 (FrZ_Y c2) (Nat.le_refl _)
    rw [AX_due, pm6, p2, if_neg (fun e => e.elim (fun e => hnot (of_decide_eq_true e)) (fun e => hs (of_decide_eq_true e)))]
    rcases c3 with ⟨r1, r2, r3⟩ | ⟨g, j, cc', cm', r1, r2, r3, r4, r5, r6, r7, r8, r9, r10⟩
    · refine ⟨M3, N3, fX3, fZ3, Or.inl ⟨r1 _, ?_, r3⟩⟩
      rw [r2, ob2_ok, ob2_ok, if_pos (decide_eq_true rfl)]
    · obtain ⟨N6, q1, q2, q3, q4, q5, q6, q7⟩ := b_tail (z := z) (s := s) hz (k := k) (by omega) hP ht9 r3 r4 r5 (by omega) (by omega) (PD_Y e6 c2) (by rw [c2.2.1 23 (by omega) (by omega) (by omega) (by omega)]; exact e7)
      obtain ⟨M8, g', cc2, v1, v2, v3, v4, v5, v6, v7⟩ := b_fin (s := s) (k := k) (by omega) q6 r4.1 r4.2.2.1 q4 q5 r5 (by omega) (by omega)
      refine ⟨M8, N6, FrX_tr fX3 v2 (by omega), FrZ_tr fZ3 q7 (by omega), Or.inr ⟨g', j, cc2, cm' + k, ym1, ?_, ?_, v3, v4, q2, q3, v5, by omega, by omega, by omega, v7, by omega, by omega⟩⟩
      · rw [r1]
        exact v1
      · rw [r2, ob2_ok, ob2_ok, if_neg (fun e => nI_nm (show 0 < 2147483648 by omega) (of_decide_eq_true e)), q1, ob1_ok]
end SC9
