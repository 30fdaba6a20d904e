/-! ===== conditions with and, or: both ways ===== -/
section SD0
variable {z n t i : Nat} {M N M' N' : mM} {tp : Nat → Nat} {d b0 b1 cc cm y yy ym cn s o bk : Nat} {f g : En → Int32} {fs : Fs} {P P1 : List Int32} {b : Int32}
theorem and_bit {x y : Int32} (hx : x = nI 0 ∨ x = nI 1) (hy : y = nI 0 ∨ y = nI 1) : F_Mod_twoOf (nI 10) x y = some (F_Law_joined (nI 11006) x y) ∧ (F_Law_joined (nI 11006) x y = nI 0 ∨ F_Law_joined (nI 11006) x y = nI 1) := by
  rcases hx with rfl | rfl <;> rcases hy with rfl | rfl <;> decide
theorem or_bit {x y : Int32} (hx : x = nI 0 ∨ x = nI 1) (hy : y = nI 0 ∨ y = nI 1) : F_Mod_twoOf (nI 11) x y = some (F_Law_joined (nI 11007) x y) ∧ (F_Law_joined (nI 11007) x y = nI 0 ∨ F_Law_joined (nI 11007) x y = nI 1) := by
  rcases hx with rfl | rfl <;> rcases hy with rfl | rfl <;> decide
theorem settle_eq {w : Int32} (hz : 1000 ≤ z) (h : PD N (w :: P)) (ht : topNe P w) (hw : w ≠ nI 9) (hl : P.length < 40) (h22 : N 312 22 = nI cm) (hc : cm < 400) : F_Mod_settles z w N = some (popE N P.length cm w) := by
  obtain ⟨z', rfl⟩ : ∃ k, z = k + 2 := ⟨z - 2, by omega⟩
  unfold F_Mod_settles
  rw [set_eq h hl h22 hc, if_neg hw, set_ne (PD_p h) ht (by omega), ob1_ok]
theorem p_word {l : Nat} {w k : Int32} : F_Mod_isWord k (popE N l cm w) = F_Mod_isWord k N := by
  unfold F_Mod_isWord popE en
  rw [up_neJ _ _ _ (show 11 ≠ 22 by omega), up_neC _ _ _ _ (show 312 ≠ 325 by omega), up_neC _ _ _ _ (show 312 ≠ 324 by omega), up_neJ _ _ _ (show 11 ≠ 25 by omega), up_neJ _ _ _ (show 12 ≠ 22 by omega), up_neC _ _ _ _ (show 312 ≠ 325 by omega), up_neC _ _ _ _ (show 312 ≠ 324 by omega), up_neJ _ _ _ (show 12 ≠ 25 by omega)]
theorem AX_10 (hz : 1000 ≤ z) (h : PD N (nI 10 :: P)) (ht : topNe P (nI 10)) (hl : P.length < 40) (h22 : N 312 22 = nI cm) (hc : cm < 400) : AX z (y + 1) b false N = AX z (y + 1) b false (popE N P.length cm (nI 10)) := by
  rw [AX_off, AX_off, p_word, p_word, settle_eq hz h ht (by decide) hl h22 hc, settle_ne (PD_p h) ht (by omega) (by omega)]
theorem AX_11 (hz : 1000 ≤ z) (h : PD N (nI 11 :: P)) (ht : topNe P (nI 11)) (ht' : topNe P (nI 10)) (hl : P.length < 40) (h22 : N 312 22 = nI cm) (hc : cm < 400) (h5 : ¬ F_Mod_isWord (nI 5) N = true) : AX z (y + 1) b false N = AX z (y + 1) b false (popE N P.length cm (nI 11)) := by
  rw [AX_off, AX_off, p_word, p_word, if_neg h5, if_neg h5, settle_ne h (fun p P' e => by cases e; decide) (by simp only [List.length_cons]; omega) (by omega), settle_ne (w := nI 10) (PD_p h) ht' (by omega) (by omega), ob1_ok, ob1_ok, ob1_ok, ob1_ok, settle_eq hz h ht (by decide) hl h22 hc, settle_ne (PD_p h) ht (by omega) (by omega)]
theorem b_ands (hz : 1000 ≤ z) (hC : CondOK z n t tp yy) (ho : o ≤ 8) (hy : 11 ≤ yy + o) (hP : P1.length ≤ 3 * o + 1) (ht10 : topNe P1 (nI 10)) (hbk : bk ≤ o) (hd : fs.length + (21 - 2 * o) ≤ d) (hd2 : d ≤ 64) (kt : mM → Option (Bool × mM)) : ∀ (m i cc cm y mm ym : Nat) (g : En → Int32) (M N : mM), t - i ≤ m → PZ tp n t i M N → XSt d b0 b1 cc cm (g :: fs) M N → cc + s ≤ i → cm + s ≤ i → PD N P1 → N 312 23 = nI o → Bit g → 402 ≤ ym + i → mm < i → 402 ≤ y + mm →
    ∃ M' N', FrX cc M M' ∧ FrZ cm N N' ∧ ((L_Reader_condition_2 z (F_Reader_condition z yy) (nI o) kt y (nI mm) M = some (false, M') ∧ AX z ym (nI bk) false N = some (-1, N') ∧ FQ M' N') ∨
      (∃ g' i' cc' cm' ym', L_Reader_condition_2 z (F_Reader_condition z yy) (nI o) kt y (nI mm) M = kt M' ∧ AX z ym (nI bk) false N = AX z ym' (nI bk) false N' ∧ PZ tp n t i' M' N' ∧ XSt d b0 b1 cc' cm' (g' :: fs) M' N' ∧ PD N' P1 ∧ N' 312 23 = nI o ∧ Bit g' ∧ 402 ≤ ym' + i' ∧ cc ≤ cc' ∧ cm ≤ cm' ∧ cc' + s ≤ i' ∧ cm' + s ≤ i' ∧ i ≤ i' ∧
        ¬ ((tkA tp n i').1 = 3 ∧ 5 ≤ (tkA tp n i').2.1 ∧ (tkA tp n i').2.1 ≤ 5))) := by
  intro m
  induction m with
  | zero =>
    intro i cc cm y mm ym g M N hm h hx hcc hcm hD h23 hB hym hmm hyf
    have ht := PZ_t h
    obtain ⟨y, rfl⟩ : ∃ q, y = q + 1 := ⟨y - 1, by omega⟩
    have h0 : ¬ ((tkA tp n i).1 = 3 ∧ 5 ≤ (tkA tp n i).2.1 ∧ (tkA tp n i).2.1 ≤ 5) := fun e => by
      have := PZ_lt h (by omega)
      omega
    refine ⟨M, N, FrX_rf, FrZ_rf, Or.inr ⟨g, i, cc, cm, ym, ?_, rfl, h, hx, hD, h23, hB, hym, Nat.le_refl _, Nat.le_refl _, hcc, hcm, Nat.le_refl _, h0⟩⟩
    rw [L_Reader_condition_2, if_pos (lT (by omega) (by omega)), pz_isWord h (by omega) (by omega), ob1_ok, ob1_ok, if_neg (fun e => h0 (of_decide_eq_true e))]
  | succ m ih =>
    intro i cc cm y mm ym g M N hm h hx hcc hcm hD h23 hB hym hmm hyf
    have ht := PZ_t h
    obtain ⟨y, rfl⟩ : ∃ q, y = q + 1 := ⟨y - 1, by omega⟩
    by_cases h5 : (tkA tp n i).1 = 3 ∧ 5 ≤ (tkA tp n i).2.1 ∧ (tkA tp n i).2.1 ≤ 5
    · have hit := PZ_lt h (by omega)
      obtain ⟨ym, rfl⟩ : ∃ q, ym = q + 1 := ⟨ym - 1, by omega⟩
      have m5 : F_Mod_isWord (nI 5) N = true := (tw_one (by omega) (by decide) i M N h).trans (decide_eq_true h5)
      obtain ⟨N1, d1⟩ : ∃ N1, N1 = pw N P1.length (nI 10) := ⟨_, rfl⟩
      have hD1 : PD N1 (nI 10 :: P1) := by rw [d1]; exact PD_w hD
      have hZ1 : PZ tp n t i M N1 := by rw [d1]; exact PZ_w h
      have kp1 : N1 324 = N 324 ∧ N1 325 = N 325 ∧ N1 312 22 = N 312 22 ∧ N1 312 23 = N 312 23 := by rw [d1]; exact pw_keep
      have hF1 : FrZ cm N N1 := by rw [d1]; exact FrZ_w
      obtain ⟨M2, N2, s1, s2, s3, s4, s5, s6⟩ := x_step (z := z) hz hZ1 (by omega) cc cm
      have hx2 : XSt d b0 b1 cc cm (g :: fs) M2 N2 := XSt_st (XSt_st hx ⟨rfl, rfl, kp1.2.2.1, kp1.1, kp1.2.1⟩) s6
      obtain ⟨M3, N3, c1, c2, c3⟩ := b_single (z := z) (s := s + 1) (bk := bk) (ym := ym) hz hC ho hy s3 hx2 (by simp only [List.length_cons]; omega) hd2 (by omega) (by omega) (PD_Y hD1 s5) (by simp only [List.length_cons]; omega) (fun p P' e => by cases e; decide) (by rw [s5.2.1 23 (by omega) (by omega) (by omega) (by omega), kp1.2.2.2]; exact h23) hbk (by omega)
      have fX3 := FrX_tr s4 c1 (Nat.le_refl _)
      have fZ3 := FrZ_tr hF1 (FrZ_tr (FrZ_Y s5) c2 (Nat.le_refl _)) (Nat.le_refl _)
      have eC : ∀ {v : Bool} {M5 : mM}, F_Reader_single z (F_Reader_condition z yy) (nI o) M2 = some (v, M5) → L_Reader_condition_2 z (F_Reader_condition z yy) (nI o) kt (y + 1) (nI mm) M = if (!v) = true then some (false, M5) else ob2 (F_Reader_emit (nI 11006) M5) fun v38 M39 => L_Reader_condition_2 z (F_Reader_condition z yy) (nI o) kt y (nI (mm + 1)) M39 := by
        intro v M5 hv
        rw [L_Reader_condition_2, if_pos (lT (by omega) (by omega)), pz_isWord h (by omega) (by omega), ob1_ok, ob1_ok, if_pos (decide_eq_true h5), s1, ob2_ok, hv, ob2_ok, ob2_ok, ob2_ok, nadd mm 1]
      have eM : AX z (ym + 1) (nI bk) false N = AX z ym (nI bk) true N2 := by
        rw [AX_off, if_pos m5, settle_ne hD ht10 (by omega) (by omega), ob1_ok, m_waits hD (by omega), ob1_ok, ← d1, s2, ob1_ok]
      rw [eM]
      rcases c3 with ⟨r1, r2, r3⟩ | ⟨g2, j, cc', cm', ym2, r1, r2, r3, r4, r5, r6, r7, r8, r9, r10, r11, r12, r13⟩
      · refine ⟨M3, N3, fX3, fZ3, Or.inl ⟨?_, r2, r3⟩⟩
        rw [eC r1, if_pos (show (!false) = true from rfl)]
      have htj := PZ_t r3
      obtain ⟨ym2, rfl⟩ : ∃ q, ym2 = q + 1 := ⟨ym2 - 1, by omega⟩
      have hx4 : XSt d b0 b1 (cc' + 1) (cm' + 1) ((fun env => F_Law_joined (nI 11006) (g env) (g2 env)) :: fs) (ec M3 cc' (nI 11006)) (popE N3 P1.length cm' (nI 10)) :=
        ⟨by unfold ec; rw [up_same], p22.1, XStc r4 (fun env st hst => cst_two (by omega) (by omega)), RM_p r4.2.2.2 (fun env st => mst_two (by omega) (by omega) (by omega) (and_bit (hB env) (r7 env)).1)⟩
      have hZ4 : PZ tp n t j (ec M3 cc' (nI 11006)) (popE N3 P1.length cm' (nI 10)) := PZ_e (PZ_u r3 (by omega))
      obtain ⟨M6, N6, q1, q2, q3⟩ := ih j (cc' + 1) (cm' + 1) y (mm + 1) (ym2 + 1) (fun env => F_Law_joined (nI 11006) (g env) (g2 env)) (ec M3 cc' (nI 11006)) (popE N3 P1.length cm' (nI 10)) (by omega) hZ4 hx4 (by omega) (by omega) (PD_p r5) (by rw [p22.2]; exact r6) (fun env => (and_bit (hB env) (r7 env)).2) (by omega) (by omega) (by omega)
      refine ⟨M6, N6, FrX_tr fX3 (FrX_tr (FrX_e (b := cc) (by omega)) q1 (by omega)) (Nat.le_refl _), FrZ_tr fZ3 (FrZ_tr (FrZ_p (b := cm) (by omega)) q2 (by omega)) (Nat.le_refl _), ?_⟩
      rw [eC r1, if_neg (show ¬ (!true) = true from Bool.false_ne_true), em_c r4.1 (by omega), ob2_ok, r2, AX_10 hz r5 ht10 (by omega) r4.2.1 (by omega)]
      rcases q3 with q3 | ⟨g', i', cc2, cm2, ym3, w1, w2, w3, w4, w5, w6, w7, w8, w9, w10, w11, w12, w13, w14⟩
      · exact Or.inl q3
      · exact Or.inr ⟨g', i', cc2, cm2, ym3, w1, w2, w3, w4, w5, w6, w7, w8, by omega, by omega, w11, w12, by omega, w14⟩
    · refine ⟨M, N, FrX_rf, FrZ_rf, Or.inr ⟨g, i, cc, cm, ym, ?_, rfl, h, hx, hD, h23, hB, hym, Nat.le_refl _, Nat.le_refl _, hcc, hcm, Nat.le_refl _, h5⟩⟩
      rw [L_Reader_condition_2, if_pos (lT (by omega) (by omega)), pz_isWord h (by omega) (by omega), ob1_ok, ob1_ok, if_neg (fun e => h5 (of_decide_eq_true e))]
end SD0
