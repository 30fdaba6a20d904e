/-! ===== conditions with or; all conditions: both ways ===== -/
section SD1
variable {z n t i : Nat} {M N M' N' : mM} {tp : Nat → Nat} {d b0 b1 cc cm y yy ym cn s o bk : Nat} {f g : En → Int32} {fs : Fs} {P : List Int32} {b : Int32}
theorem b_ors (hz : 1000 ≤ z) (hC : CondOK z n t tp yy) (ho : o ≤ 8) (hy : 11 ≤ yy + o) (hP : P.length ≤ 3 * o) (ht9 : topNe P (nI 9)) (ht10 : topNe P (nI 10)) (ht11 : topNe P (nI 11)) (hbk : bk ≤ o) (hd : fs.length + (22 - 2 * o) ≤ d) (hd2 : d ≤ 64) : ∀ (m i cc cm y nn ors ym : Nat) (gs : Fs) (P1 : List Int32) (M N : mM), t - i ≤ m → PZ tp n t i M N → XSt d b0 b1 cc cm gs M N → (ors = 0 ∧ gs = fs ∧ P1 = P ∧ cc + s ≤ i ∧ cm + s ≤ i ∨ 0 < ors ∧ ors ≤ nn ∧ cc + s + 1 ≤ i ∧ cm + s + 1 ≤ i ∧ ∃ a, Bit a ∧ gs = a :: fs ∧ P1 = nI 11 :: P) → PD N P1 → N 312 23 = nI o → 402 ≤ ym + i → nn < i → 402 ≤ y + nn →
    ∃ M' N', FrX cc M M' ∧ FrZ cm N N' ∧ ((L_Reader_condition_1 z (F_Reader_condition z yy) (nI o) (fun (_ : Int32) (M85 : mM) => some (false, M85)) y (nI ors) (nI nn) M = some (false, M') ∧ AX z ym (nI bk) true N = some (-1, N') ∧ FQ M' N') ∨
      (∃ g' i' cc' cm' ym', L_Reader_condition_1 z (F_Reader_condition z yy) (nI o) (fun (_ : Int32) (M85 : mM) => some (false, M85)) y (nI ors) (nI nn) M = some (true, M') ∧ AX z ym (nI bk) true N = AEnd z ym' (nI bk) N' ∧ PZ tp n t i' M' N' ∧ XSt d b0 b1 cc' cm' (g' :: fs) M' N' ∧ PD N' P ∧ N' 312 23 = nI o ∧ Bit g' ∧ 401 ≤ ym' + i' ∧ cc ≤ cc' ∧ cm ≤ cm' ∧ cc' + s ≤ i' ∧ cm' + s ≤ i' ∧ i < i')) := by
  intro m
  induction m with
  | zero =>
    intro i cc cm y nn ors ym gs P1 M N hm h hx hor hD h23 hym hnn hyf
    -- nothing at hand: both tell fault 1
    have ht := PZ_t h
    have h0 : (tkA tp n i).1 = 0 := by
      by_cases e : (tkA tp n i).1 = 0
      · exact e
      · have := PZ_lt h e
        omega
    have hlen : P1.length ≤ 3 * o + 1 ∧ gs.length ≤ fs.length + 1 ∧ topNe P1 (nI 9) := by
      rcases hor with ⟨-, h2, h3, -⟩ | ⟨-, -, -, -, a, -, h2, h3⟩
      · subst h2 h3
        exact ⟨by omega, by omega, ht9⟩
      · subst h2 h3
        exact ⟨by simp only [List.length_cons]; omega, by simp, fun p P' e => by cases e; decide⟩
    have hs : cc + s ≤ i ∧ cm + s ≤ i := by omega
    obtain ⟨y, rfl⟩ : ∃ q, y = q + 1 := ⟨y - 1, by omega⟩
    obtain ⟨M3, N3, c1, c2, c3⟩ := b_single (z := z) (s := s) (bk := bk) (ym := ym) hz hC ho hy h hx (by omega) hd2 hs.1 hs.2 hD (by omega) hlen.2.2 h23 hbk hym
    rcases c3 with ⟨r1, r2, r3⟩ | ⟨g2, j, cc', cm', ym2, r1, r2, r3, r4, r5, r6, r7, r8, r9, r10, r11, r12, r13⟩
    · refine ⟨M3, N3, c1, c2, Or.inl ⟨?_, r2, r3⟩⟩
      rw [L_Reader_condition_1, if_pos (lT (by omega) (by omega)), r1, ob2_ok, ob2_ok, ob2_ok, if_pos (show (!false) = true from rfl)]
    · have := PZ_t r3
      omega
  | succ m ih =>
    intro i cc cm y nn ors ym gs P1 M N hm h hx hor hD h23 hym hnn hyf
    have ht := PZ_t h
    have hlen : P1.length ≤ 3 * o + 1 ∧ gs.length ≤ fs.length + 1 ∧ topNe P1 (nI 9) ∧ topNe P1 (nI 10) := by
      rcases hor with ⟨-, h2, h3, -⟩ | ⟨-, -, -, -, a, -, h2, h3⟩
      · subst h2 h3
        exact ⟨by omega, by omega, ht9, ht10⟩
      · subst h2 h3
        exact ⟨by simp only [List.length_cons]; omega, by simp, fun p P' e => by cases e; decide, fun p P' e => by cases e; decide⟩
    obtain ⟨s', hs', hsl⟩ : ∃ s', cc + s' ≤ i ∧ cm + s' ≤ i ∧ s ≤ s' ∧ (0 < ors → s + 1 ≤ s') := by
      rcases hor with ⟨h1, -, -, h2, h3⟩ | ⟨h1, -, h2, h3, -⟩
      · exact ⟨s, h2, h3, Nat.le_refl _, fun e => by omega⟩
      · exact ⟨s + 1, by omega, by omega, by omega, fun _ => Nat.le_refl _⟩
    obtain ⟨y, rfl⟩ : ∃ q, y = q + 1 := ⟨y - 1, by omega⟩
    obtain ⟨M3, N3, c1, c2, c3⟩ := b_single (z := z) (s := s') (bk := bk) (ym := ym) hz hC ho hy h hx (by omega) hd2 hs' hsl.1 hD (by omega) hlen.2.2.1 h23 hbk hym
    rcases c3 with ⟨r1, r2, r3⟩ | ⟨g2, j, cc', cm', ym2, r1, r2, r3, r4, r5, r6, r7, r8, r9, r10, r11, r12, r13⟩
    · refine ⟨M3, N3, c1, c2, Or.inl ⟨?_, r2, r3⟩⟩
      rw [L_Reader_condition_1, if_pos (lT (by omega) (by omega)), r1, ob2_ok, ob2_ok, ob2_ok, if_pos (show (!false) = true from rfl)]
    rw [r2]
    -- the ands
    obtain ⟨M4, N4, a1, a2, a3⟩ := b_ands (z := z) (s := s') (fs := gs) (P1 := P1) (bk := bk) hz hC ho hy hlen.1 hlen.2.2.2 hbk (by omega) hd2 (fun (M51 : mM) =>
      ob1 (if (nI 0) < nI ors then
      ob2 (F_Reader_emit (nI 11007) M51) fun v75 M76 =>
      some (M76)
      else
      some (M51)) fun M56 =>
      ob1 (ob1 (ob1 (F_Reader_isWord (nI 4) (nI 4) M56) fun v73 =>
      some (v73)) fun x71 => some (!x71)) fun x58 =>
      if x58 = true then
      some (true, M56)
      else
      ob2 (F_Reader_step M56) fun v68 M69 =>
      L_Reader_condition_1 z (F_Reader_condition z yy) (nI o) (fun (_ : Int32) (M85 : mM) => some (false, M85)) y (nI (ors + 1)) (nI (nn + 1)) M69) (t - j) j cc' cm' z 0 ym2 g2 M3 N3 (Nat.le_refl _) r3 r4 r11 r12 r5 r6 r7 r8 (by omega) (by omega)
    have eC : L_Reader_condition_1 z (F_Reader_condition z yy) (nI o) (fun (_ : Int32) (M85 : mM) => some (false, M85)) (y + 1) (nI ors) (nI nn) M = L_Reader_condition_2 z (F_Reader_condition z yy) (nI o) (fun (M51 : mM) =>
      ob1 (if (nI 0) < nI ors then
      ob2 (F_Reader_emit (nI 11007) M51) fun v75 M76 =>
      some (M76)
      else
      some (M51)) fun M56 =>
      ob1 (ob1 (ob1 (F_Reader_isWord (nI 4) (nI 4) M56) fun v73 =>
      some (v73)) fun x71 => some (!x71)) fun x58 =>
      if x58 = true then
      some (true, M56)
      else
      ob2 (F_Reader_step M56) fun v68 M69 =>
      L_Reader_condition_1 z (F_Reader_condition z yy) (nI o) (fun (_ : Int32) (M85 : mM) => some (false, M85)) y (nI (ors + 1)) (nI (nn + 1)) M69) z (nI 0) M3 := by
      rw [L_Reader_condition_1, if_pos (lT (by omega) (by omega)), r1, ob2_ok, ob2_ok, ob2_ok, if_neg (show ¬ (!true) = true from Bool.false_ne_true), nadd ors 1, nadd nn 1]
    rw [eC]
    have fX4 := FrX_tr c1 a1 r9
    have fZ4 := FrZ_tr c2 a2 r10
    rcases a3 with ⟨w1, w2, w3⟩ | ⟨g3, k, dc, dm, ym3, w1, w2, w3, w4, w5, w6, w7, w8, w9, w10, w11, w12, w13, w14⟩
    · exact ⟨M4, N4, fX4, fZ4, Or.inl ⟨w1, w2, w3⟩⟩
    have htk := PZ_t w3
    rw [w1, w2]
    obtain ⟨ym3, rfl⟩ : ∃ q, ym3 = q + 1 := ⟨ym3 - 1, by omega⟩
    have m5 : ¬ F_Mod_isWord (nI 5) N4 = true := fun e => w14 (of_decide_eq_true ((tw_one (by omega) (by decide) k M4 N4 w3).symm.trans e))
    -- what waits as or is written
    obtain ⟨M5, N5, g5, ec5, em5, v1, v2, v3, v4, v5, v6, v7, v8, v9⟩ : ∃ M5 N5 g5 ec5 em5, (if (nI 0) < nI ors then ob2 (F_Reader_emit (nI 11007) M4) fun v75 M76 => some (M76) else some (M4)) = some M5 ∧
        AX z (ym3 + 1) (nI bk) false N4 = AX z (ym3 + 1) (nI bk) false N5 ∧ PZ tp n t k M5 N5 ∧ XSt d b0 b1 ec5 em5 (g5 :: fs) M5 N5 ∧ PD N5 P ∧ N5 312 23 = nI o ∧ Bit g5 ∧ (FrX dc M4 M5 ∧ FrZ dm N4 N5 ∧ F_Mod_isWord (nI 5) N5 = F_Mod_isWord (nI 5) N4) ∧ (dc ≤ ec5 ∧ dm ≤ em5 ∧ ec5 + s ≤ k ∧ em5 + s ≤ k) := by
      rcases hor with ⟨h1, h2, h3, -⟩ | ⟨h1, h1', -, -, a, ha, h2, h3⟩
      · subst h1 h2 h3
        exact ⟨M4, N4, g3, dc, dm, if_neg (lF (by omega) (by omega)), rfl, w3, w4, w5, w6, w7, ⟨FrX_rf, FrZ_rf, rfl⟩, Nat.le_refl _, Nat.le_refl _, by omega, by omega⟩
      · subst h2 h3
        have hs1 := hsl.2.2 h1
        refine ⟨ec M4 dc (nI 11007), popE N4 P.length dm (nI 11), fun env => F_Law_joined (nI 11007) (a env) (g3 env), dc + 1, dm + 1, ?_, AX_11 hz w5 ht11 ht10 (by omega) w4.2.1 (by omega) m5, PZ_e (PZ_u w3 (by omega)), ⟨by unfold ec; rw [up_same], p22.1, XStc w4 (fun env st hst => cst_two (by omega) (by omega)), RM_p w4.2.2.2 (fun env st => mst_two (by omega) (by omega) (by omega) (or_bit (ha env) (w7 env)).1)⟩, PD_p w5, by rw [p22.2]; exact w6, fun env => (or_bit (ha env) (w7 env)).2, ⟨FrX_e (Nat.le_refl _), FrZ_p (Nat.le_refl _), p_word⟩, by omega, by omega, by omega, by omega⟩
        rw [if_pos (lT h1 (by omega)), em_c w4.1 (by omega), ob2_ok]
    rw [v1, ob1_ok, v2]
    have fX5 := FrX_tr fX4 v8.1 (by omega)
    have fZ5 := FrZ_tr fZ4 v8.2.1 (by omega)
    have m5' : ¬ F_Mod_isWord (nI 5) N5 = true := by rw [v8.2.2]; exact m5
    have pw4 := pz_isWord v3 (show 4 < 100 by omega) (show 4 < 100 by omega)
    have pm4 : F_Mod_isWord (nI 4) N5 = decide ((tkA tp n k).1 = 3 ∧ 4 ≤ (tkA tp n k).2.1 ∧ (tkA tp n k).2.1 ≤ 4) := tw_one (by omega) (by decide) k M5 N5 v3
    rw [pw4, ob1_ok, ob1_ok, ob1_ok, AX_off, if_neg m5', pm4, settle_ne v5 ht10 (by omega) (by omega), ob1_ok, ob1_ok, settle_ne v5 ht11 (by omega) (by omega), ob1_ok, ob1_ok]
    by_cases h4 : (tkA tp n k).1 = 3 ∧ 4 ≤ (tkA tp n k).2.1 ∧ (tkA tp n k).2.1 ≤ 4
    · have hkt := PZ_lt v3 (by omega)
      obtain ⟨N6, d6⟩ : ∃ N6, N6 = pw N5 P.length (nI 11) := ⟨_, rfl⟩
      have hD6 : PD N6 (nI 11 :: P) := by rw [d6]; exact PD_w v5
      have hZ6 : PZ tp n t k M5 N6 := by rw [d6]; exact PZ_w v3
      have kp6 : N6 324 = N5 324 ∧ N6 325 = N5 325 ∧ N6 312 22 = N5 312 22 ∧ N6 312 23 = N5 312 23 := by rw [d6]; exact pw_keep
      have hF6 : FrZ cm N5 N6 := by rw [d6]; exact FrZ_w
      obtain ⟨M7, N7, s1, s2, s3, s4, s5, s6⟩ := x_step (z := z) hz hZ6 (by omega) cc cm
      have hx7 : XSt d b0 b1 ec5 em5 (g5 :: fs) M7 N7 := XSt_st (XSt_st v4 ⟨rfl, rfl, kp6.2.2.1, kp6.1, kp6.2.1⟩) s6
      obtain ⟨M8, N8, q1, q2, q3⟩ := ih (k + 1) ec5 em5 y (nn + 1) (ors + 1) ym3 (g5 :: fs) (nI 11 :: P) M7 N7 (by omega) s3 hx7 (Or.inr ⟨by omega, (by rcases hor with h | h <;> omega), by omega, by omega, g5, v7, rfl, rfl⟩) (PD_Y hD6 s5) (by rw [s5.2.1 23 (by omega) (by omega) (by omega) (by omega), kp6.2.2.2]; exact v6) (by omega) (by omega) (by omega)
      refine ⟨M8, N8, FrX_tr fX5 (FrX_tr s4 q1 (by omega)) (Nat.le_refl _), FrZ_tr fZ5 (FrZ_tr hF6 (FrZ_tr (FrZ_Y s5) q2 (by omega)) (Nat.le_refl _)) (Nat.le_refl _), ?_⟩
      rw [decide_eq_true h4, if_neg (show ¬ (!true) = true from Bool.false_ne_true), s1, ob2_ok, if_pos rfl, m_waits v5 (by omega), ob1_ok, ← d6, s2, ob1_ok]
      rcases q3 with q3 | ⟨g', i', cc2, cm2, ym4, x1, x2, x3, x4, x5, x6, x7, x8, x9, x10, x11, x12, x13⟩
      · exact Or.inl q3
      · exact Or.inr ⟨g', i', cc2, cm2, ym4, x1, x2, x3, x4, x5, x6, x7, x8, by omega, by omega, x11, x12, by omega⟩
    · refine ⟨M5, N5, fX5, fZ5, Or.inr ⟨g5, k, ec5, em5, ym3, ?_, ?_, v3, v4, v5, v6, v7, by omega, by omega, by omega, v9.2.2.1, v9.2.2.2, by omega⟩⟩
      · rw [decide_eq_false h4, if_pos (show (!false) = true from rfl)]
      · rw [decide_eq_false h4, if_neg Bool.false_ne_true]
theorem cond_all (hz : 1000 ≤ z) : ∀ yy, CondOK z n t tp yy := by
  intro yy
  induction yy with
  | zero =>
    intro o i cc cm ym bk d b0 b1 s fs P M N ho hy
    omega
  | succ yy ih =>
    intro o i cc cm ym bk d b0 b1 s fs P M N ho hy h hx hd hd2 hcc hcm hD hP ht9 ht10 ht11 h23 hbk hym hi
    have e : F_Reader_condition z (yy + 1) (nI o) M = L_Reader_condition_1 z (F_Reader_condition z yy) (nI o) (fun (_ : Int32) (M85 : mM) => some (false, M85)) z (nI 0) (nI 0) M := rfl
    rw [e]
    exact b_ors hz ih ho (by omega) hP ht9 ht10 ht11 hbk hd hd2 (t - i) i cc cm z 0 0 ym fs P M N (Nat.le_refl _) h hx (Or.inl ⟨rfl, rfl, rfl, hcc, hcm⟩) hD h23 hym (by omega) (by omega)
end SD1
