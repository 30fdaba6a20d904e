/-! ===== nots, brackets: a single condition, both ways ===== -/
section SC8
variable {z n t i : Nat} {M N M' N' : mM} {tp : Nat → Nat} {d b0 b1 cc cm yc ym cn s o : Nat} {f g : En → Int32} {fs : Fs} {P0 : List Int32}
theorem b_nots (hz : 1000 ≤ z) {rc : Int32 → mM → Option (Bool × mM)} {b : Int32} (ho : o ≤ 8) (hP : P0.length ≤ 3 * o + 2) : ∀ (m k i y ym : Nat) (M N : mM), 8 - (o + k) ≤ m → o + k ≤ 8 → m < y → PZ tp n t i M N → PD N (List.replicate k (nI 9) ++ P0) → N 312 23 = nI (o + k) → 402 ≤ ym + i →
    ∃ M' N' k' ym', L_Reader_single_1 z rc y (nI (o + k)) M = some (nI (o + k'), M') ∧ AX z ym b true N = AX z ym' b true N' ∧ k ≤ k' ∧ o + k' ≤ 8 ∧ PZ tp n t (i + (k' - k)) M' N' ∧ PD N' (List.replicate k' (nI 9) ++ P0) ∧ N' 312 23 = nI (o + k') ∧ 402 ≤ ym' + (i + (k' - k)) ∧ (∀ b, FrX b M M' ∧ FrZ b N N') ∧ (M' 104 = M 104 ∧ M' 100 6 = M 100 6 ∧ N' 312 22 = N 312 22 ∧ N' 324 = N 324 ∧ N' 325 = N 325) ∧
      (o + k' = 8 ∨ ¬ ((tkA tp n (i + (k' - k))).1 = 3 ∧ 6 ≤ (tkA tp n (i + (k' - k))).2.1 ∧ (tkA tp n (i + (k' - k))).2.1 ≤ 6)) := by
  intro m
  induction m with
  | zero =>
    intro k i y ym M N hm hk hy h hD h23 hym
    obtain ⟨y, rfl⟩ : ∃ k, y = k + 1 := ⟨y - 1, by omega⟩
    refine ⟨M, N, k, ym, ?_, rfl, Nat.le_refl _, hk, by rw [Nat.sub_self]; exact h, hD, h23, by omega, fun _ => ⟨FrX_rf, FrZ_rf⟩, ⟨rfl, rfl, rfl, rfl, rfl⟩, Or.inl (by omega)⟩
    rw [L_Reader_single_1, if_neg (lF (by omega) (by omega)), ob1_ok, if_neg Bool.false_ne_true]
  | succ m ih =>
    intro k i y ym M N hm hk hy h hD h23 hym
    obtain ⟨y, rfl⟩ : ∃ k, y = k + 1 := ⟨y - 1, by omega⟩
    have ht := PZ_t h
    obtain ⟨ym, rfl⟩ : ∃ k, ym = k + 1 := ⟨ym - 1, by omega⟩
    by_cases h8 : o + k = 8
    · refine ⟨M, N, k, ym + 1, ?_, rfl, Nat.le_refl _, hk, by rw [Nat.sub_self]; exact h, hD, h23, by omega, fun _ => ⟨FrX_rf, FrZ_rf⟩, ⟨rfl, rfl, rfl, rfl, rfl⟩, Or.inl h8⟩
      rw [L_Reader_single_1, if_neg (lF (by omega) (by omega)), ob1_ok, if_neg Bool.false_ne_true]
    · have pw6 := pz_isWord h (show 6 < 100 by omega) (show 6 < 100 by omega)
      have pm6 : F_Mod_isWord (nI 6) N = decide ((tkA tp n i).1 = 3 ∧ 6 ≤ (tkA tp n i).2.1 ∧ (tkA tp n i).2.1 ≤ 6) := tw_one (by omega) (by decide) i M N h
      by_cases hw : (tkA tp n i).1 = 3 ∧ 6 ≤ (tkA tp n i).2.1 ∧ (tkA tp n i).2.1 ≤ 6
      · have hit := PZ_lt h (by omega)
        have hlen : (List.replicate k (nI 9) ++ P0).length < 40 := by
          rw [List.length_append, List.length_replicate]
          omega
        obtain ⟨N0, d0⟩ : ∃ N0, N0 = up N 312 23 (nI (o + (k + 1))) := ⟨_, rfl⟩
        have hD0 : PD N0 (List.replicate k (nI 9) ++ P0) := by
          rw [d0]
          exact ⟨by rw [up_neJ _ _ _ (by omega)]; exact hD.1, SK_congr hD.2 (fun j _ => by rw [up_neC _ _ _ _ (by omega)])⟩
        obtain ⟨N1, d1⟩ : ∃ N1, N1 = pw N0 (List.replicate k (nI 9) ++ P0).length (nI 9) := ⟨_, rfl⟩
        have hD1 : PD N1 (List.replicate (k + 1) (nI 9) ++ P0) := by
          rw [List.replicate_succ, List.cons_append, d1]
          exact PD_w hD0
        have hZ1 : PZ tp n t i M N1 := by
          rw [d1]
          refine PZ_w ?_
          rw [d0]
          exact PZ_u h (by omega)
        have keep1 : N1 324 = N 324 ∧ N1 325 = N 325 ∧ N1 312 22 = N 312 22 ∧ N1 312 23 = nI (o + (k + 1)) := by
          rw [d1, pw_keep.1, pw_keep.2.1, pw_keep.2.2.1, pw_keep.2.2.2, d0, up_same, upC (show 324 ≠ 312 by omega), upC (show 325 ≠ 312 by omega), up_neJ _ _ _ (show 22 ≠ 23 by omega)]
          exact ⟨rfl, rfl, rfl, rfl⟩
        have hF1 : ∀ b, FrZ b N N1 := fun b => by
          rw [d1, d0]
          exact FrZ_tr (FrZ_up (by omega)) FrZ_w (Nat.le_refl _)
        obtain ⟨M2, N2, s1, s2, s3, -, -, s6⟩ := x_step (z := z) hz hZ1 (by omega) 0 0
        have fX : ∀ b, FrX b M M2 := fun b => by
          obtain ⟨M2', N2', q1, q2, q3, q4, q5, q6⟩ := x_step (z := z) hz hZ1 (by omega) b b
          rw [s1] at q1
          cases q1
          exact q4
        have fY : ∀ b, FrY b N1 N2 := fun b => by
          obtain ⟨M2', N2', q1, q2, q3, q4, q5, q6⟩ := x_step (z := z) hz hZ1 (by omega) b b
          rw [s2] at q2
          cases q2
          exact q5
        obtain ⟨M', N', k', ym', e1, e2, e3, e4, e5, e6, e7, e8, e9, e10, e11⟩ := ih (k + 1) (i + 1) y ym M2 N2 (by omega) (by omega) (by omega) s3 (PD_Y hD1 (fY 0)) (by rw [(fY 0).2.1 23 (by omega) (by omega) (by omega) (by omega)]; exact keep1.2.2.2) (by omega)
        have ei : i + 1 + (k' - (k + 1)) = i + (k' - k) := by omega
        rw [ei] at e5 e8 e11
        refine ⟨M', N', k', ym', ?_, ?_, by omega, e4, e5, e6, e7, e8, fun b => ⟨FrX_tr (fX b) (e9 b).1 (Nat.le_refl _), FrZ_tr (hF1 b) (FrZ_tr (FrZ_Y (fY b)) (e9 b).2 (Nat.le_refl _)) (Nat.le_refl _)⟩, ?_, e11⟩
        · rw [L_Reader_single_1, if_pos (lT (by omega) (by omega)), pw6, ob1_ok, ob1_ok, if_pos (decide_eq_true hw), s1, ob2_ok, nadd (o + k) 1]
          exact e1
        · rw [AX_due, pm6, if_pos (Or.inl (decide_eq_true hw)), h23, if_neg (eF h8 (by omega) (by omega)), nadd (o + k) 1, ob1_ok, if_neg (fun e => e (decide_eq_true hw)), ob1_ok, if_pos (decide_eq_true hw), show o + k + 1 = o + (k + 1) by omega, ← d0, m_waits hD0 hlen, ob1_ok, ← d1, s2, ob1_ok]
          exact e2
        · obtain ⟨x1, x2, x3, x4, x5⟩ := e10
          obtain ⟨w1, w2, w3, w4, w5⟩ := s6
          exact ⟨x1.trans w1, x2.trans w2, x3.trans (w3.trans keep1.2.2.1), x4.trans (w4.trans keep1.1), x5.trans (w5.trans keep1.2.1)⟩
      · refine ⟨M, N, k, ym + 1, ?_, rfl, Nat.le_refl _, hk, by rw [Nat.sub_self]; exact h, hD, h23, by omega, fun _ => ⟨FrX_rf, FrZ_rf⟩, ⟨rfl, rfl, rfl, rfl, rfl⟩, Or.inr (by rw [Nat.sub_self, Nat.add_zero]; exact hw)⟩
        rw [L_Reader_single_1, if_pos (lT (by omega) (by omega)), pw6, ob1_ok, ob1_ok, if_neg (fun e => hw (of_decide_eq_true e))]
theorem odd_ok : ∀ k, k < 9 → jrem (nI k) (nI 2) = nI (k % 2) := by decide +kernel
/-- the class drops pairs of nots -/
theorem b_fin {k : Nat} (ho : o + k ≤ 8) (h : PZ tp n t i M N) (h6 : M 100 6 = nI cc) (hR : RunC (M 104) b0 cc d (g :: fs)) (h22 : N 312 22 = nI (cm + k)) (hRM : RunM (dr N 324) (dr N 325) b1 (cm + k) ((fun env => nt k (g env)) :: fs)) (hB : Bit g) (hcc : cc + k + s ≤ i) (hcm : cm + k + s ≤ i) :
    ∃ M' g' cc', cKj (nI o) (nI (o + k)) M = some (true, M') ∧ FrX cc M M' ∧ PZ tp n t i M' N ∧ XSt d b0 b1 cc' (cm + k) (g' :: fs) M' N ∧ Bit g' ∧ cc ≤ cc' ∧ cc' + s ≤ i := by
  have ht := PZ_t h
  unfold cKj
  rw [nsb (by omega), show o + k - o = k by omega, odd_ok k (by omega)]
  have hbit : ∀ env, nt k (g env) = if k % 2 = 0 then g env else nI 1 - g env := fun env => (nt_bit k (g env) (hB env)).1
  by_cases hk : k % 2 = 0
  · refine ⟨M, g, cc, ?_, FrX_rf, h, ⟨h6, h22, hR, ?_⟩, hB, Nat.le_refl _, by omega⟩
    · rw [hk, if_pos rfl, ob2_ok]
    · have e : (fun env => nt k (g env)) = g := funext fun env => by rw [hbit env, if_pos hk]
      rw [e] at hRM
      exact hRM
  · have hk1 : k % 2 = 1 := by omega
    have e : (fun env => nt k (g env)) = fun env => nI 1 - g env := funext fun env => by rw [hbit env, if_neg hk]
    rw [e] at hRM
    refine ⟨ec M cc (nI 11008), fun env => nI 1 - g env, cc + 1, ?_, FrX_e (Nat.le_refl _), PZ_cg h (fun c' hc => by unfold ec; rw [upC (by omega), upC (by omega)]) (fun j hj => by unfold ec; rw [up_neJ _ _ _ (by omega), up_neC _ _ _ _ (by omega)]) (fun _ _ => rfl) (fun _ _ _ => rfl), ⟨by unfold ec; rw [up_same], h22, ?_, hRM⟩, fun env => ?_, by omega, by omega⟩
    · rw [hk1, if_neg (eF (by omega) (by omega) (by omega)), em_c h6 (by omega), ob2_ok, ob2_ok]
    · have e2 : ec M cc (nI 11008) 104 cc = nI 11008 := by unfold ec; rw [up_neC _ _ _ _ (by omega), up_same]
      refine RunC_one (RunC_cg hR (fun j _ p => ?_)) (fun env st hst => ?_)
      · unfold ec
        rw [up_neC _ _ _ _ (by omega), up_neJ _ _ _ (by omega)]
      · rw [e2]
        refine cst_not.trans ?_
        have : (if g env = nI 0 then nI 1 else nI 0) = nI 1 - g env := by
          rcases hB env with e | e
          · rw [e]; decide
          · rw [e]; decide
        rw [this]
        rfl
    · show nI 1 - g env = nI 0 ∨ nI 1 - g env = nI 1
      rcases hB env with e | e
      · rw [e]; exact Or.inr (by decide)
      · rw [e]; exact Or.inl (by decide)
end SC8
