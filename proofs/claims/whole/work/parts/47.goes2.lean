/-! ===== goes, the whole of it ===== -/
theorem rng_n {v : Int32} {a b : Nat} (ha : a < 2147483648) (hb : b < 2147483648) (h : ¬ v < nI a ∧ ¬ nI b < v) : ∃ N, a ≤ N ∧ N ≤ b ∧ v = nI N := by
  obtain ⟨h1, h2⟩ := h
  rw [Int32.lt_iff_toInt_lt, nI_toInt ha] at h1
  rw [Int32.lt_iff_toInt_lt, nI_toInt hb] at h2
  refine ⟨v.toInt.toNat, by omega, by omega, ?_⟩
  apply Int32.toInt_inj.mp
  rw [nI_toInt (by omega)]
  omega
theorem within_eq (v a b : Int32) : F_Rec_within v a b = decide (¬ v < a ∧ ¬ b < v) := rfl
theorem isIn_eq (v a b : Int32) : F_Mod_isIn v a b = F_Rec_within v a b := rfl
def vGoes (A : LA) (S F : Rw) (W : Wd) (n what : Int32) : Int32 :=
  if ¬ F_Rec_within n (nI 1) (nI 60) = true ∨ ¬ F_Rec_within what (nI 0) (nI 3) = true then -1 else sGoes (sThinkL A S F n.toNatClampNeg W) what
section S47
variable {z : Nat} {M : mM} {p q : Nat → Nat} {W : Wd} {P : Ps} {c : Nat} {A : LA} {S F : Rw}
theorem pre_think : ∀ (m : Nat) (W : Wd), pre W (sThinkL A S F m W) := by
  intro m
  induction m with
  | zero => intro W; exact pre_rf W
  | succ m ih => intro W; exact pre_tr (pre_day S F W) (ih _)
theorem wf_think (hS : okS S) (hF : okF F) : ∀ (m : Nat) (W : Wd) (c : Nat), wf c W → c + 16 * m < 2147483648 → wf (c + 16 * m) (sThinkL A S F m W) := by
  intro m
  induction m with
  | zero => intro W c h _; exact h
  | succ m ih =>
    intro W c h hc
    rw [show c + 16 * (m + 1) = c + 16 + 16 * m by omega]
    exact ih _ _ (wf_day hS hF h (by omega)) (by omega)
theorem cw_goes (hz : 1000 ≤ z) (hS : okS S) (hF : okF F) (hA : CL 29 M A) (hC : CW false 1 M p W) (hq : TP 109 M q) (hf : wf c W) (hc : c + 1000 < 2147483648) (hRS : RwS 36 M S) (hRF : RwF 34 M F) (n what : Int32) :
    ∃ M' q', F_Rec_goes z n what M = some (vGoes A S F W n what, M') ∧ TP 109 M' q' ∧ ∀ c', ¬ inW 109 c' → c' ≠ 33 → M' c' = M c' := by
  unfold F_Rec_goes vGoes
  by_cases hb : ¬ F_Rec_within n (nI 1) (nI 60) = true ∨ ¬ F_Rec_within what (nI 0) (nI 3) = true
  · rw [if_pos hb, if_pos hb]
    exact ⟨M, q, rfl, hq, fun _ _ _ => rfl⟩
  · rw [if_neg hb, if_neg hb]
    have hb1 : F_Rec_within n (nI 1) (nI 60) = true := Classical.byContradiction fun h => hb (Or.inl h)
    obtain ⟨N, n1, n2, rfl⟩ := rng_n (by omega) (by omega) (of_decide_eq_true hb1)
    rw [nI_clamp (by omega)]
    obtain ⟨M1, a1, a2, a3⟩ := cw_copy hz (show isW 109 by unfold isW; simp) (show isW 1 by unfold isW; simp) (by omega) hq hC (wf_150 hf)
    have A1 : CL 29 M1 A := CL_congr hA (fun c' h1 h2 => a3 c' (by unfold inW; omega))
    have S1 : RwS 36 M1 S := by
      unfold RwS
      rw [a3 36 (by unfold inW; omega), a3 (36 + 1) (by unfold inW; omega)]
      exact hRS
    have F1 : RwF 34 M1 F := by
      unfold RwF
      rw [a3 34 (by unfold inW; omega), a3 (34 + 1) (by unfold inW; omega)]
      exact hRF
    obtain ⟨M2, q2, b1, b2, b3⟩ := l_cGoes hz hS hF n2 N 0 z M1 q W c (by omega) (by omega) (by omega) A1 (CW_th a2) hf S1 F1
    refine ⟨M2, q2, ?_, CW_P b2, fun c' h1 h2 => by rw [b3 c' h1 h2, a3 c' h1]⟩
    rw [a1, ob1_ok, b1, ob1_ok]
    unfold sGoes
    have g1 : sumF (M2 110) 60 0 (nI 0) = sumF (wG (sThinkL A S F N W)) 60 0 (nI 0) := sumF_cg 60 0 _ (fun j _ h => CW_G b2 (by omega))
    have g2 : sumF (M2 111) 60 0 (nI 0) = sumF (wL (sThinkL A S F N W)) 60 0 (nI 0) := sumF_cg 60 0 _ (fun j _ h => CW_L b2 (by omega))
    have h5 : M2 109 5 = nI (wN (sThinkL A S F N W)) := CW_N b2
    have h10 : M2 109 10 = wS (sThinkL A S F N W) 6 := CW_S b2 (k := 6) (by omega) (by omega)
    by_cases e0 : what = nI 0
    · rw [if_pos e0, if_pos e0, h5]
    · rw [if_neg e0, if_neg e0]
      by_cases e1 : what = nI 1
      · rw [if_pos e1, if_pos e1, h10]
      · rw [if_neg e1, if_neg e1]
        by_cases e2 : what = nI 2
        · rw [if_pos e2, if_pos e2, cw_sum hz, ob1_ok, g2]
        · rw [if_neg e2, if_neg e2, cw_sum hz, ob1_ok, g1]
theorem mm_goes (hz : 1000 ≤ z) (hS : okS S) (hF : okF F) (hA : ML M A) (hR : RM M W) (hP : PM M P) (hp : preP P W) (hf : wf c W) (hc : c + 1000 < 2147483648) (hth : M 312 5 = bI false) (hDS : RMs M S) (hDF : RMf M F) (n what : Int32) :
    ∃ M', F_Mod_goes z n what M = some (vGoes A S F W n what, M') ∧ RM M' W ∧ PM M' P ∧ M' 312 = M 312 ∧ ∀ c', c' ∉ [312, 313, 315, 316, 330, 331] → M' c' = M c' := by
  unfold F_Mod_goes vGoes
  rw [isIn_eq, isIn_eq]
  by_cases hb : ¬ F_Rec_within n (nI 1) (nI 60) = true ∨ ¬ F_Rec_within what (nI 0) (nI 3) = true
  · rw [if_pos hb, if_pos hb]
    exact ⟨M, rfl, hR, hP, rfl, fun _ _ => rfl⟩
  · rw [if_neg hb, if_neg hb]
    have hb1 : F_Rec_within n (nI 1) (nI 60) = true := Classical.byContradiction fun h => hb (Or.inl h)
    obtain ⟨N, n1, n2, rfl⟩ := rng_n (by omega) (by omega) (of_decide_eq_true hb1)
    rw [nI_clamp (by omega)]
    obtain ⟨M1, a1, a2, a3, a4, a5⟩ := mm_thinks (M := M) (z := z) hz
    have A1 : ML M1 A := ML_congr hA (fun c' h1 h2 => a4 c' (by omega) (by omega))
    have R1 : RM M1 W := RM_congr (a4 313 (by omega) (by omega)) (a4 316 (by omega) (by omega)) hR
    have S1 : RMs M1 S := by
      unfold RMs
      rw [a4 328 (by omega) (by omega), a5 32 (by omega)]
      exact hDS
    have F1 : RMf M1 F := by
      unfold RMf
      rw [a4 327 (by omega) (by omega), a5 30 (by omega)]
      exact hDF
    obtain ⟨M2, b1, b2, b3⟩ := l_mGoes hz hS hF n2 N 0 z M1 W c (by omega) (by omega) (by omega) A1 R1 hf a2 S1 F1
    obtain ⟨M3, d1, d2, d3, d4, d5⟩ := mm_ends (M := M2) (z := z) hz
    have f2 := wf_think (A := A) hS hF N W c hf (by omega)
    have hpre := pre_think (A := A) (S := S) (F := F) N W
    have e316 : ∀ j k, j < wb W → k < 4 → M3 316 (4 * j + k) = M 316 (4 * j + k) := fun j k hj hk => by
      have := hpre.1
      rw [d4 316 (by omega) (by omega), RM_B b2 (by omega) hk, RM_B hR hj hk, hpre.2 j k hj hk]
    have e313 : ∀ j, j < 270 → M3 313 j = M 313 j := fun j hj => by rw [d3 j hj, b3 315 (by simp), a3 j hj]
    have e312 : M3 312 = M 312 := by
      funext j
      by_cases h5 : j = 5
      · subst h5; rw [d2, hth]
      · rw [d5 j h5, b3 312 (by simp), a5 j h5]
    have R3 : RM M3 W := RM_RR.mpr (RR_cg (RM_RR.mp hR) (wf_20 hf) e313 e316)
    refine ⟨M3, ?_, R3, ?_, e312, fun c' h => ?_⟩
    · have h8 : M2 313 8 = nI (wN (sThinkL A S F N W)) := RM_N b2
      have h6 : M2 313 6 = wS (sThinkL A S F N W) 6 := RM_S b2 (by omega) (by omega)
      rw [a1, ob1_ok, b1, ob1_ok]
      unfold sGoes F_Mod_legsOfAll F_Mod_glueOfAll
      by_cases e0 : what = nI 0
      · rw [if_pos e0, if_pos e0, ra_ok (by omega) (by omega), ob1_ok, ob1_ok, d1, ob1_ok, h8]
      · rw [if_neg e0, if_neg e0]
        by_cases e1 : what = nI 1
        · rw [if_pos e1, if_pos e1, ra_ok (by omega) (by omega), ob1_ok, ob1_ok, ob1_ok, d1, ob1_ok, h6]
        · rw [if_neg e1, if_neg e1]
          by_cases e2 : what = nI 2
          · rw [if_pos e2, if_pos e2, l_msumL b2 60 0 z _ (by omega) (by omega)]
            simp only [ob1_ok, d1]
          · rw [if_neg e2, if_neg e2, l_msumG b2 60 0 z _ (by omega) (by omega)]
            simp only [ob1_ok, d1]
    · obtain ⟨p6, p3, pk⟩ := hP
      refine ⟨p6, by rw [e312]; exact p3, fun k hk => ⟨(pk k hk).1, ?_⟩⟩
      have e314 : M3 314 = M 314 := by rw [d4 314 (by omega) (by omega), b3 314 (by simp), a4 314 (by omega) (by omega)]
      rw [e314]
      refine RR_cg (pk k hk).2 (pk k hk).1 (fun j _ => rfl) (fun j q hj hq => e316 j q (by have := (hp k hk).1; omega) hq)
    · rw [d4 c' (fun e => h (by simp [e])) (fun e => h (by simp [e])), b3 c' (fun e => h (by simp at e ⊢; omega)), a4 c' (fun e => h (by simp [e])) (fun e => h (by simp [e]))]
end S47
