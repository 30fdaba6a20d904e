/-! ===== the pass, both ways ===== -/
section S49
variable {z : Nat} {M M2 : mM} {p : Nat → Nat} {W : Wd} {c : Nat} {w : Int32}
theorem l_pass (hz : 1000 ≤ z) (hC : CW false 1 M p W) (hR : RM M2 W) (hf : wf c W) (hc : c < 2147483648) : ∀ (m k n many : Nat) (first op : Int32), k + m = 60 → m < n → many ≤ k →
    ∃ f' m' o', L_Rec_pass_1 z w M n first (nI many) op (nI k) = some (f', nI m', o') ∧ (0 < many → f' = first) ∧
      (∀ kt nm, m < nm → L_Mod_pass_1 z w (nI 1) M2 kt nm (nI many) op (nI k) = kt (nI m') o') ∧
      (many = 0 → ∀ kt nm a, m < nm → (∀ x y, kt x y = some first) → L_Mod_pass_1 z w (nI 0) M2 kt nm a op (nI k) = some f') := by
  have h20 := wf_20 hf
  intro m
  induction m with
  | zero =>
    intro k n many first op hk hn hm
    obtain ⟨n, rfl⟩ : ∃ k, n = k + 1 := ⟨n - 1, by omega⟩
    refine ⟨first, many, op, ?_, fun _ => rfl, fun kt nm h => ?_, fun _ kt nm a h hkt => ?_⟩
    · rw [L_Rec_pass_1, if_neg (lF (by omega) (by omega))]
    · obtain ⟨nm, rfl⟩ : ∃ k, nm = k + 1 := ⟨nm - 1, by omega⟩
      rw [L_Mod_pass_1, if_neg (lF (by omega) (by omega))]
    · obtain ⟨nm, rfl⟩ : ∃ k, nm = k + 1 := ⟨nm - 1, by omega⟩
      rw [L_Mod_pass_1, if_neg (lF (by omega) (by omega)), hkt]
  | succ m ih =>
    intro k n many first op hk hn hm
    obtain ⟨n, rfl⟩ : ∃ k, n = k + 1 := ⟨n - 1, by omega⟩
    obtain ⟨v, hv⟩ : ∃ v, (if (wAt W (nI k)).isSome = true then some (nI 0) else some (op + nI 1)) = some v := by
      split
      · exact ⟨_, rfl⟩
      · exact ⟨_, rfl⟩
    by_cases hvw : v < w
    · obtain ⟨f', m', o', g1, g2, g3, g4⟩ := ih (k + 1) n many first v (by omega) (by omega) (by omega)
      refine ⟨f', m', o', ?_, g2, fun kt nm h => ?_, fun h0 kt nm a h hkt => ?_⟩
      · rw [L_Rec_pass_1, if_pos (lT (by omega) (by omega)), cw_isTaken hC hf hc, ob1_ok, ob1_ok, hv, ob1_ok, if_neg (fun q => q hvw), ob2_ok, nadd]
        exact g1
      · obtain ⟨nm, rfl⟩ : ∃ k, nm = k + 1 := ⟨nm - 1, by omega⟩
        rw [L_Mod_pass_1, if_pos (lT (by omega) (by omega)), mm_isTaken (by omega) hR h20, ob1_ok, ob1_ok, hv, ob1_ok, if_pos hvw, nadd]
        exact g3 kt nm (by omega)
      · obtain ⟨nm, rfl⟩ : ∃ k, nm = k + 1 := ⟨nm - 1, by omega⟩
        rw [L_Mod_pass_1, if_pos (lT (by omega) (by omega)), mm_isTaken (by omega) hR h20, ob1_ok, ob1_ok, hv, ob1_ok, if_pos hvw, nadd]
        exact g4 h0 kt nm a (by omega) hkt
    · obtain ⟨f1, hf1⟩ : ∃ f1, f1 = (if nI many = nI 0 then (nI k - w) + nI 1 else first) := ⟨_, rfl⟩
      obtain ⟨f', m', o', g1, g2, g3, g4⟩ := ih (k + 1) n (many + 1) f1 v (by omega) (by omega) (by omega)
      refine ⟨f', m', o', ?_, fun h => ?_, fun kt nm h => ?_, fun h0 kt nm a h hkt => ?_⟩
      · rw [L_Rec_pass_1, if_pos (lT (by omega) (by omega)), cw_isTaken hC hf hc, ob1_ok, ob1_ok, hv, ob1_ok, if_pos hvw, ← hf1, ob1_ok, ob2_ok, nadd, nadd]
        exact g1
      · rw [g2 (by omega), hf1, if_neg (eF (by omega) (by omega) (by omega))]
      · obtain ⟨nm, rfl⟩ : ∃ k, nm = k + 1 := ⟨nm - 1, by omega⟩
        rw [L_Mod_pass_1, if_pos (lT (by omega) (by omega)), mm_isTaken (by omega) hR h20, ob1_ok, ob1_ok, hv, ob1_ok, if_neg hvw, if_neg (show ¬ nI 1 = nI 0 by decide), nadd, nadd]
        exact g3 kt nm (by omega)
      · obtain ⟨nm, rfl⟩ : ∃ k, nm = k + 1 := ⟨nm - 1, by omega⟩
        rw [L_Mod_pass_1, if_pos (lT (by omega) (by omega)), mm_isTaken (by omega) hR h20, ob1_ok, ob1_ok, hv, ob1_ok, if_neg hvw, if_pos rfl, g2 (by omega), hf1, h0, if_pos rfl]
theorem b_pass (hz : 1000 ≤ z) (hC : CW false 1 M p W) (hR : RM M2 W) (hf : wf c W) (hc : c < 2147483648) (what : Int32) : ∃ r, F_Rec_pass z w what M = some r ∧ F_Mod_pass z w what M2 = some r := by
  unfold F_Rec_pass F_Mod_pass
  rw [isIn_eq, isIn_eq]
  by_cases hb : ¬ F_Rec_within w (nI 1) (nI 59) = true ∨ ¬ F_Rec_within what (nI 0) (nI 1) = true
  · rw [if_pos hb, if_pos hb]
    exact ⟨_, rfl, rfl⟩
  · rw [if_neg hb, if_neg hb]
    have hb1 : F_Rec_within what (nI 0) (nI 1) = true := Classical.byContradiction fun h => hb (Or.inr h)
    obtain ⟨N, n1, n2, rfl⟩ := rng_n (by omega) (by omega) (of_decide_eq_true hb1)
    obtain ⟨f', m', o', g1, g2, g3, g4⟩ := l_pass (w := w) hz hC hR hf hc 60 0 z 0 (-1) (nI 0) (by omega) (by omega) (by omega)
    rw [g1]
    rcases (show N = 0 ∨ N = 1 by omega) with rfl | rfl
    · refine ⟨f', ?_, g4 rfl _ z _ (by omega) (fun x y => ?_)⟩
      · show some (if nI 0 = nI 0 then f' else nI m') = _
        rw [if_pos rfl]
      · rw [if_pos rfl]
    · refine ⟨nI m', ?_, ?_⟩
      · show some (if nI 1 = nI 0 then f' else nI m') = _
        rw [if_neg (by decide)]
      · rw [g3 _ z (by omega), if_neg (show ¬ nI 1 = nI 0 by decide)]
end S49
