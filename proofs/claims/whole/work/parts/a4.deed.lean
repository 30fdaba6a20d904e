/-! ===== what a line of a sky lets be done ===== -/
section SA4
variable {z n t i : Nat} {M N M' N' : mM} {tp : Nat → Nat}
theorem pz_kindOf (h : PZ tp n t i M N) : ∃ d : Bool, ob1 (ob1 (F_Reader_isWord (nI 14) (nI 15) M) fun v222 => some (v222)) (fun x212 => if x212 = true then some (true) else ob1 (F_Reader_isWord (nI 26) (nI 27) M) fun v220 => some (v220)) = some d ∧
    (d = true → (tkA tp n i).1 = 3 ∧ ∃ k, k < 4 ∧ F_Mod_kindOfDeed N = nI k ∧ (tkA tp n i).2.1 = (if k = 0 then 14 else if k = 1 then 15 else if k = 2 then 26 else 27)) ∧ (d = false → F_Mod_kindOfDeed N = -1) := by
  have e1 := pz_isWord h (a := 14) (b := 15) (by omega) (by omega)
  have e2 := pz_isWord h (a := 26) (b := 27) (by omega) (by omega)
  have m1 := pz_mWord h (w := 14) (by omega)
  have m2 := pz_mWord h (w := 15) (by omega)
  have m3 := pz_mWord h (w := 26) (by omega)
  have m4 := pz_mWord h (w := 27) (by omega)
  have hr := (PZ_r h).2.2.2.1
  unfold F_Mod_kindOfDeed
  rw [e1, e2, m1, m2, m3, m4, ob1_ok, ob1_ok, ob1_ok]
  obtain ⟨k, hk⟩ : ∃ k, k = (tkA tp n i).1 := ⟨_, rfl⟩
  obtain ⟨v, hv⟩ : ∃ v, v = (tkA tp n i).2.1 := ⟨_, rfl⟩
  rw [← hk, ← hv] at hr ⊢
  clear hk hv e1 e2 m1 m2 m3 m4
  by_cases h3 : k = 3
  · have hv := hr h3
    subst h3
    have : ∀ v, v < 29 → ∃ d : Bool, (if decide (3 = 3 ∧ 14 ≤ v ∧ v ≤ 15) = true then some true else some (decide (3 = 3 ∧ 26 ≤ v ∧ v ≤ 27))) = some d ∧
      (d = true → ∃ k, k < 4 ∧ (if decide (3 = 3 ∧ pmW v = 14) = true then nI 0 else if decide (3 = 3 ∧ pmW v = 15) = true then nI 1 else if decide (3 = 3 ∧ pmW v = 26) = true then nI 2 else if decide (3 = 3 ∧ pmW v = 27) = true then nI 3 else -1) = nI k ∧ v = (if k = 0 then 14 else if k = 1 then 15 else if k = 2 then 26 else 27)) ∧
      (d = false → (if decide (3 = 3 ∧ pmW v = 14) = true then nI 0 else if decide (3 = 3 ∧ pmW v = 15) = true then nI 1 else if decide (3 = 3 ∧ pmW v = 26) = true then nI 2 else if decide (3 = 3 ∧ pmW v = 27) = true then nI 3 else -1) = -1) := by decide +kernel
    obtain ⟨d, d1, d2, d3⟩ := this v hv
    exact ⟨d, d1, fun hd => ⟨rfl, d2 hd⟩, d3⟩
  · refine ⟨false, ?_, fun h => (by cases h), fun _ => ?_⟩
    · rw [decide_eq_false (fun h => h3 h.1), if_neg Bool.false_ne_true, decide_eq_false (fun h => h3 h.1)]
    · rw [decide_eq_false (fun h => h3 h.1), if_neg Bool.false_ne_true, decide_eq_false (fun h => h3 h.1), if_neg Bool.false_ne_true, decide_eq_false (fun h => h3 h.1), if_neg Bool.false_ne_true, decide_eq_false (fun h => h3 h.1), if_neg Bool.false_ne_true]
end SA4
