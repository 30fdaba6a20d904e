/-! ===== a flight's place word, both ways ===== -/
section SB6
variable {z n t i : Nat} {M N M' N' : mM} {tp : Nat → Nat}
theorem pmW_place : ∀ v, v < 29 → ((19 ≤ pmW v ∧ pmW v ≤ 24) ↔ (20 ≤ v ∧ v ≤ 25)) ∧ (20 ≤ v → v ≤ 25 → pmW v - 19 = v - 20) := by decide +kernel
theorem pz_place (h : PZ tp n t i M N) : ((¬ ((N 312 11) = (nI 2)) ∨ ¬ ((F_Mod_isIn (N 312 12) (nI 19) (nI 24)) = true)) ↔ ¬ ((tkA tp n i).1 = 3 ∧ 20 ≤ (tkA tp n i).2.1 ∧ (tkA tp n i).2.1 ≤ 25)) ∧ (((tkA tp n i).1 = 3 ∧ 20 ≤ (tkA tp n i).2.1 ∧ (tkA tp n i).2.1 ≤ 25) → N 312 12 - nI 19 = nI ((tkA tp n i).2.1 - 20)) := by
  have hr := (PZ_r h).2.2.2.1
  have hk := (pz_mkind h).2.1
  by_cases h3 : (tkA tp n i).1 = 3
  · have hv := hr h3
    have hm := pz_mval h (by omega)
    rw [if_pos h3] at hm
    obtain ⟨p1, p2⟩ := pmW_place _ hv
    have hb := pmW_lt _ hv
    constructor
    · rw [hk, hm, isIn_eq]
      unfold F_Rec_within
      constructor
      · rintro (a | a) ⟨-, b1, b2⟩
        · exact a h3
        · have := p1.mpr ⟨b1, b2⟩
          refine a (decide_eq_true ⟨fun e => ?_, fun e => ?_⟩)
          · have := (nI_lt' (by omega) (by omega)).mp e
            omega
          · have := (nI_lt' (by omega) (by omega)).mp e
            omega
      · intro a
        refine Or.inr fun e => a ⟨h3, p1.mp ?_⟩
        obtain ⟨e1, e2⟩ := of_decide_eq_true e
        rw [nI_lt' (by omega) (by omega)] at e1 e2
        omega
    · rintro ⟨-, b1, b2⟩
      have := p1.mpr ⟨b1, b2⟩
      rw [hm, nsub this.1, p2 b1 b2]
  · constructor
    · rw [hk]
      exact ⟨fun _ a => h3 a.1, fun _ => Or.inl h3⟩
    · exact fun a => absurd a.1 h3
end SB6
