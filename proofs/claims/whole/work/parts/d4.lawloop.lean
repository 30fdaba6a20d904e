/-! ===== a whole law, both ways ===== -/
section SD4
variable {z n t i : Nat} {M N M' N' : mM} {tp : Nat → Nat}
def RLaw (cnt i : Nat) (M N : mM) : Prop := i ≤ 400 ∧ ∃ cc cm, cc ≤ i ∧ cm ≤ i ∧ M 100 6 = nI cc ∧ N 312 22 = nI cm ∧ N 312 23 = nI 0 ∧ ∀ j, j < cnt → ∃ w b e e2 b' e' e2' F G, w ≤ 2 ∧ (M 103 (j * 5 + 0) = nI w ∧ M 103 (j * 5 + 1) = nI b ∧ M 103 (j * 5 + 2) = nI e ∧ M 103 (j * 5 + 3) = nI e2) ∧ (N 320 (32 + j) = nI w ∧ N 321 (32 + j) = nI b' ∧ N 322 (32 + j) = nI e' ∧ N 323 (32 + j) = nI e2') ∧
  LnC (M 104) b e e2 F G ∧ LnM (dr N 324) (dr N 325) b' e' e2' F G ∧ e2 ≤ cc ∧ e2' ≤ cm
theorem hF_0 : ∀ M M', F_Reader_takeFirst (nI 0) (nI 2) M = some (false, M') → cBody z (nI 0) M = some (false, M') := by
  intro M M' h
  refine cb_0 ?_
  rw [readLaw_eq, og_0 h, ob2_ok]
  rfl
theorem tw_line : ∀ i M N, PZ tp n t i M N → F_Mod_isLineWord N = decide ((tkA tp n i).1 = 3 ∧ 0 ≤ (tkA tp n i).2.1 ∧ (tkA tp n i).2.1 ≤ 2) := by
  intro i M N h
  have hr := (PZ_r h).2.2.2.1
  unfold F_Mod_isLineWord
  apply decide_eq_decide.mpr
  rw [(pz_mkind h).2.1]
  by_cases h3 : (tkA tp n i).1 = 3
  · have hv := hr h3
    have hm := pz_mval h (by omega)
    rw [if_pos h3] at hm
    have hl := pmW_low _ hv
    have hb := pmW_lt _ hv
    rw [hm, isIn_eq]
    unfold F_Rec_within
    rw [decide_eq_true_iff]
    constructor
    · rintro ⟨-, a, b⟩
      rw [nI_lt' (by omega) (by omega)] at a b
      exact ⟨h3, by omega, hl.1.mp (by omega)⟩
    · rintro ⟨-, -, b⟩
      have := hl.1.mpr b
      exact ⟨h3, lF (by omega) (by omega), lF (by omega) (by omega)⟩
  · exact ⟨fun e => absurd e.1 h3, fun e => absurd e.1 h3⟩
theorem law_loop (hz : 1000 ≤ z) (h : PZ tp n t 0 M N) (hn : M 102 3 = nI 0) (h6 : M 100 6 = nI 0) (h22 : N 312 22 = nI 0) (h23 : N 312 23 = nI 0) : ∃ M' N', FrC M M' ∧ FrT N N' ∧
    ((L_Reader_read_1 z (nI 0) (fun (M133 : mM) => some (M133 102 3, M133)) z (nI 0) M = some (-1, M') ∧ F_Mod_readLaw z N = some (-1, N') ∧ FQ M' N') ∨
     (∃ c1 i', c1 ≤ 16 ∧ L_Reader_read_1 z (nI 0) (fun (M133 : mM) => some (M133 102 3, M133)) z (nI 0) M = some (nI c1, M') ∧ F_Mod_readLaw z N = some (nI c1, N') ∧ M' 102 3 = nI c1 ∧ RLaw c1 i' M' N' ∧ PZ tp n t i' M' N')) := by
  have hm : F_Mod_readLaw z N = L_Mod_readLaw_1 z mEnd z (nI 0) N := rfl
  rw [hm]
  exact lines_loop (z := z) (tp := tp) (n := n) (t := t) hz (k := nI 0) (lo := 0) (hi := 2) (by omega) (by omega) (TW := F_Mod_isLineWord) (G := gLaw z) (Lm := L_Mod_readLaw_1 z mEnd)
    law_step tw_line hF_0 (R := RLaw)
    (fun cnt i M N hc h hn hR htw => by
      obtain ⟨hi4, cc, cm, r1, r2, r3, r4, r5, r6⟩ := hR
      have hw := of_decide_eq_true ((tw_line i M N h).symm.trans htw)
      obtain ⟨M1, N1, f1, f2, f3⟩ := law_line (z := z) hz hc h hn hw r3 r4 r5 r1 r2
      refine ⟨M1, N1, FrC_L f1, FrT_G f2, ?_⟩
      rcases f3 with ⟨g1, g2, g3⟩ | ⟨w, e, e2, e', e2', F, G, i', w2, g1, g2, g3, g4, g5, g6, g7, g8, g9, g10, g11, g12, g13, g14⟩
      · exact Or.inl ⟨cb_0 g1, g2, g3⟩
      · refine Or.inr ⟨i', nI 0, nI_nm (by omega), cb_0 g1, by rw [f1.1 102 (by omega) (by omega) (by omega)]; exact hn, g2, g3, fun M2 ha => ?_⟩
        have a100 : M2 100 = M1 100 := ha.1 100 (by simp)
        have a104 : M2 104 = M1 104 := ha.1 104 (by simp)
        have ht := PZ_t g3
        refine ⟨by omega, e2, e2', g11, g12, by rw [a100]; exact g8, g9, g10, fun j hj => ?_⟩
        by_cases hjc : j = cnt
        · subst hjc
          exact ⟨w, cc, e, e2, cm, e', e2', F, G, w2, ⟨by rw [ha.2.2 j 0 (by omega), if_pos rfl]; exact g4.1, by rw [ha.2.2 j 1 (by omega), if_pos rfl]; exact g4.2.1, by rw [ha.2.2 j 2 (by omega), if_pos rfl]; exact g4.2.2.1, by rw [ha.2.2 j 3 (by omega), if_pos rfl]; exact g4.2.2.2⟩, g5, by rw [a104]; exact g6, g7, Nat.le_refl _, Nat.le_refl _⟩
        · obtain ⟨w', b1, x1, x2, b2, y1, y2, F', G', v1, v2, v3, v4, v5, v6, v7⟩ := r6 j (by omega)
          have hold : ∀ k, k < 5 → M2 103 (j * 5 + k) = M 103 (j * 5 + k) := fun k hk => by rw [ha.2.2 j k hk, if_neg hjc, f1.1 103 (by omega) (by omega) (by omega)]
          have hmo : ∀ c', 320 ≤ c' → c' ≤ 323 → N1 c' (32 + j) = N c' (32 + j) := fun c' p q => f2.2.2.1 c' _ p q (by omega)
          have l1 := g6.1
          have l2 := g7.1
          refine ⟨w', b1, x1, x2, b2, y1, y2, F', G', v1, ⟨by rw [hold 0 (by omega)]; exact v2.1, by rw [hold 1 (by omega)]; exact v2.2.1, by rw [hold 2 (by omega)]; exact v2.2.2.1, by rw [hold 3 (by omega)]; exact v2.2.2.2⟩, ⟨by rw [hmo 320 (by omega) (by omega)]; exact v3.1, by rw [hmo 321 (by omega) (by omega)]; exact v3.2.1, by rw [hmo 322 (by omega) (by omega)]; exact v3.2.2.1, by rw [hmo 323 (by omega) (by omega)]; exact v3.2.2.2⟩, LnC_cg v4 (fun q hq => by rw [a104]; exact f1.2.2 q (by omega)), LnM_cg v5 (fun q hq => f2.2.2.2 (800 + q) (by omega)), by omega, by omega⟩)
    16 0 0 z z M N (by omega) (by omega) (by omega) h hn ⟨by omega, 0, 0, Nat.le_refl _, Nat.le_refl _, h6, h22, h23, fun j hj => absurd hj (by omega)⟩
end SD4
