/-! ===== a whole sky, a whole flight: both ways ===== -/
section SC0
variable {z n t i : Nat} {M N M' N' : mM} {tp : Nat → Nat}
theorem tw_one {k : Nat} (hk : k < 29) (hw : pmW k = k) : ∀ i M N, PZ tp n t i M N → F_Mod_isWord (nI k) N = decide ((tkA tp n i).1 = 3 ∧ k ≤ (tkA tp n i).2.1 ∧ (tkA tp n i).2.1 ≤ k) := by
  intro i M N h
  rw [pz_mWord h (by omega)]
  exact decide_eq_decide.mpr (pz_iff h hk hw).symm
theorem hF_2 : ∀ M M', F_Reader_takeFirst (nI 18) (nI 18) M = some (false, M') → cBody z (nI 2) M = some (false, M') := by
  intro M M' h
  refine cb_2 ?_
  rw [readSky_eq, og_t (og_0 h) _, ob2_ok]
  rfl
theorem hF_1 : ∀ M M', F_Reader_takeFirst (nI 18) (nI 18) M = some (false, M') → cBody z (nI 1) M = some (false, M') := by
  intro M M' h
  refine cb_1 ?_
  rw [readFlight_eq, og_t (og_0 h) _, ob2_ok, if_pos rfl, ob2_ok]
  rfl
theorem hF_3 : ∀ M M', F_Reader_takeFirst (nI 28) (nI 28) M = some (false, M') → cBody z (nI 3) M = some (false, M') := by
  intro M M' h
  refine cb_3 ?_
  unfold F_Reader_readStrips
  rw [og_t (og_t (og_t (og_0 h) _) _) _, ob2_ok]
  rfl
def RSky (cnt : Nat) (M N : mM) : Prop := ∀ j, j < cnt → ∃ a k b c, a ≤ 999 ∧ k < 4 ∧ b ≤ 99 ∧ c ≤ 99 ∧ (k = 2 → b ≤ 59) ∧ (k = 3 → 1 ≤ b) ∧ M 103 (j * 5 + 0) = nI a ∧ M 103 (j * 5 + 1) = nI (kW k) ∧ M 103 (j * 5 + 2) = nI b ∧ (k = 2 → M 103 (j * 5 + 3) = nI c) ∧
  N 328 (64 + 4 * j) = nI a ∧ N 328 (64 + 4 * j + 1) = nI k ∧ N 328 (64 + 4 * j + 2) = nI b ∧ N 328 (64 + 4 * j + 3) = nI c
def RFli (cnt : Nat) (M N : mM) : Prop := ∀ j, j < cnt → ∃ y p a b c, y ≤ 999 ∧ p ≤ 5 ∧ 1 ≤ a ∧ a ≤ 9 ∧ b ≤ 9 ∧ c ≤ 59 ∧ M 103 (j * 5 + 0) = nI y ∧ M 103 (j * 5 + 1) = nI p ∧ M 103 (j * 5 + 2) = nI a ∧ M 103 (j * 5 + 3) = nI b ∧ M 103 (j * 5 + 4) = nI c ∧
  N 327 (80 + 5 * j) = nI y ∧ N 327 (80 + 5 * j + 1) = nI p ∧ N 327 (80 + 5 * j + 2) = nI a ∧ N 327 (80 + 5 * j + 3) = nI b ∧ N 327 (80 + 5 * j + 4) = nI c
theorem sky_loop (hz : 1000 ≤ z) (h : PZ tp n t i M N) (hn : M 102 3 = nI 0) : ∃ M' N', FrC M M' ∧ FrT N N' ∧
    ((L_Reader_read_1 z (nI 2) (fun (M133 : mM) => some (M133 102 3, M133)) z (nI 0) M = some (-1, M') ∧ F_Mod_readSky z N = some (-1, N') ∧ FQ M' N') ∨
     (∃ c1, c1 ≤ 16 ∧ L_Reader_read_1 z (nI 2) (fun (M133 : mM) => some (M133 102 3, M133)) z (nI 0) M = some (nI c1, M') ∧ F_Mod_readSky z N = some (nI c1, N') ∧ M' 102 3 = nI c1 ∧ RSky c1 M' N' ∧ M' 100 2 = nI 0 ∧ M' 100 3 = -1)) := by
  have hm : F_Mod_readSky z N = L_Mod_readSky_1 z mEnd z (nI 0) N := rfl
  rw [hm]
  obtain ⟨M', N', q1, q2, q3⟩ := lines_loop (z := z) (tp := tp) (n := n) (t := t) hz (k := nI 2) (lo := 18) (hi := 18) (by omega) (by omega) (TW := F_Mod_isWord (nI 18)) (G := fun n_ M => F_Mod_readDeed z ((nI 64) + ((nI 4) * n_)) M) (Lm := L_Mod_readSky_1 z mEnd)
    (fun y n_ N => by rw [L_Mod_readSky_1]) (tw_one (by omega) (by decide)) hF_2 (R := fun cnt _ M N => RSky cnt M N)
    (fun cnt i M N hc h hn hR _ => by
      obtain ⟨M1, N1, f1, f2, f3⟩ := sky_line (z := z) hz h hc hn (q := 64 + 4 * cnt) (by omega)
      refine ⟨M1, N1, FrC_K f1, FrT_Dr f2 (by omega), ?_⟩
      have e : nI 64 + nI 4 * nI cnt = nI (64 + 4 * cnt) := by rw [nmul, nadd]
      show _ ∨ (∃ i' v, v ≠ -1 ∧ _ ∧ _ ∧ F_Mod_readDeed z (nI 64 + nI 4 * nI cnt) N = _ ∧ _)
      rw [e]
      rcases f3 with ⟨g1, g2, g3⟩ | ⟨a, k, b, c, i', a1, k1, b1, c1, b2, b3, g1, g2, g3, g4, g5, g6, g7, g8, g9, g10, g11⟩
      · exact Or.inl ⟨cb_2 g1, g2, g3⟩
      · refine Or.inr ⟨i', nI 0, nI_nm (by omega), cb_2 g1, by rw [f1.1 102 (by omega) (by omega)]; exact hn, g2, g3, fun M2 ha j hj => ?_⟩
        by_cases hjc : j = cnt
        · subst hjc
          exact ⟨a, k, b, c, a1, k1, b1, c1, b2, b3, by rw [ha.2.2 j 0 (by omega), if_pos rfl, g4], by rw [ha.2.2 j 1 (by omega), if_pos rfl, g5], by rw [ha.2.2 j 2 (by omega), if_pos rfl, g6], fun e => by rw [ha.2.2 j 3 (by omega), if_pos rfl, g7 e], g8, g9, g10, g11⟩
        · obtain ⟨a', k', b', c', x1, x2, x3, x4, x5, x6, x7, x8, x9, x10, x11, x12, x13, x14⟩ := hR j (by omega)
          have hm : ∀ kk, kk < 5 → M2 103 (j * 5 + kk) = M 103 (j * 5 + kk) := fun kk hk => by rw [ha.2.2 j kk hk, if_neg hjc, f1.1 103 (by omega) (by omega)]
          exact ⟨a', k', b', c', x1, x2, x3, x4, x5, x6, by rw [hm 0 (by omega), x7], by rw [hm 1 (by omega), x8], by rw [hm 2 (by omega), x9], fun e => by rw [hm 3 (by omega), x10 e], by rw [f2.2.2 _ (by omega), x11], by rw [f2.2.2 _ (by omega), x12], by rw [f2.2.2 _ (by omega), x13], by rw [f2.2.2 _ (by omega), x14]⟩)
    16 0 i z z M N (by omega) (by omega) (by omega) h hn (fun j hj => absurd hj (by omega))
  refine ⟨M', N', q1, q2, ?_⟩
  rcases q3 with q3 | ⟨c1, i1, a1, a2, a3, a4, a5, a6⟩
  · exact Or.inl q3
  · exact Or.inr ⟨c1, a1, a2, a3, a4, a5, a6.2.2.2.2.2.2.2⟩
theorem fli_loop (hz : 1000 ≤ z) (h : PZ tp n t i M N) (hn : M 102 3 = nI 0) : ∃ M' N', FrC M M' ∧ FrT N N' ∧
    ((L_Reader_read_1 z (nI 1) (fun (M133 : mM) => some (M133 102 3, M133)) z (nI 0) M = some (-1, M') ∧ F_Mod_readFlight z N = some (-1, N') ∧ FQ M' N') ∨
     (∃ c1, c1 ≤ 16 ∧ L_Reader_read_1 z (nI 1) (fun (M133 : mM) => some (M133 102 3, M133)) z (nI 0) M = some (nI c1, M') ∧ F_Mod_readFlight z N = some (nI c1, N') ∧ M' 102 3 = nI c1 ∧ RFli c1 M' N' ∧ M' 100 2 = nI 0 ∧ M' 100 3 = -1)) := by
  have hm : F_Mod_readFlight z N = L_Mod_readFlight_1 z mEnd z (nI 0) N := rfl
  rw [hm]
  obtain ⟨M', N', q1, q2, q3⟩ := lines_loop (z := z) (tp := tp) (n := n) (t := t) hz (k := nI 1) (lo := 18) (hi := 18) (by omega) (by omega) (TW := F_Mod_isWord (nI 18)) (G := fun n_ M => F_Mod_readFlightLine z ((nI 80) + ((nI 5) * n_)) M) (Lm := L_Mod_readFlight_1 z mEnd)
    (fun y n_ N => by rw [L_Mod_readFlight_1]) (tw_one (by omega) (by decide)) hF_1 (R := fun cnt _ M N => RFli cnt M N)
    (fun cnt i M N hc h hn hR _ => by
      obtain ⟨M1, N1, f1, f2, f3⟩ := flight_line (z := z) hz h hc hn (q := 80 + 5 * cnt) (by omega)
      refine ⟨M1, N1, FrC_K f1, FrT_Dr f2 (by omega), ?_⟩
      have e : nI 80 + nI 5 * nI cnt = nI (80 + 5 * cnt) := by rw [nmul, nadd]
      show _ ∨ (∃ i' v, v ≠ -1 ∧ _ ∧ _ ∧ F_Mod_readFlightLine z (nI 80 + nI 5 * nI cnt) N = _ ∧ _)
      rw [e]
      rcases f3 with ⟨g1, g2, g3⟩ | ⟨y, p, a, b, c, i', y1, p1, a1, a2, b1, c1, g1, g2, g3, g4, g5, g6, g7, g8, g9, g10, g11, g12, g13⟩
      · exact Or.inl ⟨cb_1 g1, g2, g3⟩
      · refine Or.inr ⟨i', nI 0, nI_nm (by omega), cb_1 g1, by rw [f1.1 102 (by omega) (by omega)]; exact hn, g2, g3, fun M2 ha j hj => ?_⟩
        by_cases hjc : j = cnt
        · subst hjc
          exact ⟨y, p, a, b, c, y1, p1, a1, a2, b1, c1, by rw [ha.2.2 j 0 (by omega), if_pos rfl, g4], by rw [ha.2.2 j 1 (by omega), if_pos rfl, g5], by rw [ha.2.2 j 2 (by omega), if_pos rfl, g6], by rw [ha.2.2 j 3 (by omega), if_pos rfl, g7], by rw [ha.2.2 j 4 (by omega), if_pos rfl, g8], g9, g10, g11, g12, g13⟩
        · obtain ⟨y', p', a', b', c', x1, x2, x3, x4, x5, x6, x7, x8, x9, x10, x11, x12, x13, x14, x15, x16⟩ := hR j (by omega)
          have hm : ∀ kk, kk < 5 → M2 103 (j * 5 + kk) = M 103 (j * 5 + kk) := fun kk hk => by rw [ha.2.2 j kk hk, if_neg hjc, f1.1 103 (by omega) (by omega)]
          exact ⟨y', p', a', b', c', x1, x2, x3, x4, x5, x6, by rw [hm 0 (by omega), x7], by rw [hm 1 (by omega), x8], by rw [hm 2 (by omega), x9], by rw [hm 3 (by omega), x10], by rw [hm 4 (by omega), x11], by rw [f2.2.2 _ (by omega), x12], by rw [f2.2.2 _ (by omega), x13], by rw [f2.2.2 _ (by omega), x14], by rw [f2.2.2 _ (by omega), x15], by rw [f2.2.2 _ (by omega), x16]⟩)
    16 0 i z z M N (by omega) (by omega) (by omega) h hn (fun j hj => absurd hj (by omega))
  refine ⟨M', N', q1, q2, ?_⟩
  rcases q3 with q3 | ⟨c1, i1, a1, a2, a3, a4, a5, a6⟩
  · exact Or.inl q3
  · exact Or.inr ⟨c1, a1, a2, a3, a4, a5, a6.2.2.2.2.2.2.2⟩
end SC0
