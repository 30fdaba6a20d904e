/-! ===== a whole text of strips: both ways ===== -/
section SC1
variable {z n t i : Nat} {M N M' N' : mM} {tp : Nat → Nat}
def RStr (cnt : Nat) (M N : mM) : Prop := (∀ j k, j < cnt → k < 2 → bt (M 103 (j * 5 + k)) 0 11) ∧ ∀ s, s < 12 → N 329 (12 + s) = sMask (fun j k => M 103 (j * 5 + k)) cnt s
theorem l_zero12 : ∀ (m j y : Nat) (N : mM), j + m = 12 → m < y → ∃ N', L_Mod_readStrips_1 z y (nI j) N = some N' ∧ (∀ c', c' ≠ 329 → N' c' = N c') ∧ (∀ k, k < 12 + j → N' 329 k = N 329 k) ∧ ∀ s, j ≤ s → s < 12 → N' 329 (12 + s) = nI 0 := by
  intro m
  induction m with
  | zero =>
    intro j y N hj hy
    obtain ⟨y, rfl⟩ : ∃ k, y = k + 1 := ⟨y - 1, by omega⟩
    refine ⟨N, ?_, fun _ _ => rfl, fun _ _ => rfl, fun s a b => absurd a (by omega)⟩
    rw [L_Mod_readStrips_1, if_neg (lF (by omega) (by omega))]
  | succ m ih =>
    intro j y N hj hy
    obtain ⟨y, rfl⟩ : ∃ k, y = k + 1 := ⟨y - 1, by omega⟩
    obtain ⟨N', g1, g2, g3, g4⟩ := ih (j + 1) y (up N 329 (12 + j) (nI 0)) (by omega) (by omega)
    refine ⟨N', ?_, fun c' h => by rw [g2 c' h, upC h], fun k hk => by rw [g3 k (by omega), up_neJ _ _ _ (by omega)], fun s a b => ?_⟩
    · rw [L_Mod_readStrips_1, if_pos (lT (by omega) (by omega)), nadd 12 j, wa_ok (show 12 + j < 24 by omega) (by omega), ob1_ok, nadd j 1]
      exact g1
    · by_cases hs : s = j
      · subst hs
        rw [g3 _ (by omega), up_same]
      · exact g4 s (by omega) b
theorem str_loop (hz : 1000 ≤ z) (h : PZ tp n t i M N) (hn : M 102 3 = nI 0) : ∃ M' N', FrC M M' ∧ FrT N N' ∧
    ((L_Reader_read_1 z (nI 3) (fun (M133 : mM) => some (M133 102 3, M133)) z (nI 0) M = some (-1, M') ∧ F_Mod_readStrips z N = some (-1, N') ∧ FQ M' N') ∨
     (∃ c1, c1 ≤ 16 ∧ L_Reader_read_1 z (nI 3) (fun (M133 : mM) => some (M133 102 3, M133)) z (nI 0) M = some (nI c1, M') ∧ F_Mod_readStrips z N = some (nI c1, N') ∧ M' 102 3 = nI c1 ∧ RStr c1 M' N' ∧ M' 100 2 = nI 0 ∧ M' 100 3 = -1)) := by
  obtain ⟨N0, e1, e2, e3, e4⟩ := l_zero12 (z := z) 12 0 z N (by omega) (by omega)
  have hm : F_Mod_readStrips z N = L_Mod_readStrips_2 z mEnd z (nI 0) N0 := by
    unfold F_Mod_readStrips
    rw [e1, ob1_ok]
    rfl
  rw [hm]
  have h0 : PZ tp n t i M N0 := PZ_cg h (fun _ _ => rfl) (fun _ _ => rfl) (fun c' hc' => e2 c' (by omega)) (fun j _ _ => by rw [e2 312 (by omega)])
  have fr0 : FrT N N0 := by
    intro c' j p
    by_cases hc : c' = 329
    · subst hc
      unfold lowT at p
      exact e3 j (by omega)
    · rw [e2 c' hc]
  obtain ⟨M', N', q1, q2, q3⟩ := lines_loop (z := z) (tp := tp) (n := n) (t := t) hz (k := nI 3) (lo := 28) (hi := 28) (by omega) (by omega) (TW := F_Mod_isWord (nI 28)) (G := fun _ M => F_Mod_readStrip z M) (Lm := L_Mod_readStrips_2 z mEnd)
    (fun y n_ N => by rw [L_Mod_readStrips_2]) (tw_one (by omega) (by decide)) hF_3 (R := fun cnt _ M N => RStr cnt M N)
    (fun cnt i M N hc h hn hR _ => by
      obtain ⟨M1, N1, f1, f2, f3⟩ := strip_line (z := z) hz h hc hn
      refine ⟨M1, N1, FrC_K f1, FrT_Dr f2 (by omega), ?_⟩
      rcases f3 with ⟨g1, g2, g3⟩ | ⟨a, b, i', a1, b1, g1, g2, g3, g4, g5, g6⟩
      · exact Or.inl ⟨cb_3 g1, g2, g3⟩
      · refine Or.inr ⟨i', nI 0, nI_nm (by omega), cb_3 g1, by rw [f1.1 102 (by omega) (by omega)]; exact hn, g2, g3, fun M2 ha => ?_⟩
        have hold : ∀ j k, j < cnt → k < 5 → M2 103 (j * 5 + k) = M 103 (j * 5 + k) := fun j k hj hk => by rw [ha.2.2 j k hk, if_neg (by omega), f1.1 103 (by omega) (by omega)]
        have n0 : M2 103 (cnt * 5 + 0) = nI a := by rw [ha.2.2 cnt 0 (by omega), if_pos rfl, g4]
        have n1 : M2 103 (cnt * 5 + 1) = nI b := by rw [ha.2.2 cnt 1 (by omega), if_pos rfl, g5]
        refine ⟨fun j k hj hk => ?_, fun s hs => ?_⟩
        · by_cases hjc : j = cnt
          · subst hjc
            have : k = 0 ∨ k = 1 := by omega
            rcases this with rfl | rfl
            · exact ⟨a, by omega, a1, n0⟩
            · exact ⟨b, by omega, b1, n1⟩
          · rw [hold j k (by omega) (by omega)]
            exact hR.1 j k (by omega) hk
        · have hcg : sMask (fun j k => if k < 5 then M2 103 (j * 5 + k) else M 103 (j * 5 + k)) cnt = sMask (fun j k => M 103 (j * 5 + k)) cnt := sMask_cg cnt (fun j hj => by
            funext k
            show (if k < 5 then M2 103 (j * 5 + k) else M 103 (j * 5 + k)) = M 103 (j * 5 + k)
            by_cases hk : k < 5
            · rw [if_pos hk, hold j k hj hk]
            · rw [if_neg hk])
          have hcg2 : ∀ c0, sMask (fun j k => M2 103 (j * 5 + k)) c0 = sMask (fun j k => if k < 5 then M2 103 (j * 5 + k) else M 103 (j * 5 + k)) c0 := by
            intro c0
            induction c0 with
            | zero => rfl
            | succ c0 ih =>
              rw [sMask, sMask, ih]
              rfl
          rw [sMask]
          show _ = upd (sMask (fun j k => M2 103 (j * 5 + k)) cnt) (M2 103 (cnt * 5 + 0)).toNatClampNeg (sMask (fun j k => M2 103 (j * 5 + k)) cnt (M2 103 (cnt * 5 + 0)).toNatClampNeg ||| jshl (nI 1) (M2 103 (cnt * 5 + 1))) s
          rw [n0, n1, nI_clamp (by omega), hcg2, hcg, g6]
          by_cases hsa : s = a
          · subst hsa
            rw [up_same, upd_same, hR.2 s hs]
          · rw [up_neJ _ _ _ (by omega), upd_ne _ _ hsa, hR.2 s hs])
    16 0 i z z M N0 (by omega) (by omega) (by omega) h0 hn ⟨fun j k hj => absurd hj (by omega), fun s hs => by rw [e4 s (by omega) hs]; rfl⟩
  refine ⟨M', N', q1, FrT_tr fr0 q2, ?_⟩
  rcases q3 with q3 | ⟨c1, i1, a1, a2, a3, a4, a5, a6⟩
  · exact Or.inl q3
  · exact Or.inr ⟨c1, a1, a2, a3, a4, a5, a6.2.2.2.2.2.2.2⟩
end SC1
