/-! ===== whether and how often a row is read, the longest chain: both ways ===== -/
section S67
variable {z : Nat} {M N : mM} {p : Nat → Nat} {W : Wd} {c : Nat} {F : Rw} {T : Tx}
abbrev rr0 (F : Rw) : Nat → Int32 := fun j => F.2 j 0
theorem l_ways1 (hz : 100 ≤ z) (hf : wf c W) (hc : c < 2147483648) (h8 : F.1 ≤ 8) : ∀ (m k n : Nat) (M : mM), k + m = 60 → m < n → CW false 1 M p W → RwG 40 1 M F → (∀ j, j ≤ F.1 → M 140 j = nI (dpW W (rr0 F) F.1 k j)) →
    ∃ M', L_Asker_ways_1 z 1 40 1 8 n (nI k) M = some M' ∧ Fr [140] M M' ∧ ∀ j, j ≤ F.1 → M' 140 j = nI (dpW W (rr0 F) F.1 60 j) := by
  have h20 := wf_20 hf
  intro m
  induction m with
  | zero =>
    intro k n M hk hn hC hR hE
    obtain ⟨n, rfl⟩ : ∃ k, n = k + 1 := ⟨n - 1, by omega⟩
    have ek : k = 60 := by omega
    subst ek
    rw [L_Asker_ways_1, if_neg (lF (by omega) (by omega))]
    exact ⟨M, rfl, Fr_rf _ _, hE⟩
  | succ m ih =>
    intro k n M hk hn hC hR hE
    obtain ⟨n, rfl⟩ : ∃ k, n = k + 1 := ⟨n - 1, by omega⟩
    rw [L_Asker_ways_1, if_pos (lT (by omega) (by omega)), cw_thingAt (by omega) isW_1 hC hf hc, ob1_ok, nadd]
    cases h : wAt W (nI k) with
    | none =>
      have e : L_Asker_ways_2 z 1 40 1 8 (Option.map p none) z (M 40 3 - nI 1) M = some M := by
        obtain ⟨z', rfl⟩ : ∃ k, z = k + 1 := ⟨z - 1, by omega⟩
        rw [L_Asker_ways_2, if_neg (fun h => h.2 rfl)]
      rw [e, ob1_ok]
      refine ih (k + 1) n M (by omega) (by omega) hC hR (fun j hj => ?_)
      rw [hE j hj, dpW, h]
    | some t =>
      have ht := (wAt_some h).1
      have hpt := (CW_P hC t (by omega)).1
      obtain ⟨M1, a1, a2, a3⟩ := l_ways2 (z := z) (M := M) (p := p) (F := F) (f := dpW W (rr0 F) F.1 k) (t := t) (x := wT W t 1) h8 rfl (dT_ok hC (by omega)) (CW_T hC ht (by omega)) (by omega) (fun j _ => dp_20 hf (by omega) j) F.1 z M (M 40 3 - nI 1) (by rw [hR.1]) (Nat.le_refl _) (by omega) (Fr_rf _ _) hR (fun j hj => by rw [if_pos hj]; exact hE j hj)
      have e1 : ∀ c', c' ≠ 140 → M1 c' = M c' := fun c' h => a2 c' (by simp only [List.mem_cons, List.not_mem_nil, or_false]; exact h)
      obtain ⟨M', b1, b2, b3⟩ := ih (k + 1) n M1 (by omega) (by omega) (CW_congr hC (fun c' h => e1 c' (by unfold inW at h; omega))) (by unfold RwG; rw [e1 40 (by omega), e1 (40 + 1) (by omega)]; exact hR) (fun j hj => by
        rw [a3 j hj, dpW, h])
      exact ⟨M', by rw [a1, ob1_ok, b1], Fr_tr a2 b2, b3⟩
theorem l_mways2 (hz : 100 ≤ z) (hf : wf c W) (h8 : F.1 ≤ 8) : ∀ (m k n : Nat) (N : mM), k + m = 60 → m < n → RM N W → N 312 39 = nI F.1 → (∀ j, j < F.1 → N 333 j = F.2 j 0) → (∀ j, j ≤ F.1 → N 334 j = nI (dpW W (rr0 F) F.1 k j)) →
    ∃ N', L_Mod_sayingWays_2 z n (nI k) N = some N' ∧ Fr [334] N N' ∧ ∀ j, j ≤ F.1 → N' 334 j = nI (dpW W (rr0 F) F.1 60 j) := by
  have h20 := wf_20 hf
  intro m
  induction m with
  | zero =>
    intro k n N hk hn hR h0 hN hE
    obtain ⟨n, rfl⟩ : ∃ k, n = k + 1 := ⟨n - 1, by omega⟩
    have ek : k = 60 := by omega
    subst ek
    rw [L_Mod_sayingWays_2, if_neg (lF (by omega) (by omega))]
    exact ⟨N, rfl, Fr_rf _ _, hE⟩
  | succ m ih =>
    intro k n N hk hn hR h0 hN hE
    obtain ⟨n, rfl⟩ : ∃ k, n = k + 1 := ⟨n - 1, by omega⟩
    rw [L_Mod_sayingWays_2, if_pos (lT (by omega) (by omega)), mm_isTaken (by omega) hR h20, ob1_ok, ob1_ok, ob1_ok, nadd]
    cases h : wAt W (nI k) with
    | none =>
      rw [if_pos (show (!(none : Option Nat).isSome) = true from rfl)]
      refine ih (k + 1) n N (by omega) (by omega) hR h0 hN (fun j hj => ?_)
      rw [hE j hj, dpW, h]
    | some t =>
      have ht := (wAt_some h).1
      obtain ⟨N1, a1, a2, a3⟩ := l_mways3 (z := z) (N := N) (f := dpW W (rr0 F) F.1 k) (x := wT W t 1) h8 (R := rr0 F) hN (fun j _ => dp_20 hf (by omega) j) F.1 z N (Nat.le_refl _) (by omega) (Fr_rf _ _) (fun j hj => by rw [if_pos hj]; exact hE j hj)
      have e1 : ∀ c', c' ≠ 334 → N1 c' = N c' := fun c' h => a2 c' (by simp only [List.mem_cons, List.not_mem_nil, or_false]; exact h)
      obtain ⟨N', b1, b2, b3⟩ := ih (k + 1) n N1 (by omega) (by omega) (RM_congr (e1 313 (by omega)) (e1 316 (by omega)) hR) (by rw [e1 312 (by omega)]; exact h0) (fun j hj => by rw [e1 333 (by omega)]; exact hN j hj) (fun j hj => by
        rw [a3 j hj, dpW, h])
      refine ⟨N', ?_, Fr_tr a2 b2, b3⟩
      rw [if_neg (show ¬ (!(some t).isSome) = true from Bool.false_ne_true), mm_stuckAt (by omega) hR h20, h, oI_some, ob1_ok, mm_thingAt, nadd, ra_ok (by omega) (by omega), ob1_ok, RM_T hR ht (by omega), h0, a1, ob1_ok, b1]
theorem l_mways1 : ∀ (m k n : Nat) (N : mM), k + m = 16 → m < n → L_Mod_sayingWays_1 z n (nI k) N = some (fil N 334 k 16 (fun j => if j = 0 then nI 1 else nI 0)) := by
  intro m
  induction m with
  | zero =>
    intro k n N hk hn
    obtain ⟨n, rfl⟩ : ∃ k, n = k + 1 := ⟨n - 1, by omega⟩
    rw [L_Mod_sayingWays_1, if_neg (lF (by omega) (by omega)), fil_end (by omega)]
  | succ m ih =>
    intro k n N hk hn
    obtain ⟨n, rfl⟩ : ∃ k, n = k + 1 := ⟨n - 1, by omega⟩
    have e : (if nI k = nI 0 then nI 1 else nI 0) = if k = 0 then nI 1 else nI 0 := by
      by_cases h : k = 0
      · rw [h, if_pos rfl, if_pos rfl]
      · rw [if_neg (eF h (by omega) (by omega)), if_neg h]
    rw [L_Mod_sayingWays_1, if_pos (lT (by omega) (by omega)), ob1_ok, wa_ok (by omega) (by omega), ob1_ok, nadd, e, ih (k + 1) n _ (by omega) (by omega)]
    exact congrArg some (fil_step (g := fun j => if j = 0 then nI 1 else nI 0) (g' := fun j => if j = 0 then nI 1 else nI 0) (by omega) (fun _ _ _ => rfl))
theorem l_doesSay (hz : 100 ≤ z) (hf : wf c W) (hR : RM N W) (h8 : F.1 ≤ 8) (h0 : N 312 39 = nI F.1) (hN : ∀ j, j < F.1 → N 333 j = F.2 j 0) : ∀ (m k n : Nat), k + m = 60 → m < n → L_Mod_doesSay_1 z N n (nI (grW W (rr0 F) F.1 k)) (nI k) = some (nI (grW W (rr0 F) F.1 60)) := by
  have h20 := wf_20 hf
  intro m
  induction m with
  | zero =>
    intro k n hk hn
    obtain ⟨n, rfl⟩ : ∃ k, n = k + 1 := ⟨n - 1, by omega⟩
    have ek : k = 60 := by omega
    subst ek
    rw [L_Mod_doesSay_1, if_neg (fun h => lF (by omega) (by omega) h.1)]
  | succ m ih =>
    intro k n hk hn
    obtain ⟨n, rfl⟩ : ∃ k, n = k + 1 := ⟨n - 1, by omega⟩
    have hg := gr_le (W := W) (R := rr0 F) (s := F.1) k
    by_cases hgs : grW W (rr0 F) F.1 k < F.1
    · rw [L_Mod_doesSay_1, h0, if_pos ⟨lT (by omega) (by omega), lT hgs (by omega)⟩, mm_isTaken (by omega) hR h20, ob1_ok, ob1_ok, nadd, nadd]
      cases h : wAt W (nI k) with
      | none =>
        have e : grW W (rr0 F) F.1 (k + 1) = grW W (rr0 F) F.1 k := by rw [grW, h]
        rw [if_neg (show ¬ (none : Option Nat).isSome = true from Bool.false_ne_true), ob1_ok, if_neg Bool.false_ne_true, ob1_ok, ← e]
        exact ih (k + 1) n (by omega) (by omega)
      | some t =>
        have ht := (wAt_some h).1
        have hg2 : grW W (rr0 F) F.1 (k + 1) = if grW W (rr0 F) F.1 k < F.1 ∧ rr0 F (grW W (rr0 F) F.1 k) = wT W t 1 then grW W (rr0 F) F.1 k + 1 else grW W (rr0 F) F.1 k := by rw [grW, h]
        rw [if_pos (show (some t).isSome = true from rfl), mm_stuckAt (by omega) hR h20, h, oI_some, ob1_ok, mm_thingAt, nadd, ra_ok (by omega) (by omega), ob1_ok, ra_ok (by omega) (by omega), ob1_ok, ob1_ok, RM_T hR ht (by omega), hN _ hgs]
        have hi := ih (k + 1) n (by omega) (by omega)
        by_cases e : rr0 F (grW W (rr0 F) F.1 k) = wT W t 1
        · rw [hg2, if_pos ⟨hgs, e⟩] at hi
          rw [decide_eq_true e.symm, if_pos rfl, ob1_ok]
          exact hi
        · rw [hg2, if_neg (fun h => e h.2)] at hi
          rw [decide_eq_false (fun h => e h.symm), if_neg Bool.false_ne_true, ob1_ok]
          exact hi
    · have e : grW W (rr0 F) F.1 (k + 1) = grW W (rr0 F) F.1 k := by
        rw [grW]
        cases h : wAt W (nI k) with
        | none => rfl
        | some t => exact if_neg (fun h => hgs h.1)
      have hi := ih (k + 1) (n + 1) (by omega) (by omega)
      rw [e] at hi
      rw [← hi, L_Mod_doesSay_1, L_Mod_doesSay_1, h0, if_neg (fun h => lF (by omega) (by omega) h.2), if_neg (fun h => lF (by omega) (by omega) h.2)]
theorem b_ways (hz : 100 ≤ z) (hf : wf c W) (hc : c < 2147483648) (hT : okT T) (hCT : CT 28 M T) (hC : CW false 1 M p W) (many : Bool) : ∃ M', F_Asker_ways z 1 40 1 8 many M = some (if many = true then nI (dpW W (rr0 (tRow T)) (tRow T).1 60 (tRow T).1) else if 1 ≤ dpW W (rr0 (tRow T)) (tRow T).1 60 (tRow T).1 then nI 1 else nI 0, M') ∧ Fr [140] M M' := by
  obtain ⟨F, eF'⟩ : ∃ F, F = tRow T := ⟨_, rfl⟩
  have h8 : F.1 ≤ 8 := eF' ▸ hT.2.1.1
  have hR : RwG 40 1 M F := eF' ▸ hCT.2.1
  rw [← eF']
  obtain ⟨M1, d⟩ : ∃ M1, M1 = up (fil M 140 0 9 (fun _ => nI 0)) 140 0 (nI 1) := ⟨_, rfl⟩
  have e1 : ∀ c', c' ≠ 140 → M1 c' = M c' := fun c' h => by rw [d, upC h, fil_ne h]
  obtain ⟨M', a1, a2, a3⟩ := l_ways1 hz hf hc h8 60 0 z M1 (by omega) (by omega) (CW_congr hC (fun c' h => e1 c' (by unfold inW at h; omega))) (by unfold RwG; rw [e1 40 (by omega), e1 (40 + 1) (by omega)]; exact hR) (fun j hj => by
    rw [d]
    by_cases h : j = 0
    · rw [h, up_same]
      rfl
    · rw [up_neJ _ _ _ h, fil_at, if_pos ⟨Nat.zero_le _, by omega⟩]
      show nI 0 = nI (if j = 0 then 1 else 0)
      rw [if_neg h])
  refine ⟨M', ?_, fun c' h => ?_⟩
  · have e40 : M' 40 3 = nI F.1 := by
      rw [a2 40 (by simp), e1 40 (by omega)]
      exact hR.1
    have hB := dp_20 hf (R := rr0 F) (s := F.1) (k := 60) (Nat.le_refl _) F.1
    unfold F_Asker_ways
    rw [fill_ok (by omega) (by omega), ob1_ok, wa_ok (by omega) (by omega), ob1_ok, ← d, a1, ob1_ok, e40, ra_ok (by omega) (by omega), ob1_ok, ob1_ok, a3 _ (Nat.le_refl _)]
    cases many with
    | true => rw [if_pos rfl, if_pos rfl, ob1_ok]
    | false =>
      rw [if_neg Bool.false_ne_true, if_neg Bool.false_ne_true, ob1_ok]
      congr 1
      unfold F_Math_min
      obtain ⟨v, hv⟩ : ∃ v, v = dpW W (rr0 F) F.1 60 F.1 := ⟨_, rfl⟩
      rw [← hv] at hB ⊢
      by_cases h1 : 1 ≤ v
      · rw [if_pos h1]
        by_cases h2 : 1 < v
        · rw [if_pos (lT h2 (by omega))]
        · rw [if_neg (lF (by omega) (by omega)), show v = 1 by omega]
      · rw [if_neg h1, if_neg (lF (by omega) (by omega)), show v = 0 by omega]
  · rw [a2 c' h]
    simp only [List.mem_cons, List.not_mem_nil, or_false] at h
    exact e1 c' h
end S67
