/-! ===== text: both ways ===== -/
section SD8
variable {z c : Nat} {M N M' N' N2 : mM} {A : LA} {S F : Rw} {T : Tx} {W : Wd} {P : Ps} {k : Int32}
theorem mt_eq : F_Mod_text z k N = ob2 (if (F_Mod_isIn k (nI 0) (nI 3)) = true then
  ob2 (F_Mod_readsText z k (txN N)) fun v42 M43 =>
  if v42 = (-1) then
  ob1 (some (up M43 312 28 (M43 312 26))) fun M45 =>
  ob1 (some (up M45 312 29 (M45 312 27))) fun M47 =>
  some (v42, M47)
  else
  some (v42, M43)
  else
  some ((-1), txN N)) fun n_26 M27 =>
  ob1 (some (up M27 312 8 (nI 0))) fun M29 =>
  if n_26 = (-1) then
  some ((-1), M29)
  else
  ob1 (if k = (nI 0) then
  ob1 (F_Mod_takesLaw z n_26 M29) fun M40 =>
  some (M40)
  else
  ob1 (F_Mod_takesOther z k n_26 M29) fun M38 =>
  some (M38)) fun M36 =>
  some (n_26, M36) := rfl
theorem tx_at {c' j : Nat} (h : c' ≠ 312 ∨ (j ≠ 28 ∧ j ≠ 29 ∧ j ≠ 9 ∧ j ≠ 22 ∧ j ≠ 23)) : txN N c' j = N c' j := by
  unfold txN
  by_cases e : c' = 312
  · subst e
    rw [up_neJ _ _ _ (by omega), up_neJ _ _ _ (by omega), up_neJ _ _ _ (by omega), up_neJ _ _ _ (by omega), up_neJ _ _ _ (by omega)]
  · rw [upC e, upC e, upC e, upC e, upC e]
theorem tx_28 : txN N 312 28 = nI 0 ∧ txN N 312 29 = -1 := by
  unfold txN
  constructor
  · rw [up_neJ _ _ _ (by omega), up_neJ _ _ _ (by omega), up_neJ _ _ _ (by omega), up_neJ _ _ _ (by omega), up_same]
  · rw [up_neJ _ _ _ (by omega), up_neJ _ _ _ (by omega), up_neJ _ _ _ (by omega), up_same]
/-- what holds when a text has been read and nothing was taken -/
theorem tx_inv (hW : Wo c M N W P) (hT : To M N A S F T) (hI : Im c M N) (hD : Dr M) (hTp : Tp M N) (f1 : FrR0 M M') (h1 : M' 100 1 = nI 0) (f2 : FrT (txN N) N2) (e1 : ∀ c', c' ≠ 312 → N' c' = N2 c') (e2 : ∀ j, j ≠ 8 → j ≠ 28 → j ≠ 29 → N' 312 j = N2 312 j) (e8 : N' 312 8 = nI 0) (h2 : M' 100 2 = N' 312 28) (h3 : M' 100 3 = N' 312 29) :
    Wo (c + 1000) M' N' W P ∧ To M' N' A S F T ∧ Im (c + 1000) M' N' ∧ Dr M' ∧ Tp M' N' ∧ (∀ c', 312 ≤ c' → M' c' = M c') ∧ ∀ c', c' < 312 → N' c' = N c' := by
  have n1 : ∀ c', c' ≠ 312 ∧ ¬ (320 ≤ c' ∧ c' ≤ 329) → N' c' = N c' := fun c' h => by
    rw [e1 c' h.1, FrT_row f2 h]
    funext j
    exact tx_at (Or.inl h.1)
  have n2 : ∀ j, (¬ (9 ≤ j ∧ j ≤ 12) ∧ j ≠ 22 ∧ j ≠ 23 ∧ j ≠ 25 ∧ j ≠ 26 ∧ j ≠ 27) → j ≠ 8 → j ≠ 28 → j ≠ 29 → N' 312 j = N 312 j := fun j h a b d => by
    rw [e2 j a b d, FrT_312 f2 h]
    exact tx_at (Or.inr (by omega))
  refine ⟨Wo_cg ⟨IA_mono hW.1 (by omega), hW.2⟩ (fun c' h => f1 c' (by unfold inW at h; omega)) (fun j _ => by rw [f1 0 (by omega)]) (fun c' h => n1 c' (by omega)) (fun j h => n2 j (by omega) (by omega) (by omega) (by omega)), ⟨KT_cg hT.1 (fun c' a b d => f1 c' (by omega)), ?_, hT.2.2⟩, Im_cg (Im_mono hI (by omega)) (by rw [f1 0 (by omega)]) (fun c' h => f1 c' (by unfold inW at h; omega)) (n2 53 (by omega) (by omega) (by omega) (by omega)) (n1 343 (by omega)), Dr_cg hD (f1 113 (by omega)), ⟨⟨0, Nat.zero_le _, h1, e8, fun j hj => absurd hj (Nat.not_lt_zero j)⟩, h2, h3, fun j hj => by rw [n1 318 (by omega)]; exact hTp.2.2.2 j hj⟩, fun c' h => f1 c' (by omega), fun c' h => n1 c' (by omega)⟩
  have k1 : KM (txN N) A S F T := KM_cg hT.2.1 (fun c' h => by funext j; exact tx_at (Or.inl (by omega))) (fun j h => tx_at (Or.inr (by omega)))
  have k2 : KM N2 A S F T := KM_low k1 hT.2.2 f2
  exact KM_cg k2 (fun c' h => e1 c' (by omega)) (fun j h => e2 j (by omega) (by omega) (by omega))
theorem sW_k : ∀ k, k < 4 → sW (nI k) = nI (kW k) := by decide +kernel
/-- a law is taken -/
theorem take_0 (hz : 1000 ≤ z) (hW : Wo c M N W P) (hT : To M N A S F T) (hI : Im c M N) (hD : Dr M) (hTp : Tp M N) {c1 : Nat} (h16 : c1 ≤ 16) (hn : M 102 3 = nI c1) {i : Nat} (hR : RLaw c1 i M N) :
    ∃ M' N', F_Told_take 28 (nI 0) M = some M' ∧ F_Mod_takesLaw z (nI c1) N = some N' ∧ Iv c M' N' ∧ (∀ c', 312 ≤ c' → M' c' = M c') ∧ ∀ c', c' < 312 → N' c' = N c' := by
  obtain ⟨hi4, cc, cm, r1, r2, r3, r4, r5, r6⟩ := hR
  have hch : ∀ j, ∃ FG : (En → Int32) × Option (En → Int32), j < c1 → ∃ w b e e2 b' e' e2', w ≤ 2 ∧ (M 103 (j * 5 + 0) = nI w ∧ M 103 (j * 5 + 1) = nI b ∧ M 103 (j * 5 + 2) = nI e ∧ M 103 (j * 5 + 3) = nI e2) ∧ (N 320 (32 + j) = nI w ∧ N 321 (32 + j) = nI b' ∧ N 322 (32 + j) = nI e' ∧ N 323 (32 + j) = nI e2') ∧
      LnC (M 104) b e e2 FG.1 FG.2 ∧ LnM (dr N 324) (dr N 325) b' e' e2' FG.1 FG.2 ∧ e2 ≤ cc ∧ e2' ≤ cm := fun j => by
    by_cases hj : j < c1
    · obtain ⟨w, b, e, e2, b', e', e2', F, G, h⟩ := r6 j hj
      exact ⟨(F, G), fun _ => ⟨w, b, e, e2, b', e', e2', h⟩⟩
    · exact ⟨(fun _ => nI 0, none), fun h => absurd h hj⟩
  obtain ⟨FG, hFG⟩ : ∃ FG : Nat → (En → Int32) × Option (En → Int32), ∀ j, j < c1 → ∃ w b e e2 b' e' e2', w ≤ 2 ∧ (M 103 (j * 5 + 0) = nI w ∧ M 103 (j * 5 + 1) = nI b ∧ M 103 (j * 5 + 2) = nI e ∧ M 103 (j * 5 + 3) = nI e2) ∧ (N 320 (32 + j) = nI w ∧ N 321 (32 + j) = nI b' ∧ N 322 (32 + j) = nI e' ∧ N 323 (32 + j) = nI e2') ∧
      LnC (M 104) b e e2 (FG j).1 (FG j).2 ∧ LnM (dr N 324) (dr N 325) b' e' e2' (FG j).1 (FG j).2 ∧ e2 ≤ cc ∧ e2' ≤ cm := ⟨fun j => Classical.choose (hch j), fun j => Classical.choose_spec (hch j)⟩
  obtain ⟨A', dA⟩ : ∃ A' : LA, A' = (c1, fun j => M 103 (j * 5 + 0), fun j => (FG j).1, fun j => (FG j).2) := ⟨_, rfl⟩
  have a1 : aN A' = c1 := by rw [dA]
  have a2 : ∀ j, aW A' j = M 103 (j * 5 + 0) := fun j => by rw [dA]
  have a3 : ∀ j, aF A' j = (FG j).1 := fun j => by rw [dA]
  have a4 : ∀ j, aG A' j = (FG j).2 := fun j => by rw [dA]
  obtain ⟨M', t1, t2, t3⟩ := law_take (M := M) (A := A') (cs := cc) (by omega) (by rw [a1]; exact hn) (by omega) r3 (fun j hj => by
    obtain ⟨w, b, e, e2, b', e', e2', x1, x2, x3, x4, x5, x6, x7⟩ := hFG j (by omega)
    exact ⟨b, e, e2, (a2 j).symm, x2.2.1, x2.2.2.1, x2.2.2.2, x6, by rw [a3, a4]; exact x4⟩)
  obtain ⟨Na, u1, u2, u3⟩ := tl_1 (z := z) (n := c1) h16 c1 0 z N (by omega) (by omega)
  obtain ⟨Nb, v1, v2, v3⟩ := tl_2 (z := z) (n := cm) (by omega) cm 0 z Na (by omega) (by omega) (by rw [u2 312 (by omega)]; exact r4)
  obtain ⟨N', dN⟩ : ∃ N', N' = up Nb 319 0 (nI c1) := ⟨_, rfl⟩
  have m1 : ∀ c', ¬ (29 ≤ c' ∧ c' ≤ 32) → M' c' = M c' := fun c' h => t3 c' (by simp only [List.mem_cons, List.not_mem_nil, or_false]; omega)
  have n1 : ∀ c', ¬ (319 ≤ c' ∧ c' ≤ 325) → N' c' = N c' := fun c' h => by rw [dN, upC (by omega), v2 c' (by omega) (by omega), u2 c' (by omega)]
  have n2 : ∀ c' q, 320 ≤ c' → c' ≤ 323 → q < c1 → N' c' q = N c' (32 + q) := fun c' q p r h => by rw [dN, up_neC _ _ _ _ (by omega), v2 c' (by omega) (by omega), u3 c' q p r, if_pos ⟨Nat.zero_le _, h⟩]
  have n3 : ∀ c' q, (c' = 324 ∨ c' = 325) → q < cm → N' c' q = N c' (800 + q) := fun c' q p h => by rw [dN, up_neC _ _ _ _ (by omega), v3 c' q p, if_pos ⟨Nat.zero_le _, h⟩, u2 c' (by omega)]
  have hML : ML N' A' := by
    refine ⟨by omega, by rw [dN, up_same, a1], fun j hj => ?_⟩
    obtain ⟨w, b, e, e2, b', e', e2', x1, x2, x3, x4, x5, x6, x7⟩ := hFG j (by omega)
    obtain ⟨y1, y2, y3⟩ := x5
    refine ⟨b', e', e2', by rw [n2 320 j (by omega) (by omega) (by omega), x3.1, a2, x2.1], by rw [n2 321 j (by omega) (by omega) (by omega)]; exact x3.2.1, by rw [n2 322 j (by omega) (by omega) (by omega)]; exact x3.2.2.1, by rw [n2 323 j (by omega) (by omega) (by omega)]; exact x3.2.2.2, y1, by omega, ?_, ?_⟩
    · rw [a3]
      exact DenM_cg y2 (fun q hq => ⟨n3 324 q (by omega) (by omega), n3 325 q (by omega) (by omega)⟩)
    · rw [a4]
      cases hg : (FG j).2 with
      | none => rw [hg] at y3; exact y3
      | some g =>
        rw [hg] at y3
        exact ⟨y3.1, DenM_cg y3.2 (fun q hq => ⟨n3 324 q (by omega) (by omega), n3 325 q (by omega) (by omega)⟩)⟩
  obtain ⟨⟨k1, k2, k3, k4⟩, ⟨l1, l2, l3, l4⟩, ok⟩ := hT
  refine ⟨M', N', ?_, ?_, ⟨W, P, A', S, F, T, Wo_cg hW (fun c' h => m1 c' (by unfold inW at h; omega)) (fun j _ => by rw [m1 0 (by omega)]) (fun c' h => n1 c' (by omega)) (fun j _ => by rw [n1 312 (by omega)]), ⟨⟨t2, ?_, ?_, CT_cg k4 (fun c' a b => m1 c' (by omega))⟩, ⟨hML, ?_, ?_, MT_cg l4 (fun j _ => by rw [n1 312 (by omega)]) (fun c' h => n1 c' (by omega))⟩, ok⟩, Im_cg hI (by rw [m1 0 (by omega)]) (fun c' h => m1 c' (by unfold inW at h; omega)) (by rw [n1 312 (by omega)]) (n1 343 (by omega)), Dr_cg hD (m1 113 (by omega)), Tp_cg hTp (m1 100 (by omega)) (m1 101 (by omega)) (fun j _ => by rw [n1 312 (by omega)]) (n1 317 (by omega)) (n1 318 (by omega))⟩, fun c' h => m1 c' (by omega), fun c' h => n1 c' (by omega)⟩
  · unfold F_Told_take
    rw [if_pos rfl, t1, ob1_ok]
  · unfold F_Mod_takesLaw
    rw [u1, ob1_ok, v1, ob1_ok, wa_ok (by omega) (by omega), ob1_ok, dN]
  · unfold RwS
    rw [m1 36 (by omega), m1 37 (by omega)]
    exact k2
  · unfold RwF
    rw [m1 34 (by omega), m1 35 (by omega)]
    exact k3
  · unfold RMs
    rw [n1 312 (by omega), n1 328 (by omega)]
    exact l2
  · unfold RMf
    rw [n1 312 (by omega), n1 327 (by omega)]
    exact l3
end SD8
