/-! ===== flights, skies, strips are taken; text as a call ===== -/
section SD9
variable {z c : Nat} {M N M' N' N2 : mM} {A : LA} {S F : Rw} {T : Tx} {W : Wd} {P : Ps} {k : Int32}
theorem take_1 (hz : 1000 ≤ z) (hW : Wo c M N W P) (hT : To M N A S F T) (hI : Im c M N) (hD : Dr M) (hTp : Tp M N) {c1 : Nat} (h16 : c1 ≤ 16) (hn : M 102 3 = nI c1) (hR : RFli c1 M N) :
    ∃ M1 N', F_Told_take 28 (nI 1) M = some M1 ∧ F_Mod_takesOther z (nI 1) (nI c1) N = some N' ∧ Iv c (up M1 0 7 (nI 0)) N' ∧ (∀ c', 312 ≤ c' → M1 c' = M c') ∧ ∀ c', c' < 312 → N' c' = N c' := by
  obtain ⟨M1, t1, t2, t3, t4⟩ := rows_copy (M := M) (r0 := 34) (ro := 102) (wd := 5) (mo := 16) hn h16 (by omega) (by omega) (by omega)
  obtain ⟨Na, u1, u2, u3⟩ := to_2 (z := z) (n := c1) h16 (5 * c1) 0 z N (by omega) (by omega)
  obtain ⟨N', dN⟩ : ∃ N', N' = up (up Na 312 30 (nI c1)) 312 3 (nI 0) := ⟨_, rfl⟩
  obtain ⟨M', dM⟩ : ∃ M', M' = up M1 0 7 (nI 0) := ⟨_, rfl⟩
  have m0 : ∀ c', c' ≠ 34 → c' ≠ 35 → M1 c' = M c' := fun c' a b => t4 c' (by simp only [List.mem_cons, List.not_mem_nil, or_false]; omega)
  have m1 : ∀ c', c' ≠ 0 → c' ≠ 34 → c' ≠ 35 → M' c' = M c' := fun c' h a b => by rw [dM, upC h, m0 c' a b]
  have m2 : ∀ j, j ≠ 7 → M' 0 j = M 0 j := fun j h => by rw [dM, up_neJ _ _ _ h, m0 0 (by omega) (by omega)]
  have n1 : ∀ c', c' ≠ 312 → c' ≠ 327 → N' c' = N c' := fun c' h h' => by rw [dN, upC h, upC h, u2 c' h']
  have n2 : ∀ j, j ≠ 3 → j ≠ 30 → N' 312 j = N 312 j := fun j h h' => by rw [dN, up_neJ _ _ _ h, up_neJ _ _ _ h', u2 312 (by omega)]
  obtain ⟨⟨k1, k2, k3, k4⟩, ⟨l1, l2, l3, l4⟩, o1, o2, o3⟩ := hT
  have e103 : ∀ j k, j < c1 → k < 5 → M' 35 (j * 5 + k) = M 103 (j * 5 + k) := fun j k hj hk => by rw [dM, up_neC _ _ _ _ (by omega)]; exact t3 _ (by omega)
  refine ⟨M1, N', ?_, ?_, ?_, fun c' h => m0 c' (by omega) (by omega), fun c' h => n1 c' (by omega) (by omega)⟩
  · unfold F_Told_take
    rw [if_neg (show ¬ nI 1 = nI 0 from by decide), if_pos rfl, t1, ob1_ok]
  · unfold F_Mod_takesOther
    rw [if_neg (show ¬ nI 1 = nI 3 from by decide), if_pos rfl, u1, ob1_ok, ob1_ok, ob1_ok, ob1_ok, dN]
  · rw [← dM]
    refine ⟨W, (0, P.2), A, S, (c1, fun j k => M 103 (j * 5 + k)), T, Wo_nil hW (fun c' h => m1 c' (by unfold inW at h; omega) (by unfold inW at h; omega) (by unfold inW at h; omega)) (m2 6 (by omega)) (by rw [dM, up_same]) (fun c' h => n1 c' (by omega) (by omega)) (by rw [dN, up_same]) (n2 5 (by omega) (by omega)), ⟨⟨CL_congr k1 (fun c' a b => m1 c' (by omega) (by omega) (by omega)), ?_, ⟨?_, fun j k hj hk => e103 j k hj hk⟩, CT_cg k4 (fun c' a b => m1 c' (by omega) (by omega) (by omega))⟩, ⟨ML_congr l1 (fun c' a b => n1 c' (by omega) (by omega)), ?_, ⟨?_, fun j k hj hk => ?_⟩, MT_cg l4 (fun j _ => n2 j (by omega) (by omega)) (fun c' h => n1 c' (by omega) (by omega))⟩, o1, ⟨h16, fun j hj => ?_⟩, o3⟩, Im_cg hI (m2 4 (by omega)) (fun c' h => m1 c' (by unfold inW at h; omega) (by unfold inW at h; omega) (by unfold inW at h; omega)) (n2 53 (by omega) (by omega)) (n1 343 (by omega) (by omega)), Dr_cg hD (m1 113 (by omega) (by omega) (by omega)), Tp_cg hTp (m1 100 (by omega) (by omega) (by omega)) (m1 101 (by omega) (by omega) (by omega)) (fun j _ => n2 j (by omega) (by omega)) (n1 317 (by omega) (by omega)) (n1 318 (by omega) (by omega))⟩
    · unfold RwS
      rw [m1 36 (by omega) (by omega) (by omega), m1 37 (by omega) (by omega) (by omega)]
      exact k2
    · rw [dM, up_neC _ _ _ _ (by omega)]
      exact t2
    · unfold RMs
      rw [n2 32 (by omega) (by omega), n1 328 (by omega) (by omega)]
      exact l2
    · rw [dN, up_neJ _ _ _ (by omega), up_same]
    · obtain ⟨y, p, a, b, d, x1, x2, x3, x4, x5, x6, x7, x8, x9, x10, x11, x12, x13, x14, x15, x16⟩ := hR j hj
      have e : N' 327 (5 * j + k) = N 327 (80 + (5 * j + k)) := by
        have hj' : j < c1 := hj
        rw [dN, up_neC _ _ _ _ (by omega), up_neC _ _ _ _ (by omega), u3, if_pos ⟨Nat.zero_le _, by omega⟩]
      rw [e]
      show N 327 (80 + (5 * j + k)) = M 103 (j * 5 + k)
      have hk' : k = 0 ∨ k = 1 ∨ k = 2 ∨ k = 3 ∨ k = 4 := by omega
      rcases hk' with rfl | rfl | rfl | rfl | rfl
      · rw [x7]; exact x12
      · rw [x8]; exact x13
      · rw [x9]; exact x14
      · rw [x10]; exact x15
      · rw [x11]; exact x16
    · obtain ⟨y, p, a, b, d, x1, x2, x3, x4, x5, x6, x7, x8, x9, x10, x11, -⟩ := hR j hj
      exact ⟨⟨a, x3, x4, x9⟩, d, by omega, x11⟩
theorem take_2 (hz : 1000 ≤ z) (hW : Wo c M N W P) (hT : To M N A S F T) (hI : Im c M N) (hD : Dr M) (hTp : Tp M N) {c1 : Nat} (h16 : c1 ≤ 16) (hn : M 102 3 = nI c1) (hR : RSky c1 M N) :
    ∃ M1 N', F_Told_take 28 (nI 2) M = some M1 ∧ F_Mod_takesOther z (nI 2) (nI c1) N = some N' ∧ Iv c (up M1 0 7 (nI 0)) N' ∧ (∀ c', 312 ≤ c' → M1 c' = M c') ∧ ∀ c', c' < 312 → N' c' = N c' := by
  obtain ⟨M1, t1, t2, t3, t4⟩ := rows_copy (M := M) (r0 := 36) (ro := 102) (wd := 5) (mo := 16) hn h16 (by omega) (by omega) (by omega)
  obtain ⟨Na, u1, u2, u3⟩ := to_1 (z := z) (n := c1) h16 (4 * c1) 0 z N (by omega) (by omega)
  obtain ⟨N', dN⟩ : ∃ N', N' = up (up Na 312 32 (nI c1)) 312 3 (nI 0) := ⟨_, rfl⟩
  obtain ⟨M', dM⟩ : ∃ M', M' = up M1 0 7 (nI 0) := ⟨_, rfl⟩
  have m0 : ∀ c', c' ≠ 36 → c' ≠ 37 → M1 c' = M c' := fun c' a b => t4 c' (by simp only [List.mem_cons, List.not_mem_nil, or_false]; omega)
  have m1 : ∀ c', c' ≠ 0 → c' ≠ 36 → c' ≠ 37 → M' c' = M c' := fun c' h a b => by rw [dM, upC h, m0 c' a b]
  have m2 : ∀ j, j ≠ 7 → M' 0 j = M 0 j := fun j h => by rw [dM, up_neJ _ _ _ h, m0 0 (by omega) (by omega)]
  have n1 : ∀ c', c' ≠ 312 → c' ≠ 328 → N' c' = N c' := fun c' h h' => by rw [dN, upC h, upC h, u2 c' h']
  have n2 : ∀ j, j ≠ 3 → j ≠ 32 → N' 312 j = N 312 j := fun j h h' => by rw [dN, up_neJ _ _ _ h, up_neJ _ _ _ h', u2 312 (by omega)]
  obtain ⟨⟨k1, k2, k3, k4⟩, ⟨l1, l2, l3, l4⟩, o1, o2, o3⟩ := hT
  have e103 : ∀ j k, j < c1 → k < 5 → M' 37 (j * 5 + k) = M 103 (j * 5 + k) := fun j k hj hk => by rw [dM, up_neC _ _ _ _ (by omega)]; exact t3 _ (by omega)
  refine ⟨M1, N', ?_, ?_, ?_, fun c' h => m0 c' (by omega) (by omega), fun c' h => n1 c' (by omega) (by omega)⟩
  · unfold F_Told_take
    rw [if_neg (show ¬ nI 2 = nI 0 from by decide), if_neg (show ¬ nI 2 = nI 1 from by decide), if_pos rfl, t1, ob1_ok]
  · unfold F_Mod_takesOther
    rw [if_neg (show ¬ nI 2 = nI 3 from by decide), if_neg (show ¬ nI 2 = nI 1 from by decide), u1, ob1_ok, ob1_ok, ob1_ok, ob1_ok, dN]
  · rw [← dM]
    refine ⟨W, (0, P.2), A, (c1, fun j k => N 328 (64 + 4 * j + k)), F, T, Wo_nil hW (fun c' h => m1 c' (by unfold inW at h; omega) (by unfold inW at h; omega) (by unfold inW at h; omega)) (m2 6 (by omega)) (by rw [dM, up_same]) (fun c' h => n1 c' (by omega) (by omega)) (by rw [dN, up_same]) (n2 5 (by omega) (by omega)), ⟨⟨CL_congr k1 (fun c' a b => m1 c' (by omega) (by omega) (by omega)), ⟨?_, fun j hj => ?_⟩, ?_, CT_cg k4 (fun c' a b => m1 c' (by omega) (by omega) (by omega))⟩, ⟨ML_congr l1 (fun c' a b => n1 c' (by omega) (by omega)), ⟨?_, fun j k hj hk _ => ?_⟩, ?_, MT_cg l4 (fun j _ => n2 j (by omega) (by omega)) (fun c' h => n1 c' (by omega) (by omega))⟩, ⟨h16, fun j hj => ?_⟩, o2, o3⟩, Im_cg hI (m2 4 (by omega)) (fun c' h => m1 c' (by unfold inW at h; omega) (by unfold inW at h; omega) (by unfold inW at h; omega)) (n2 53 (by omega) (by omega)) (n1 343 (by omega) (by omega)), Dr_cg hD (m1 113 (by omega) (by omega) (by omega)), Tp_cg hTp (m1 100 (by omega) (by omega) (by omega)) (m1 101 (by omega) (by omega) (by omega)) (fun j _ => n2 j (by omega) (by omega)) (n1 317 (by omega) (by omega)) (n1 318 (by omega) (by omega))⟩
    · rw [dM, up_neC _ _ _ _ (by omega)]
      exact t2
    · obtain ⟨a, kk, b, d, x1, x2, x3, x4, x5, x6, x7, x8, x9, x10, x11, x12, x13, x14⟩ := hR j hj
      have y0 : N 328 (64 + 4 * j + 0) = nI a := x11
      show M' 37 (j * 5 + 0) = N 328 (64 + 4 * j + 0) ∧ M' 37 (j * 5 + 1) = sW (N 328 (64 + 4 * j + 1)) ∧ M' 37 (j * 5 + 2) = N 328 (64 + 4 * j + 2) ∧ (N 328 (64 + 4 * j + 1) = nI 2 → M' 37 (j * 5 + 3) = N 328 (64 + 4 * j + 3))
      rw [e103 j 0 hj (by omega), e103 j 1 hj (by omega), e103 j 2 hj (by omega), e103 j 3 hj (by omega), x7, x8, x9, y0, x12, x13, x14, sW_k kk x2]
      exact ⟨rfl, rfl, rfl, fun e => x10 ((nI_inj (by omega) (by omega)).mp e)⟩
    · unfold RwF
      rw [m1 34 (by omega) (by omega) (by omega), m1 35 (by omega) (by omega) (by omega)]
      exact k3
    · rw [dN, up_neJ _ _ _ (by omega), up_same]
    · have hj' : j < c1 := hj
      show N' 328 (4 * j + k) = N 328 (64 + 4 * j + k)
      rw [dN, up_neC _ _ _ _ (by omega), up_neC _ _ _ _ (by omega), u3, if_pos ⟨Nat.zero_le _, by omega⟩, show 64 + (4 * j + k) = 64 + 4 * j + k by omega]
    · unfold RMf
      rw [n2 30 (by omega) (by omega), n1 327 (by omega) (by omega)]
      exact l3
    · obtain ⟨a, kk, b, d, x1, x2, x3, x4, x5, x6, x7, x8, x9, x10, x11, x12, x13, x14⟩ := hR j hj
      show N 328 (64 + 4 * j + 1) = nI 0 ∨ N 328 (64 + 4 * j + 1) = nI 1 ∨ (N 328 (64 + 4 * j + 1) = nI 2 ∧ (∃ i, i < 60 ∧ N 328 (64 + 4 * j + 2) = nI i) ∧ ∃ g, g ≤ 99 ∧ N 328 (64 + 4 * j + 3) = nI g) ∨ (N 328 (64 + 4 * j + 1) = nI 3 ∧ ∃ g, 1 ≤ g ∧ g ≤ 99 ∧ N 328 (64 + 4 * j + 2) = nI g)
      rw [x12, x13, x14]
      have hk' : kk = 0 ∨ kk = 1 ∨ kk = 2 ∨ kk = 3 := by omega
      rcases hk' with rfl | rfl | rfl | rfl
      · exact Or.inl rfl
      · exact Or.inr (Or.inl rfl)
      · have := x5 rfl
        exact Or.inr (Or.inr (Or.inl ⟨rfl, ⟨b, by omega, rfl⟩, d, x4, rfl⟩))
      · exact Or.inr (Or.inr (Or.inr ⟨rfl, b, x6 rfl, x3, rfl⟩))
theorem take_3 (hz : 1000 ≤ z) (hW : Wo c M N W P) (hT : To M N A S F T) (hI : Im c M N) (hD : Dr M) (hTp : Tp M N) {c1 : Nat} (h16 : c1 ≤ 16) (hn : M 102 3 = nI c1) (hR : RStr c1 M N) :
    ∃ M' N', F_Told_take 28 (nI 3) M = some M' ∧ F_Mod_takesOther z (nI 3) (nI c1) N = some N' ∧ Iv c M' N' ∧ (∀ c', 312 ≤ c' → M' c' = M c') ∧ ∀ c', c' < 312 → N' c' = N c' := by
  obtain ⟨M', t1, t2, t3, t4⟩ := rows_copy (M := M) (r0 := 38) (ro := 102) (wd := 5) (mo := 16) hn h16 (by omega) (by omega) (by omega)
  obtain ⟨Na, u1, u2, u3⟩ := to_3 (z := z) 12 0 z N (by omega) (by omega)
  obtain ⟨N', dN⟩ : ∃ N', N' = up Na 312 34 (nI c1) := ⟨_, rfl⟩
  have m1 : ∀ c', c' ≠ 38 → c' ≠ 39 → M' c' = M c' := fun c' a b => t4 c' (by simp only [List.mem_cons, List.not_mem_nil, or_false]; omega)
  have n1 : ∀ c', c' ≠ 312 → c' ≠ 329 → N' c' = N c' := fun c' h h' => by rw [dN, upC h, u2 c' h']
  have n2 : ∀ j, j ≠ 34 → N' 312 j = N 312 j := fun j h => by rw [dN, up_neJ _ _ _ h, u2 312 (by omega)]
  obtain ⟨⟨k1, k2, k3, k4⟩, ⟨l1, l2, l3, l4⟩, o1, o2, o3⟩ := hT
  obtain ⟨c1', c2, c3, c4, c5, c6⟩ := k4
  obtain ⟨d1, d2, d3, d4, d5, d6⟩ := l4
  obtain ⟨p1, p2, p3, p4, p5, p6⟩ := o3
  refine ⟨M', N', ?_, ?_, ⟨W, P, A, S, F, ((c1, fun j k => M 103 (j * 5 + k)), T.2), Wo_cg hW (fun c' h => m1 c' (by unfold inW at h; omega) (by unfold inW at h; omega)) (fun j _ => by rw [m1 0 (by omega) (by omega)]) (fun c' h => n1 c' (by omega) (by omega)) (fun j _ => n2 j (by omega)), ⟨⟨CL_congr k1 (fun c' a b => m1 c' (by omega) (by omega)), ?_, ?_, ⟨⟨t2, fun j k hj hk => t3 _ (by have hj' : j < c1 := hj; omega)⟩, RwG_fr c2 (m1 40 (by omega) (by omega)) (m1 41 (by omega) (by omega)), RwG_fr c3 (m1 42 (by omega) (by omega)) (m1 43 (by omega) (by omega)), RwG_fr c4 (m1 44 (by omega) (by omega)) (m1 45 (by omega) (by omega)), RwG_fr c5 (m1 46 (by omega) (by omega)) (m1 47 (by omega) (by omega)), RwG_fr c6 (m1 48 (by omega) (by omega)) (m1 49 (by omega) (by omega))⟩⟩, ⟨ML_congr l1 (fun c' a b => n1 c' (by omega) (by omega)), ?_, ?_, ⟨⟨?_, fun s hs => ?_⟩, ?_, ?_, ?_, ?_, ?_⟩⟩, o1, o2, ⟨⟨h16, fun j hj => ⟨hR.1 j 0 hj (by omega), hR.1 j 1 hj (by omega)⟩⟩, p2, p3, p4, p5, p6⟩⟩, Im_cg hI (by rw [m1 0 (by omega) (by omega)]) (fun c' h => m1 c' (by unfold inW at h; omega) (by unfold inW at h; omega)) (n2 53 (by omega)) (n1 343 (by omega) (by omega)), Dr_cg hD (m1 113 (by omega) (by omega)), Tp_cg hTp (m1 100 (by omega) (by omega)) (m1 101 (by omega) (by omega)) (fun j _ => n2 j (by omega)) (n1 317 (by omega) (by omega)) (n1 318 (by omega) (by omega))⟩, fun c' h => m1 c' (by omega) (by omega), fun c' h => n1 c' (by omega) (by omega)⟩
  · unfold F_Told_take
    rw [if_neg (show ¬ nI 3 = nI 0 from by decide), if_neg (show ¬ nI 3 = nI 1 from by decide), if_neg (show ¬ nI 3 = nI 2 from by decide), if_pos rfl, t1, ob1_ok]
  · unfold F_Mod_takesOther
    rw [if_pos rfl, u1, ob1_ok, ob1_ok, dN]
  · unfold RwS
    rw [m1 36 (by omega) (by omega), m1 37 (by omega) (by omega)]
    exact k2
  · unfold RwF
    rw [m1 34 (by omega) (by omega), m1 35 (by omega) (by omega)]
    exact k3
  · unfold RMs
    rw [n2 32 (by omega), n1 328 (by omega) (by omega)]
    exact l2
  · unfold RMf
    rw [n2 30 (by omega), n1 327 (by omega) (by omega)]
    exact l3
  · rw [dN, up_same]
  · rw [dN, up_neC _ _ _ _ (by omega), u3, if_pos ⟨Nat.zero_le _, hs⟩]
    exact hR.2 s hs
  · rw [n2 39 (by omega), n1 333 (by omega) (by omega)]
    exact d2
  · rw [n2 42 (by omega), n1 335 (by omega) (by omega), n1 336 (by omega) (by omega)]
    exact d3
  · rw [n2 45 (by omega), n1 337 (by omega) (by omega)]
    exact d4
  · rw [n1 338 (by omega) (by omega), n1 339 (by omega) (by omega)]
    exact d5
  · rw [n1 338 (by omega) (by omega), n1 339 (by omega) (by omega)]
    exact d6
end SD9
