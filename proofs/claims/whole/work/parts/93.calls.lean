/-! ===== each public call keeps the invariant and answers alike ===== -/
def ro {B : Type} (f : mM → Option B) : mM → Option (B × mM) := fun M => ob1 (f M) fun v => some (v, M)
section S93
variable {z c : Nat} {M N M' N' : mM} {W : Wd} {P : Ps} {A : LA} {S F : Rw} {T : Tx}
theorem ok_ro {B : Type} {f g : mM → Option B} (h : ∀ c M N, c + 1000 < 2147483648 → Iv c M N → ∃ v, f M = some v ∧ g N = some v) : CallOK (ro f) (ro g) := by
  intro c M N hc hIv
  obtain ⟨v, h1, h2⟩ := h c M N hc hIv
  refine ⟨v, M, N, ?_, ?_, Iv_mono hIv (by omega), fun _ _ => rfl, fun _ _ => rfl⟩
  · unfold ro
    rw [h1, ob1_ok]
  · unfold ro
    rw [h2, ob1_ok]
theorem ok_scr {B : Type} {f g : mM → Option (B × mM)} (L L' : List Nat) (hL : ∀ c', c' ∈ L → c' = 33 ∨ (136 ≤ c' ∧ c' ≤ 149)) (hL' : ∀ c', c' ∈ L' → c' ∈ [330, 331, 332, 334, 340, 341, 342]) (h : ∀ c M N, c + 1000 < 2147483648 → Iv c M N → ∃ v M' N', f M = some (v, M') ∧ g N = some (v, N') ∧ Fr L M M' ∧ Fr L' N N') : CallOK f g := by
  intro c M N hc hIv
  obtain ⟨v, M', N', h1, h2, h3, h4⟩ := h c M N hc hIv
  have e1 : ∀ c', c' ≠ 33 → ¬ (136 ≤ c' ∧ c' ≤ 149) → M' c' = M c' := fun c' a b => h3 c' (fun h => (hL c' h).elim a b)
  have hD : Dr M := by
    obtain ⟨W, P, A, S, F, T, -, -, -, h, -⟩ := hIv
    exact h
  refine ⟨v, M', N', h1, h2, Iv_mono (Iv_scr hIv (fun c' _ a b _ => e1 c' a (by omega)) (Dr_cg hD (e1 113 (by omega) (by omega))) (fun c' _ a => h4 c' (fun h => a (hL' c' h)))) (by omega), fun c' h => e1 c' (by omega) (by omega), fun c' h => h4 c' (fun h' => ?_)⟩
  have := hL' c' h'
  simp only [List.mem_cons, List.not_mem_nil, or_false] at this
  omega
theorem Iv_5 (hT : To M N A S F T) (hI : Im c M N) (hD : Dr M) (hTp : Tp M N) (h5 : N 312 5 = bI false) (h : OK5 c M M' N N') : Iv (c + 1000) M' N' ∧ (∀ c', 312 ≤ c' → M' c' = M c') ∧ ∀ c', c' < 312 → N' c' = N c' := by
  obtain ⟨W', P', g1, g2, g3, ⟨g4, g5⟩, g6, g7⟩ := h
  have nn : ∀ c', c' ≠ 312 → c' ≠ 313 → c' ≠ 314 → c' ≠ 316 → c' ≠ 330 → c' ≠ 331 → N' c' = N c' := fun c' a1 a2 a3 a4 a5 a6 => g6 c' (by simp only [List.mem_cons, List.not_mem_nil, or_false]; omega)
  have mm : ∀ c', c' ≠ 0 → ¬ inW 1 c' → c' ≠ 33 → (c' < 150 ∨ 312 ≤ c') → M' c' = M c' := g4
  refine ⟨⟨W', P', A, S, F, T, ⟨g1, g2, g3, by rw [g7 5 (by omega)]; exact h5⟩, To_cg hT (fun c' a b d => mm c' (by omega) (by unfold inW; omega) d (by omega)) (fun c' h => nn c' (by omega) (by omega) (by omega) (by omega) (by omega) (by omega)) (fun j h => g7 j (by omega)), Im_cg (Im_mono hI (by omega)) (g5 4 (by omega) (by omega)) (fun c' h => mm c' (by unfold inW at h; omega) (by unfold inW at *; omega) (by unfold inW at h; omega) (by unfold inW at h; omega)) (g7 53 (by omega)) (nn 343 (by omega) (by omega) (by omega) (by omega) (by omega) (by omega)),
    Dr_cg hD (mm 113 (by omega) (by unfold inW; omega) (by omega) (by omega)), Tp_cg hTp (mm 100 (by omega) (by unfold inW; omega) (by omega) (by omega)) (mm 101 (by omega) (by unfold inW; omega) (by omega) (by omega)) (fun j h => g7 j (by omega)) (nn 317 (by omega) (by omega) (by omega) (by omega) (by omega) (by omega)) (nn 318 (by omega) (by omega) (by omega) (by omega) (by omega) (by omega))⟩, fun c' h => mm c' (by omega) (by unfold inW; omega) (by omega) (Or.inr h), fun c' h => nn c' (by omega) (by omega) (by omega) (by omega) (by omega) (by omega)⟩
theorem Iv_T {L : List Nat} (hIv : Iv c M N) (hL : ∀ c', c' ∈ L → 40 ≤ c' ∧ c' ≤ 49) (h : OKT 28 L M M' N N') : Iv (c + 1000) M' N' ∧ (∀ c', 312 ≤ c' → M' c' = M c') ∧ ∀ c', c' < 312 → N' c' = N c' := by
  obtain ⟨W, P, A, S, F, T, hW, ⟨⟨k1, k2, k3, k4⟩, ⟨n1, n2, n3, n4⟩, oS, oF, oT⟩, hI, hD, hTp⟩ := hIv
  obtain ⟨T', t1, t2, t3, t4, t5, t6⟩ := h
  have mm : ∀ c', (c' < 40 ∨ 49 < c') → M' c' = M c' := fun c' a => t4 c' (fun h => by have := hL c' h; omega)
  have nn : ∀ c', c' ≠ 312 → c' ≠ 333 → ¬ (335 ≤ c' ∧ c' ≤ 339) → N' c' = N c' := fun c' a1 a2 a3 => t5 c' (by simp only [List.mem_cons, List.not_mem_nil, or_false]; omega)
  have n12 : ∀ j, j ≠ 39 → j ≠ 42 → j ≠ 45 → N' 312 j = N 312 j := t6
  refine ⟨⟨W, P, A, S, F, T', Wo_cg (c := c + 1000) ⟨IA_mono hW.1 (by omega), hW.2⟩ (fun c' h => mm c' (by unfold inW at h; omega)) (fun j _ => by rw [mm 0 (by omega)]) (fun c' h => nn c' (by omega) (by omega) (by omega)) (fun j h => n12 j (by omega) (by omega) (by omega)), ⟨⟨CL_congr k1 (fun c' a b => mm c' (by omega)), ?_, ?_, t2⟩, ⟨ML_congr n1 (fun c' a b => nn c' (by omega) (by omega) (by omega)), ?_, ?_, t3⟩, oS, oF, t1⟩,
    Im_cg (Im_mono hI (by omega)) (by rw [mm 0 (by omega)]) (fun c' h => mm c' (by unfold inW at h; omega)) (n12 53 (by omega) (by omega) (by omega)) (nn 343 (by omega) (by omega) (by omega)), Dr_cg hD (mm 113 (by omega)), Tp_cg hTp (mm 100 (by omega)) (mm 101 (by omega)) (fun j h => n12 j (by omega) (by omega) (by omega)) (nn 317 (by omega) (by omega) (by omega)) (nn 318 (by omega) (by omega) (by omega))⟩, fun c' h => mm c' (by omega), fun c' h => nn c' (by omega) (by omega) (by omega)⟩
  · unfold RwS
    rw [mm (28 + 8) (by omega), mm (28 + 8 + 1) (by omega)]
    exact k2
  · unfold RwF
    rw [mm (28 + 6) (by omega), mm (28 + 6 + 1) (by omega)]
    exact k3
  · unfold RMs
    rw [n12 32 (by omega) (by omega) (by omega), nn 328 (by omega) (by omega) (by omega)]
    exact n2
  · unfold RMf
    rw [n12 30 (by omega) (by omega) (by omega), nn 327 (by omega) (by omega) (by omega)]
    exact n3
theorem Iv_th (hW : Wo c M N W P) (hT : To M N A S F T) (hI : Im c M N) (hTp : Tp M N) (hD : Dr M') (e1 : ∀ c', ¬ inW 109 c' → c' ≠ 33 → M' c' = M c') (hR : RM N' W) (hP : PM N' P) (e0 : N' 312 = N 312) (e2 : ∀ c', c' ∉ [312, 313, 315, 316, 330, 331] → N' c' = N c') : Iv (c + 1000) M' N' ∧ (∀ c', 312 ≤ c' → M' c' = M c') ∧ ∀ c', c' < 312 → N' c' = N c' := by
  have nn : ∀ c', c' ≠ 313 → c' ≠ 315 → c' ≠ 316 → c' ≠ 330 → c' ≠ 331 → N' c' = N c' := fun c' a2 a3 a4 a5 a6 => by
    by_cases e : c' = 312
    · rw [e]; exact e0
    · exact e2 c' (by simp only [List.mem_cons, List.not_mem_nil, or_false]; omega)
  have n12 : ∀ j, N' 312 j = N 312 j := fun j => by rw [e0]
  obtain ⟨h1, ⟨⟨p, h2⟩, r, h3⟩, -, h8⟩ := hW
  refine ⟨⟨W, P, A, S, F, T, ⟨IA_mono h1 (by omega), ⟨⟨p, CW_congr h2 (fun c' h => e1 c' (by unfold inW at *; omega) (by unfold inW at h; omega))⟩, r, PC_cg h3 (fun c' h => e1 c' (by unfold inW; omega) (by omega)) (by rw [e1 0 (by unfold inW; omega) (by omega)]) (by rw [e1 0 (by unfold inW; omega) (by omega)])⟩, ⟨hR, hP⟩, by rw [n12 5]; exact h8⟩, To_cg hT (fun c' a b d => e1 c' (by unfold inW; omega) d) (fun c' h => nn c' (by omega) (by omega) (by omega) (by omega) (by omega)) (fun j _ => n12 j),
    Im_cg (Im_mono hI (by omega)) (by rw [e1 0 (by unfold inW; omega) (by omega)]) (fun c' h => e1 c' (by unfold inW at *; omega) (by unfold inW at h; omega)) (n12 53) (nn 343 (by omega) (by omega) (by omega) (by omega) (by omega)), hD, Tp_cg hTp (e1 100 (by unfold inW; omega) (by omega)) (e1 101 (by unfold inW; omega) (by omega)) (fun j _ => n12 j) (nn 317 (by omega) (by omega) (by omega) (by omega) (by omega)) (nn 318 (by omega) (by omega) (by omega) (by omega) (by omega))⟩, fun c' h => e1 c' (by unfold inW; omega) (by omega), fun c' h => nn c' (by omega) (by omega) (by omega) (by omega) (by omega)⟩
theorem ok_state (hz : 20000000 ≤ z) (v : Int32) : CallOK (F_Rec_state v) (F_Mod_state v) := by
  intro c M N hc hIv
  obtain ⟨W, P, A, S, F, T, hW, hT, hI, hD, hTp⟩ := id hIv
  obtain ⟨hIA, hIC, hIM, h5⟩ := id hW
  obtain ⟨⟨p, hC⟩, r, hP⟩ := id hIC
  obtain ⟨hR, hPM⟩ := id hIM
  obtain ⟨⟨k1, k2, k3, k4⟩, ⟨n1, n2, n3, n4⟩, oS, oF, oT⟩ := id hT
  have hf := hIA.1
  obtain ⟨v, M', N', g1, g2, g3⟩ := b_state hIA hIC hIM v
  exact ⟨v, M', N', g1, g2, Iv_5 hT hI hD hTp h5 g3⟩
theorem ok_set (hz : 20000000 ≤ z) (a b d : Int32) : CallOK (F_Rec_set z a b d) (F_Mod_set z a b d) := by
  intro c M N hc hIv
  obtain ⟨W, P, A, S, F, T, hW, hT, hI, hD, hTp⟩ := id hIv
  obtain ⟨hIA, hIC, hIM, h5⟩ := id hW
  obtain ⟨⟨p, hC⟩, r, hP⟩ := id hIC
  obtain ⟨hR, hPM⟩ := id hIM
  obtain ⟨⟨k1, k2, k3, k4⟩, ⟨n1, n2, n3, n4⟩, oS, oF, oT⟩ := id hT
  have hf := hIA.1
  obtain ⟨v, M', N', g1, g2, g3⟩ := b_set (z := z) (by omega) hIA hIC hIM a b d
  exact ⟨v, M', N', g1, g2, Iv_5 hT hI hD hTp h5 g3⟩
theorem ok_put (hz : 20000000 ≤ z) (a b d e : Int32) : CallOK (F_Rec_put z a b d e) (F_Mod_put z a b d e) := by
  intro c M N hc hIv
  obtain ⟨W, P, A, S, F, T, hW, hT, hI, hD, hTp⟩ := id hIv
  obtain ⟨hIA, hIC, hIM, h5⟩ := id hW
  obtain ⟨⟨p, hC⟩, r, hP⟩ := id hIC
  obtain ⟨hR, hPM⟩ := id hIM
  obtain ⟨⟨k1, k2, k3, k4⟩, ⟨n1, n2, n3, n4⟩, oS, oF, oT⟩ := id hT
  have hf := hIA.1
  obtain ⟨v, M', N', g1, g2, g3⟩ := b_put (z := z) (by omega) hIA hc hIC hIM h5 a b d e
  exact ⟨v, M', N', g1, g2, Iv_5 hT hI hD hTp h5 g3⟩
theorem ok_act (hz : 20000000 ≤ z) (a b d : Int32) : CallOK (F_Rec_act z a b d) (F_Mod_act z a b d) := by
  intro c M N hc hIv
  obtain ⟨W, P, A, S, F, T, hW, hT, hI, hD, hTp⟩ := id hIv
  obtain ⟨hIA, hIC, hIM, h5⟩ := id hW
  obtain ⟨⟨p, hC⟩, r, hP⟩ := id hIC
  obtain ⟨hR, hPM⟩ := id hIM
  obtain ⟨⟨k1, k2, k3, k4⟩, ⟨n1, n2, n3, n4⟩, oS, oF, oT⟩ := id hT
  have hf := hIA.1
  obtain ⟨v, M', N', g1, g2, g3⟩ := b_act (z := z) (by omega) hIA hc hIC hIM h5 a b d
  exact ⟨v, M', N', g1, g2, Iv_5 hT hI hD hTp h5 g3⟩
theorem ok_days (hz : 20000000 ≤ z) (n : Int32) : CallOK (F_Rec_days z n) (F_Mod_days z n) := by
  intro c M N hc hIv
  obtain ⟨W, P, A, S, F, T, hW, hT, hI, hD, hTp⟩ := id hIv
  obtain ⟨hIA, hIC, hIM, h5⟩ := id hW
  obtain ⟨⟨p, hC⟩, r, hP⟩ := id hIC
  obtain ⟨hR, hPM⟩ := id hIM
  obtain ⟨⟨k1, k2, k3, k4⟩, ⟨n1, n2, n3, n4⟩, oS, oF, oT⟩ := id hT
  have hf := hIA.1
  obtain ⟨v, M', N', g1, g2, g3⟩ := b_days (z := z) (by omega) oS oF hIA hc hIC hIM k1 n1 k2 k3 h5 n2 n3 n
  exact ⟨v, M', N', g1, g2, Iv_5 hT hI hD hTp h5 g3⟩
theorem ok_undo (hz : 20000000 ≤ z) : CallOK (F_Rec_undo z) (F_Mod_undo z) := by
  intro c M N hc hIv
  obtain ⟨W, P, A, S, F, T, hW, hT, hI, hD, hTp⟩ := id hIv
  obtain ⟨hIA, hIC, hIM, h5⟩ := id hW
  obtain ⟨⟨p, hC⟩, r, hP⟩ := id hIC
  obtain ⟨hR, hPM⟩ := id hIM
  obtain ⟨⟨k1, k2, k3, k4⟩, ⟨n1, n2, n3, n4⟩, oS, oF, oT⟩ := id hT
  have hf := hIA.1
  obtain ⟨v, M', N', g1, g2, g3⟩ := b_undo (z := z) (by omega) hIA hIC hIM
  exact ⟨v, M', N', g1, g2, Iv_5 hT hI hD hTp h5 g3⟩
theorem ok_kind (hz : 20000000 ≤ z) (v : Int32) : CallOK (F_Rec_kind v) (F_Mod_kind v) := by
  intro c M N hc hIv
  obtain ⟨W, P, A, S, F, T, hW, hT, hI, hD, hTp⟩ := id hIv
  obtain ⟨hIA, hIC, hIM, h5⟩ := id hW
  obtain ⟨⟨p, hC⟩, r, hP⟩ := id hIC
  obtain ⟨hR, hPM⟩ := id hIM
  obtain ⟨⟨k1, k2, k3, k4⟩, ⟨n1, n2, n3, n4⟩, oS, oF, oT⟩ := id hT
  have hf := hIA.1
  obtain ⟨v, M', N', g1, g2, g3⟩ := b_kind oT k4 n4 v
  exact ⟨v, M', N', g1, g2, Iv_T hIv (fun c' h => by simp only [List.mem_cons, List.not_mem_nil, or_false] at h; omega) g3⟩
theorem ok_words (hz : 20000000 ≤ z) (a b : Int32) : CallOK (F_Rec_words a b) (F_Mod_words a b) := by
  intro c M N hc hIv
  obtain ⟨W, P, A, S, F, T, hW, hT, hI, hD, hTp⟩ := id hIv
  obtain ⟨hIA, hIC, hIM, h5⟩ := id hW
  obtain ⟨⟨p, hC⟩, r, hP⟩ := id hIC
  obtain ⟨hR, hPM⟩ := id hIM
  obtain ⟨⟨k1, k2, k3, k4⟩, ⟨n1, n2, n3, n4⟩, oS, oF, oT⟩ := id hT
  have hf := hIA.1
  obtain ⟨v, M', N', g1, g2, g3⟩ := b_words oT k4 n4 a b
  exact ⟨v, M', N', g1, g2, Iv_T hIv (fun c' h => by simp only [List.mem_cons, List.not_mem_nil, or_false] at h; omega) g3⟩
theorem ok_sight (hz : 20000000 ≤ z) (v : Int32) : CallOK (F_Rec_sight v) (F_Mod_sight v) := by
  intro c M N hc hIv
  obtain ⟨W, P, A, S, F, T, hW, hT, hI, hD, hTp⟩ := id hIv
  obtain ⟨hIA, hIC, hIM, h5⟩ := id hW
  obtain ⟨⟨p, hC⟩, r, hP⟩ := id hIC
  obtain ⟨hR, hPM⟩ := id hIM
  obtain ⟨⟨k1, k2, k3, k4⟩, ⟨n1, n2, n3, n4⟩, oS, oF, oT⟩ := id hT
  have hf := hIA.1
  obtain ⟨v, M', N', g1, g2, g3⟩ := b_sight oT k4 n4 v
  exact ⟨v, M', N', g1, g2, Iv_T hIv (fun c' h => by simp only [List.mem_cons, List.not_mem_nil, or_false] at h; omega) g3⟩
theorem ok_vein (hz : 20000000 ≤ z) (a b d : Int32) : CallOK (F_Rec_vein a b d) (F_Mod_vein z a b d) := by
  intro c M N hc hIv
  obtain ⟨W, P, A, S, F, T, hW, hT, hI, hD, hTp⟩ := id hIv
  obtain ⟨hIA, hIC, hIM, h5⟩ := id hW
  obtain ⟨⟨p, hC⟩, r, hP⟩ := id hIC
  obtain ⟨hR, hPM⟩ := id hIM
  obtain ⟨⟨k1, k2, k3, k4⟩, ⟨n1, n2, n3, n4⟩, oS, oF, oT⟩ := id hT
  have hf := hIA.1
  obtain ⟨v, M', N', g1, g2, g3⟩ := b_vein (z := z) (by omega) oT k4 n4 a b d
  exact ⟨v, M', N', g1, g2, Iv_T hIv (fun c' h => by simp only [List.mem_cons, List.not_mem_nil, or_false] at h; omega) g3⟩
theorem ok_of (hz : 20000000 ≤ z) (a b : Int32) : CallOK (F_Rec_of z a b) (F_Mod_of z a b) := by
  refine ok_scr [33] [330, 331] (fun c' h => by simp only [List.mem_cons, List.not_mem_nil, or_false] at h; omega) (fun c' h => by simp only [List.mem_cons, List.not_mem_nil, or_false] at h ⊢; omega) (fun c M N hc hIv => ?_)
  obtain ⟨W, P, A, S, F, T, hW, hT, hI, hD, hTp⟩ := id hIv
  obtain ⟨hIA, hIC, hIM, h5⟩ := id hW
  obtain ⟨⟨p, hC⟩, r, hP⟩ := id hIC
  obtain ⟨hR, hPM⟩ := id hIM
  obtain ⟨⟨k1, k2, k3, k4⟩, ⟨n1, n2, n3, n4⟩, oS, oF, oT⟩ := id hT
  have hf := hIA.1
  obtain ⟨v, M', N', g1, g2, g3, g4⟩ := b_of (z := z) (by omega) hC hR hf (by omega) k1 n1 a b
  exact ⟨v, M', N', g1, g2, g3, g4⟩
theorem ok_heaps (hz : 20000000 ≤ z) (a : Int32) : CallOK (F_Rec_heaps z a) (F_Mod_heaps z a) := by
  refine ok_scr [136, 137, 138] [332] (fun c' h => by simp only [List.mem_cons, List.not_mem_nil, or_false] at h; omega) (fun c' h => by simp only [List.mem_cons, List.not_mem_nil, or_false] at h ⊢; omega) (fun c M N hc hIv => ?_)
  obtain ⟨W, P, A, S, F, T, hW, hT, hI, hD, hTp⟩ := id hIv
  obtain ⟨hIA, hIC, hIM, h5⟩ := id hW
  obtain ⟨⟨p, hC⟩, r, hP⟩ := id hIC
  obtain ⟨hR, hPM⟩ := id hIM
  obtain ⟨⟨k1, k2, k3, k4⟩, ⟨n1, n2, n3, n4⟩, oS, oF, oT⟩ := id hT
  have hf := hIA.1
  obtain ⟨v, M', N', g1, g2, g3, g4⟩ := b_heaps (z := z) (by omega) hf (by omega) hC hR a
  exact ⟨v, M', N', g1, g2, g3, g4⟩
theorem ok_says (hz : 20000000 ≤ z) (a : Int32) : CallOK (F_Rec_says z a) (F_Mod_says z a) := by
  refine ok_scr [139, 140] [332, 334] (fun c' h => by simp only [List.mem_cons, List.not_mem_nil, or_false] at h; omega) (fun c' h => by simp only [List.mem_cons, List.not_mem_nil, or_false] at h ⊢; omega) (fun c M N hc hIv => ?_)
  obtain ⟨W, P, A, S, F, T, hW, hT, hI, hD, hTp⟩ := id hIv
  obtain ⟨hIA, hIC, hIM, h5⟩ := id hW
  obtain ⟨⟨p, hC⟩, r, hP⟩ := id hIC
  obtain ⟨hR, hPM⟩ := id hIM
  obtain ⟨⟨k1, k2, k3, k4⟩, ⟨n1, n2, n3, n4⟩, oS, oF, oT⟩ := id hT
  have hf := hIA.1
  obtain ⟨v, M', N', g1, g2, g3, g4⟩ := b_says (z := z) (by omega) hf (by omega) oT k4 n4 hC hR a
  exact ⟨v, M', N', g1, g2, g3, g4⟩
theorem ok_order (hz : 20000000 ≤ z) (a : Int32) : CallOK (F_Rec_order z a) (ro (F_Mod_order z a)) := by
  refine ok_scr [144, 145] [332] (fun c' h => by simp only [List.mem_cons, List.not_mem_nil, or_false] at h; omega) (fun c' h => by simp only [List.mem_cons, List.not_mem_nil, or_false] at h ⊢; omega) (fun c M N hc hIv => ?_)
  obtain ⟨W, P, A, S, F, T, hW, hT, hI, hD, hTp⟩ := id hIv
  obtain ⟨hIA, hIC, hIM, h5⟩ := id hW
  obtain ⟨⟨p, hC⟩, r, hP⟩ := id hIC
  obtain ⟨hR, hPM⟩ := id hIM
  obtain ⟨⟨k1, k2, k3, k4⟩, ⟨n1, n2, n3, n4⟩, oS, oF, oT⟩ := id hT
  have hf := hIA.1
  obtain ⟨v, M', g1, g2, g3⟩ := b_order (z := z) (by omega) oT k4 n4 a
  exact ⟨v, M', N, g1, by unfold ro; rw [g2, ob1_ok], g3, Fr_rf _ _⟩
theorem ok_wings (hz : 20000000 ≤ z) (a : Int32) : CallOK (F_Rec_wings z a) (F_Mod_wings z a) := by
  refine ok_scr [147, 148, 149] [340] (fun c' h => by simp only [List.mem_cons, List.not_mem_nil, or_false] at h; omega) (fun c' h => by simp only [List.mem_cons, List.not_mem_nil, or_false] at h ⊢; omega) (fun c M N hc hIv => ?_)
  obtain ⟨W, P, A, S, F, T, hW, hT, hI, hD, hTp⟩ := id hIv
  obtain ⟨hIA, hIC, hIM, h5⟩ := id hW
  obtain ⟨⟨p, hC⟩, r, hP⟩ := id hIC
  obtain ⟨hR, hPM⟩ := id hIM
  obtain ⟨⟨k1, k2, k3, k4⟩, ⟨n1, n2, n3, n4⟩, oS, oF, oT⟩ := id hT
  have hf := hIA.1
  obtain ⟨v, M', N', g1, g2, g3, g4⟩ := b_wings (z := z) hz oT k4 n4 a
  exact ⟨v, M', N', g1, g2, g3, g4⟩
theorem ok_held (hz : 20000000 ≤ z) (a b d : Int32) : CallOK (F_Rec_held z a b d) (F_Mod_held z a b d) := by
  refine ok_scr [142] [342] (fun c' h => by simp only [List.mem_cons, List.not_mem_nil, or_false] at h; omega) (fun c' h => by simp only [List.mem_cons, List.not_mem_nil, or_false] at h ⊢; omega) (fun c M N hc hIv => ?_)
  obtain ⟨W, P, A, S, F, T, hW, hT, hI, hD, hTp⟩ := id hIv
  obtain ⟨hIA, hIC, hIM, h5⟩ := id hW
  obtain ⟨⟨p, hC⟩, r, hP⟩ := id hIC
  obtain ⟨hR, hPM⟩ := id hIM
  obtain ⟨⟨k1, k2, k3, k4⟩, ⟨n1, n2, n3, n4⟩, oS, oF, oT⟩ := id hT
  have hf := hIA.1
  obtain ⟨v, M', N', g1, g2, g3, g4⟩ := b_held (z := z) (by omega) a b d
  exact ⟨v, M', N', g1, g2, g3, g4⟩
theorem ok_squires (hz : 20000000 ≤ z) (a : Int32) : CallOK (F_Rec_squires z a) (F_Mod_squires z a) := by
  refine ok_scr [141] [341] (fun c' h => by simp only [List.mem_cons, List.not_mem_nil, or_false] at h; omega) (fun c' h => by simp only [List.mem_cons, List.not_mem_nil, or_false] at h ⊢; omega) (fun c M N hc hIv => ?_)
  obtain ⟨W, P, A, S, F, T, hW, hT, hI, hD, hTp⟩ := id hIv
  obtain ⟨hIA, hIC, hIM, h5⟩ := id hW
  obtain ⟨⟨p, hC⟩, r, hP⟩ := id hIC
  obtain ⟨hR, hPM⟩ := id hIM
  obtain ⟨⟨k1, k2, k3, k4⟩, ⟨n1, n2, n3, n4⟩, oS, oF, oT⟩ := id hT
  have hf := hIA.1
  obtain ⟨v, M', N', g1, g2, g3, g4⟩ := b_squires (z := z) (by omega) hf (by omega) hC hR a
  exact ⟨v, M', N', g1, g2, g3, g4⟩
theorem ok_inch (hz : 20000000 ≤ z) (a b : Int32) : CallOK (ro (F_Rec_inch a b)) (ro (F_Mod_inch z a b)) := by
  refine ok_ro (fun c M N hc hIv => ?_)
  obtain ⟨W, P, A, S, F, T, hW, hT, hI, hD, hTp⟩ := id hIv
  obtain ⟨hIA, hIC, hIM, h5⟩ := id hW
  obtain ⟨⟨p, hC⟩, r, hP⟩ := id hIC
  obtain ⟨hR, hPM⟩ := id hIM
  obtain ⟨⟨k1, k2, k3, k4⟩, ⟨n1, n2, n3, n4⟩, oS, oF, oT⟩ := id hT
  have hf := hIA.1
  exact b_inch (z := z) (by omega) hC hR hf a b
theorem ok_book (hz : 20000000 ≤ z) (a b : Int32) : CallOK (ro (F_Rec_book a b)) (ro (F_Mod_book a b)) := by
  refine ok_ro (fun c M N hc hIv => ?_)
  obtain ⟨W, P, A, S, F, T, hW, hT, hI, hD, hTp⟩ := id hIv
  obtain ⟨hIA, hIC, hIM, h5⟩ := id hW
  obtain ⟨⟨p, hC⟩, r, hP⟩ := id hIC
  obtain ⟨hR, hPM⟩ := id hIM
  obtain ⟨⟨k1, k2, k3, k4⟩, ⟨n1, n2, n3, n4⟩, oS, oF, oT⟩ := id hT
  have hf := hIA.1
  exact b_book hC hR hf a b
theorem ok_nearest (hz : 20000000 ≤ z) (a : Int32) : CallOK (ro (F_Rec_nearest z a)) (ro (F_Mod_nearest z a)) := by
  refine ok_ro (fun c M N hc hIv => ?_)
  obtain ⟨W, P, A, S, F, T, hW, hT, hI, hD, hTp⟩ := id hIv
  obtain ⟨hIA, hIC, hIM, h5⟩ := id hW
  obtain ⟨⟨p, hC⟩, r, hP⟩ := id hIC
  obtain ⟨hR, hPM⟩ := id hIM
  obtain ⟨⟨k1, k2, k3, k4⟩, ⟨n1, n2, n3, n4⟩, oS, oF, oT⟩ := id hT
  have hf := hIA.1
  exact b_nearest (z := z) (by omega) hC hR hf (by omega)
theorem ok_pass (hz : 20000000 ≤ z) (a b : Int32) : CallOK (ro (F_Rec_pass z a b)) (ro (F_Mod_pass z a b)) := by
  refine ok_ro (fun c M N hc hIv => ?_)
  obtain ⟨W, P, A, S, F, T, hW, hT, hI, hD, hTp⟩ := id hIv
  obtain ⟨hIA, hIC, hIM, h5⟩ := id hW
  obtain ⟨⟨p, hC⟩, r, hP⟩ := id hIC
  obtain ⟨hR, hPM⟩ := id hIM
  obtain ⟨⟨k1, k2, k3, k4⟩, ⟨n1, n2, n3, n4⟩, oS, oF, oT⟩ := id hT
  have hf := hIA.1
  exact b_pass (z := z) (by omega) hC hR hf (by omega) b
theorem ok_legs (hz : 20000000 ≤ z) (a : Int32) : CallOK (ro (F_Rec_legs z a)) (ro (F_Mod_legs z a)) := by
  refine ok_ro (fun c M N hc hIv => ?_)
  obtain ⟨W, P, A, S, F, T, hW, hT, hI, hD, hTp⟩ := id hIv
  obtain ⟨hIA, hIC, hIM, h5⟩ := id hW
  obtain ⟨⟨p, hC⟩, r, hP⟩ := id hIC
  obtain ⟨hR, hPM⟩ := id hIM
  obtain ⟨⟨k1, k2, k3, k4⟩, ⟨n1, n2, n3, n4⟩, oS, oF, oT⟩ := id hT
  have hf := hIA.1
  exact b_legs (z := z) (by omega) oT k4 n4 hC hR a
theorem ok_cover (hz : 20000000 ≤ z) (a : Int32) : CallOK (ro (F_Rec_cover z a)) (ro (F_Mod_cover z a)) := by
  refine ok_ro (fun c M N hc hIv => ?_)
  obtain ⟨W, P, A, S, F, T, hW, hT, hI, hD, hTp⟩ := id hIv
  obtain ⟨hIA, hIC, hIM, h5⟩ := id hW
  obtain ⟨⟨p, hC⟩, r, hP⟩ := id hIC
  obtain ⟨hR, hPM⟩ := id hIM
  obtain ⟨⟨k1, k2, k3, k4⟩, ⟨n1, n2, n3, n4⟩, oS, oF, oT⟩ := id hT
  have hf := hIA.1
  exact b_cover (z := z) (by omega) oT k4 n4 a
theorem ok_weekday (hz : 20000000 ≤ z) (a : Int32) : CallOK (ro (F_Rec_weekday z a)) (ro (F_Mod_weekday z a)) := by
  refine ok_ro (fun c M N hc hIv => ?_)
  obtain ⟨W, P, A, S, F, T, hW, hT, hI, hD, hTp⟩ := id hIv
  obtain ⟨hIA, hIC, hIM, h5⟩ := id hW
  obtain ⟨⟨p, hC⟩, r, hP⟩ := id hIC
  obtain ⟨hR, hPM⟩ := id hIM
  obtain ⟨⟨k1, k2, k3, k4⟩, ⟨n1, n2, n3, n4⟩, oS, oF, oT⟩ := id hT
  have hf := hIA.1
  exact b_weekday (z := z) (by omega) a N
theorem ok_between (hz : 20000000 ≤ z) (a b : Int32) : CallOK (ro (F_Rec_between z a b)) (ro (F_Mod_between z a b)) := by
  refine ok_ro (fun c M N hc hIv => ?_)
  obtain ⟨W, P, A, S, F, T, hW, hT, hI, hD, hTp⟩ := id hIv
  obtain ⟨hIA, hIC, hIM, h5⟩ := id hW
  obtain ⟨⟨p, hC⟩, r, hP⟩ := id hIC
  obtain ⟨hR, hPM⟩ := id hIM
  obtain ⟨⟨k1, k2, k3, k4⟩, ⟨n1, n2, n3, n4⟩, oS, oF, oT⟩ := id hT
  have hf := hIA.1
  exact b_between (z := z) (by omega) a b N
theorem ok_leans (hz : 20000000 ≤ z) (a : Int32) : CallOK (ro (F_Rec_leans z a)) (ro (F_Mod_leans z a)) := by
  refine ok_ro (fun c M N hc hIv => ?_)
  obtain ⟨W, P, A, S, F, T, hW, hT, hI, hD, hTp⟩ := id hIv
  obtain ⟨hIA, hIC, hIM, h5⟩ := id hW
  obtain ⟨⟨p, hC⟩, r, hP⟩ := id hIC
  obtain ⟨hR, hPM⟩ := id hIM
  obtain ⟨⟨k1, k2, k3, k4⟩, ⟨n1, n2, n3, n4⟩, oS, oF, oT⟩ := id hT
  have hf := hIA.1
  exact b_leans (z := z) (by omega) hC hR hf (by omega) a
theorem ok_game (hz : 20000000 ≤ z) (a : Int32) : CallOK (ro (F_Rec_game z a)) (ro (F_Mod_game z a)) := by
  refine ok_ro (fun c M N hc hIv => ?_)
  obtain ⟨W, P, A, S, F, T, hW, hT, hI, hD, hTp⟩ := id hIv
  obtain ⟨hIA, hIC, hIM, h5⟩ := id hW
  obtain ⟨⟨p, hC⟩, r, hP⟩ := id hIC
  obtain ⟨hR, hPM⟩ := id hIM
  obtain ⟨⟨k1, k2, k3, k4⟩, ⟨n1, n2, n3, n4⟩, oS, oF, oT⟩ := id hT
  have hf := hIA.1
  exact b_game (z := z) (by omega) hC hR hf (by omega) a
theorem ok_look (hz : 20000000 ≤ z) (a : Int32) : CallOK (ro (F_Rec_look z a)) (ro (F_Mod_look z a)) := by
  refine ok_ro (fun c M N hc hIv => ?_)
  obtain ⟨W, P, A, S, F, T, hW, hT, hI, hD, hTp⟩ := id hIv
  obtain ⟨hIA, hIC, hIM, h5⟩ := id hW
  obtain ⟨⟨p, hC⟩, r, hP⟩ := id hIC
  obtain ⟨hR, hPM⟩ := id hIM
  obtain ⟨⟨k1, k2, k3, k4⟩, ⟨n1, n2, n3, n4⟩, oS, oF, oT⟩ := id hT
  have hf := hIA.1
  exact b_look (z := z) (by omega) hC hP hR hPM k1 n1 k2 k3 n2 n3 k4 n4 a
theorem ok_fault (a : Int32) : CallOK (ro (fun M => some (F_Rec_fault a M))) (ro (fun N => some (F_Mod_fault a N))) := by
  refine ok_ro (fun c M N hc hIv => ?_)
  obtain ⟨W, P, A, S, F, T, hW, hT, hI, hD, -, h2, h3, -⟩ := id hIv
  unfold F_Rec_fault F_Mod_fault
  rw [h2, h3]
  exact ⟨_, rfl, rfl⟩
theorem ok_goes (hz : 20000000 ≤ z) (a b : Int32) : CallOK (F_Rec_goes z a b) (F_Mod_goes z a b) := by
  intro c M N hc hIv
  obtain ⟨W, P, A, S, F, T, hW, hT, hI, hD, hTp⟩ := id hIv
  obtain ⟨hIA, hIC, hIM, h5⟩ := id hW
  obtain ⟨⟨p, hC⟩, r, hP⟩ := id hIC
  obtain ⟨hR, hPM⟩ := id hIM
  obtain ⟨⟨k1, k2, k3, k4⟩, ⟨n1, n2, n3, n4⟩, oS, oF, oT⟩ := id hT
  have hf := hIA.1
  obtain ⟨q, hq⟩ := id hD
  obtain ⟨M', q', g1, g2, g3⟩ := cw_goes (z := z) (by omega) oS oF k1 hC hq hf hc k2 k3 a b
  obtain ⟨N', d1, d2, d3, d4, d5⟩ := mm_goes (z := z) (by omega) oS oF n1 hR hPM hIA.2.1 hf hc h5 n2 n3 a b
  exact ⟨_, M', N', g1, d1, Iv_th hW hT hI hTp ⟨q', g2⟩ g3 d2 d3 d4 d5⟩
theorem ok_go (hz : 20000000 ≤ z) (a : Int32) : CallOK (F_Rec_go z a) (F_Mod_go z a) := by
  intro c M N hc hIv
  obtain ⟨W, P, A, S, F, T, hW, hT, hI, hD, hTp⟩ := id hIv
  obtain ⟨hIA, hIC, hIM, h5⟩ := id hW
  obtain ⟨⟨p, hC⟩, r, hP⟩ := id hIC
  obtain ⟨hR, hPM⟩ := id hIM
  obtain ⟨⟨k1, k2, k3, k4⟩, ⟨n1, n2, n3, n4⟩, oS, oF, oT⟩ := id hT
  have hf := hIA.1
  obtain ⟨q, hq⟩ := id hD
  obtain ⟨v, M', N', g1, g2, g3, g4, g5, g6⟩ := b_go (z := z) (by omega) hf (by omega) k1 n1 hC hq hR a
  refine ⟨v, M', N', g1, g2, Iv_th hW hT hI hTp ⟨q, g3⟩ g4 g5 ?_ (g6 312 (by simp)) (fun c' h => g6 c' (by simp only [List.mem_cons, List.not_mem_nil, or_false] at h ⊢; omega))⟩
  obtain ⟨x1, x2, x3⟩ := hPM
  refine ⟨x1, by rw [g6 312 (by simp)]; exact x2, fun k hk => ?_⟩
  rw [g6 314 (by simp), g6 316 (by simp)]
  exact x3 k hk
theorem Iv_tape (hIv : Iv c M N) {n : Nat} (hT : TR M' N' n) (h : OKTR M M' N N') : Iv (c + 1000) M' N' ∧ (∀ c', 312 ≤ c' → M' c' = M c') ∧ ∀ c', c' < 312 → N' c' = N c' := by
  obtain ⟨W, P, A, S, F, T, hW, hTo, hI, hD, hTp⟩ := hIv
  obtain ⟨e1, e2, e3, e4⟩ := h
  obtain ⟨-, t2, t3, t4⟩ := hTp
  exact ⟨⟨W, P, A, S, F, T, Wo_cg (c := c + 1000) ⟨IA_mono hW.1 (by omega), hW.2⟩ (fun c' h => e1 c' (by unfold inW at h; omega) (by unfold inW at h; omega)) (fun j _ => by rw [e1 0 (by omega) (by omega)]) (fun c' h => e3 c' (by omega) (by omega)) (fun j h => e4 j (by omega)), To_cg hTo (fun c' a b d => e1 c' (by omega) (by omega)) (fun c' h => e3 c' (by omega) (by omega)) (fun j h => e4 j (by omega)),
    Im_cg (Im_mono hI (by omega)) (by rw [e1 0 (by omega) (by omega)]) (fun c' h => e1 c' (by unfold inW at h; omega) (by unfold inW at h; omega)) (e4 53 (by omega)) (e3 343 (by omega) (by omega)), Dr_cg hD (e1 113 (by omega) (by omega)), ⟨n, hT⟩, by rw [e2 2 (by omega), e4 28 (by omega)]; exact t2, by rw [e2 3 (by omega), e4 29 (by omega)]; exact t3, fun j hj => by rw [e3 318 (by omega) (by omega)]; exact t4 j hj⟩, fun c' h => e1 c' (by omega) (by omega), fun c' h => e3 c' (by omega) (by omega)⟩
theorem ok_feed (hz : 20000000 ≤ z) (a b d e f : Int32) : CallOK (F_Rec_feed z a b d e f) (F_Mod_feed z a b d e f) := by
  intro c M N hc hIv
  obtain ⟨W, P, A, S, F, T, hW, hT, hI, hD, ⟨n, hn⟩, -⟩ := id hIv
  obtain ⟨v, M', N', n', g1, g2, g3, g4⟩ := b_feed (z := z) (by omega) hn a b d e f
  exact ⟨v, M', N', g1, g2, Iv_tape hIv g3 g4⟩
theorem ok_end (a : Int32) : CallOK (F_Rec_end a) (F_Mod_end a) := by
  intro c M N hc hIv
  obtain ⟨W, P, A, S, F, T, hW, hT, hI, hD, ⟨n, hn⟩, -⟩ := id hIv
  obtain ⟨v, M', N', n', g1, g2, g3, g4⟩ := b_end hn a
  exact ⟨v, M', N', g1, g2, Iv_tape hIv g3 g4⟩
end S93
