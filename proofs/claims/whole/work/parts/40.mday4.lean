/-! ===== a day, the model's way: weather, flights, the whole ===== -/
def RMs (M : mM) (S : Rw) : Prop := M 312 32 = nI S.1 ∧ ∀ j k, j < S.1 → k < 4 → (k = 3 → S.2 j 1 = nI 2) → M 328 (4 * j + k) = S.2 j k
def RMf (M : mM) (F : Rw) : Prop := M 312 30 = nI F.1 ∧ ∀ j k, j < F.1 → k < 5 → M 327 (5 * j + k) = F.2 j k
theorem i_sum (a b e : Int32) : nI 0 + (b - a) + (e - b) = e - a := by rw [show nI 0 = (0 : Int32) from rfl]; grind
section S40
variable {th : Bool} {z : Nat} {M : mM} {W : Wd} {c : Nat} {A : LA}
theorem hap_6 : wS (sHapW th W) 6 = wS W 6 := (sHapW_f).2.2.2.2 6 (by omega)
theorem settle_6 {k s l x : Int32} : wS (sSettle th W k s l x) 6 = wS W 6 := by
  have : wS (sSettle th W k s l x) = wS (wAdd W k s l x) := (wNoteT_f).1
  rw [this]
  exact upd_ne (wS W) (k := 5) (j := 6) (wS W 5 + nI 1) (by omega)
theorem come_6 {k s l x : Int32} : wS (sCome th A W k s l x) 6 = wS W 6 := by
  unfold sCome
  split
  · rfl
  split
  · exact (settle_6).trans hap_6
  · exact (congrFun (wNoteT_f).1 6).trans hap_6
theorem wth_6 (a b e : Int32) : wS (sWth W a b e) 6 = wS W 6 := by
  unfold sWth
  split
  · exact upd_ne (wS W) (k := 3) (j := 6) b (by omega)
  split
  · exact upd_ne (wS W) (k := 4) (j := 6) b (by omega)
  split
  · rfl
  · rfl
theorem sky_6 (S : Rw) : ∀ (m j : Nat) (W : Wd), wS (sSky S m j W) 6 = wS W 6 := by
  intro m
  induction m with
  | zero => intro j W; rfl
  | succ m ih =>
    intro j W
    rw [sSky, ih]
    split
    · exact wth_6 _ _ _
    · rfl
theorem fly_6 (F : Rw) : ∀ (m j : Nat) (W : Wd), wS (sFly th A F m j W) 6 = wS W 6 := by
  intro m
  induction m with
  | zero => intro j W; rfl
  | succ m ih =>
    intro j W
    rw [sFly, ih]
    split
    · exact come_6
    · rfl
theorem grow_6 : wS (sGrow W) 6 = wS W 6 := upd_ne (wS W) (k := 0) (j := 6) (wS W 0 + nI 1) (by omega)
theorem l_no (what a : Int32) (hw : what ≠ nI 3) (hz : 1 ≤ z) : ∀ M, L_Mod_does_1 z what a z (nI 0) M = some M := by
  intro M
  obtain ⟨n, rfl⟩ : ∃ k, z = k + 1 := ⟨z - 1, by omega⟩
  rw [L_Mod_does_1, if_neg (fun h => hw h.2)]
theorem l_mdry (hf : wf c W) {a : Nat} (ha : a ≤ 99) : ∀ (m k n : Nat) (M : mM), k + m = 60 → m < n → RM M (mkW (wS W) (fun i => if i < k then sMx (wG W i - nI a) else wG W i) (wL W) (wT W) (wN W) (wB W) (wb W)) → ∃ M', L_Mod_does_1 z (nI 3) (nI a) n (nI k) M = some M' ∧ RM M' (mkW (wS W) (fun i => sMx (wG W i - nI a)) (wL W) (wT W) (wN W) (wB W) (wb W)) ∧ Fr [313] M M' := by
  intro m
  induction m with
  | zero =>
    intro k n M hk hn hR
    obtain ⟨n, rfl⟩ : ∃ k, n = k + 1 := ⟨n - 1, by omega⟩
    refine ⟨M, ?_, RM_allG hR (Fr_rf _ _) (fun i hi => ?_) (fun _ _ => rfl), Fr_rf _ _⟩
    · rw [L_Mod_does_1, if_neg (fun h => lF (by omega) (by omega) h.1)]
    · have := RM_G hR hi
      rw [this]
      exact congrArg (· - nI 50) (if_pos (by omega))
  | succ m ih =>
    intro k n M hk hn hR
    obtain ⟨n, rfl⟩ : ∃ k, n = k + 1 := ⟨n - 1, by omega⟩
    obtain ⟨g, hg, eg⟩ := wf_glue hf (show k < 60 by omega)
    have hG : F_Mod_glue (nI k) M = some (nI g) := by
      rw [mm_glue hR (by omega), ← eg]
      exact congrArg some (if_neg (by omega))
    have hR2 := RM_setG (i := k) (x := sMx (nI g - nI a)) hR (by omega)
    have hs : wSetG (mkW (wS W) (fun i => if i < k then sMx (wG W i - nI a) else wG W i) (wL W) (wT W) (wN W) (wB W) (wb W)) k (sMx (nI g - nI a)) = mkW (wS W) (fun i => if i < k + 1 then sMx (wG W i - nI a) else wG W i) (wL W) (wT W) (wN W) (wB W) (wb W) := by
      unfold wSetG mkW
      congr 2
      funext i
      show (if i = k then sMx (nI g - nI a) else if i < k then sMx (wG W i - nI a) else wG W i) = if i < k + 1 then sMx (wG W i - nI a) else wG W i
      by_cases h : i = k
      · subst h
        rw [if_pos rfl, if_pos (by omega), eg]
      · rw [if_neg h]
        by_cases h2 : i < k
        · rw [if_pos h2, if_pos (by omega)]
        · rw [if_neg h2, if_neg (by omega)]
    rw [hs] at hR2
    obtain ⟨M', g1, g2, g3⟩ := ih (k + 1) n _ (by omega) (by omega) hR2
    refine ⟨M', ?_, g2, Fr_tr (Fr_up (Fr_rf _ _) (by simp)) g3⟩
    rw [L_Mod_does_1, if_pos ⟨lT (by omega) (by omega), rfl⟩, hG, ob1_ok, mm_hasGlue hR (by omega) hg ha, ob1_ok, nadd]
    exact g1
theorem mm_does (hz : 1000 ≤ z) (hR : RM M W) (hf : wf c W) {S : Rw} (hS : okS S) (hD : RMs M S) {j : Nat} (hj : j < S.1) : ∃ M', F_Mod_does z (nI (4 * j)) M = some M' ∧ RM M' (sWth W (S.2 j 1) (S.2 j 2) (S.2 j 3)) ∧ Fr [313] M M' := by
  have h16 := hS.1
  have d1 : M 328 (4 * j + 1) = S.2 j 1 := hD.2 j 1 hj (by omega) (by omega)
  have d2 : M 328 (4 * j + 2) = S.2 j 2 := hD.2 j 2 hj (by omega) (by omega)
  unfold F_Mod_does sWth
  rw [nadd (4 * j) 1, ra_ok (by omega) (by omega), ob1_ok, d1, nadd (4 * j) 2, ra_ok (by omega) (by omega), ob1_ok, d2]
  rcases hS.2 j hj with h | h | ⟨h, ⟨i, hi, e⟩, g, hg, e2⟩ | ⟨h, g, hg1, hg, e⟩
  · rw [h, if_pos rfl, if_pos rfl, wa_ok (by omega) (by omega), ob1_ok, ob1_ok, if_neg (show ¬ nI 0 = nI 1 by decide), ob1_ok, if_neg (show ¬ nI 0 = nI 2 by decide), ob1_ok, l_no _ _ (by decide) (by omega), ob1_ok]
    exact ⟨_, rfl, RM_setS (k := 3) hR (by omega) (by omega), Fr_up (Fr_rf _ _) (by simp)⟩
  · rw [h, if_neg (show ¬ nI 1 = nI 0 by decide), ob1_ok, if_pos rfl, wa_ok (by omega) (by omega), ob1_ok, ob1_ok, if_neg (show ¬ nI 1 = nI 2 by decide), ob1_ok, l_no _ _ (by decide) (by omega), ob1_ok, if_neg (show ¬ nI 1 = nI 0 by decide), if_pos rfl]
    exact ⟨_, rfl, RM_setS (k := 4) hR (by omega) (by omega), Fr_up (Fr_rf _ _) (by simp)⟩
  · have d3 : M 328 (4 * j + 3) = S.2 j 3 := hD.2 j 3 hj (by omega) (fun _ => h)
    have e0 : nI g = nI g - nI 0 := (nsb (Nat.zero_le g)).symm
    have e1 : sMx (nI g - nI 0) = nI g := by rw [← e0]; exact max0 (by omega)
    rw [h, if_neg (show ¬ nI 2 = nI 0 by decide), ob1_ok, if_neg (show ¬ nI 2 = nI 1 by decide), ob1_ok, if_pos rfl, nadd (4 * j) 3, ra_ok (by omega) (by omega), ob1_ok, d3, e, e2, e0, mm_hasGlue hR hi hg (by omega), ob1_ok, ob1_ok, l_no _ _ (by decide) (by omega), ob1_ok, if_neg (show ¬ nI 2 = nI 0 by decide), if_neg (show ¬ nI 2 = nI 1 by decide), if_pos rfl, nI_clamp (by omega), e1, ← e0]
    exact ⟨_, rfl, RM_setG hR hi, Fr_up (Fr_rf _ _) (by simp)⟩
  · rw [h, if_neg (show ¬ nI 3 = nI 0 by decide), ob1_ok, if_neg (show ¬ nI 3 = nI 1 by decide), ob1_ok, if_neg (show ¬ nI 3 = nI 2 by decide), ob1_ok, e, if_neg (show ¬ nI 3 = nI 0 by decide), if_neg (show ¬ nI 3 = nI 1 by decide), if_neg (show ¬ nI 3 = nI 2 by decide)]
    have hR0 : RM M (mkW (wS W) (fun i => if i < 0 then sMx (wG W i - nI g) else wG W i) (wL W) (wT W) (wN W) (wB W) (wb W)) := by
      have : (fun i => if i < 0 then sMx (wG W i - nI g) else wG W i) = wG W := by
        funext i
        exact if_neg (by omega)
      rw [this]
      exact hR
    obtain ⟨M', g1, g2, g3⟩ := l_mdry (z := z) hf (a := g) hg 60 0 z M (by omega) (by omega) hR0
    exact ⟨M', by rw [g1, ob1_ok], g2, g3⟩
theorem l_mSky (hz : 1000 ≤ z) {S : Rw} (hS : okS S) : ∀ (m j n : Nat) (M : mM) (W : Wd), j + m = S.1 → m < n → RM M W → wf c W → RMs M S →
    ∃ M', L_Mod_goesBy_1 z n (nI (4 * j)) M = some M' ∧ RM M' (sSky S m j W) ∧ Fr [313] M M' := by
  intro m
  induction m with
  | zero =>
    intro j n M W hj hn hR hf hD
    obtain ⟨n, rfl⟩ : ∃ k, n = k + 1 := ⟨n - 1, by omega⟩
    have h16 := hS.1
    refine ⟨M, ?_, hR, Fr_rf _ _⟩
    rw [L_Mod_goesBy_1, hD.1, nmul, if_neg (lF (by omega) (by omega))]
  | succ m ih =>
    intro j n M W hj hn hR hf hD
    obtain ⟨n, rfl⟩ : ∃ k, n = k + 1 := ⟨n - 1, by omega⟩
    have h16 := hS.1
    have h0 : M 313 0 = wS W 0 := RM_S hR (by omega) (by omega)
    have d0 : M 328 (4 * j) = S.2 j 0 := hD.2 j 0 (by omega) (by omega) (by omega)
    rw [L_Mod_goesBy_1, hD.1, nmul, if_pos (lT (by omega) (by omega)), ra_ok (by omega) (by omega), ob1_ok, ra_ok (by omega) (by omega), ob1_ok, ob1_ok, d0, h0, sSky]
    by_cases h : S.2 j 0 = wS W 0
    · obtain ⟨M1, a1, a2, a3⟩ := mm_does hz hR hf hS hD (show j < S.1 by omega)
      have hD1 : RMs M1 S := ⟨by rw [a3 312 (by simp)]; exact hD.1, fun j k hj hk h3 => by rw [a3 328 (by simp)]; exact hD.2 j k hj hk h3⟩
      obtain ⟨M', g1, g2, g3⟩ := ih (j + 1) n M1 _ (by omega) (by omega) a2 (wf_wth hf hS (show j < S.1 by omega)) hD1
      rw [if_pos (decide_eq_true h), a1, ob1_ok, ob1_ok, if_pos h, nadd (4 * j) 4]
      exact ⟨M', g1, g2, Fr_tr a3 g3⟩
    · obtain ⟨M', g1, g2, g3⟩ := ih (j + 1) n M W (by omega) (by omega) hR hf hD
      rw [if_neg (show ¬ decide (S.2 j 0 = wS W 0) = true from fun q => h (of_decide_eq_true q)), ob1_ok, if_neg h, nadd (4 * j) 4]
      exact ⟨M', g1, g2, g3⟩
theorem l_mFly (hz : 1000 ≤ z) {F : Rw} (hF : okF F) : ∀ (m j n c : Nat) (M : mM) (W : Wd), j + m = F.1 → m < n → c + m < 2147483648 → RM M W → M 312 5 = bI th → ML M A → wf c W → RMf M F →
    ∃ M', L_Mod_goesBy_2 z n (nI (5 * j)) M = some M' ∧ RM M' (sFly th A F m j W) ∧ Fr FM M M' := by
  intro m
  induction m with
  | zero =>
    intro j n c M W hj hn hc hR hth hA hf hD
    obtain ⟨n, rfl⟩ : ∃ k, n = k + 1 := ⟨n - 1, by omega⟩
    have h16 := hF.1
    refine ⟨M, ?_, hR, Fr_rf _ _⟩
    rw [L_Mod_goesBy_2, hD.1, nmul, if_neg (lF (by omega) (by omega))]
  | succ m ih =>
    intro j n c M W hj hn hc hR hth hA hf hD
    obtain ⟨n, rfl⟩ : ∃ k, n = k + 1 := ⟨n - 1, by omega⟩
    have h16 := hF.1
    have h0 : M 313 0 = wS W 0 := RM_S hR (by omega) (by omega)
    have d0 : M 327 (5 * j) = F.2 j 0 := hD.2 j 0 (by omega) (by omega)
    have d1 : M 327 (5 * j + 1) = F.2 j 1 := hD.2 j 1 (by omega) (by omega)
    have d2 : M 327 (5 * j + 2) = F.2 j 2 := hD.2 j 2 (by omega) (by omega)
    have d3 : M 327 (5 * j + 3) = F.2 j 3 := hD.2 j 3 (by omega) (by omega)
    have d4 : M 327 (5 * j + 4) = F.2 j 4 := hD.2 j 4 (by omega) (by omega)
    obtain ⟨⟨s, s1, s2, es⟩, i, hi, ei⟩ := hF.2 j (by omega)
    rw [L_Mod_goesBy_2, hD.1, nmul, if_pos (lT (by omega) (by omega)), ra_ok (by omega) (by omega), ob1_ok, ra_ok (by omega) (by omega), ob1_ok, ob1_ok, d0, h0, sFly]
    by_cases h : F.2 j 0 = wS W 0
    · rw [if_pos (decide_eq_true h), nadd (5 * j) 1, ra_ok (by omega) (by omega), ob1_ok, nadd (5 * j) 2, ra_ok (by omega) (by omega), ob1_ok, nadd (5 * j) 3, ra_ok (by omega) (by omega), ob1_ok, nadd (5 * j) 4, ra_ok (by omega) (by omega), ob1_ok, d1, d2, d3, d4, es, ei, if_pos h]
      obtain ⟨M1, a1, a2, a3⟩ := mm_come (k := F.2 j 1) (l := F.2 j 3) hz hR hth hA hf (by omega) hi ⟨s1, s2⟩
      have hD1 : RMf M1 F := ⟨by rw [a3 312 (by simp)]; exact hD.1, fun j k hj hk => by rw [a3 327 (by simp)]; exact hD.2 j k hj hk⟩
      obtain ⟨M', g1, g2, g3⟩ := ih (j + 1) n (c + 1) M1 _ (by omega) (by omega) (by omega) a2 (by rw [a3 312 (by simp)]; exact hth) (ML_congr hA (fun c' h1 h2 => a3 c' (by simp; omega))) (wf_come (th := th) (A := A) (k := F.2 j 1) (l := F.2 j 3) hf (by omega) hi ⟨s1, s2⟩) hD1
      rw [a1, ob1_ok, ob1_ok, nadd (5 * j) 5]
      exact ⟨M', g1, g2, Fr_tr a3 g3⟩
    · obtain ⟨M', g1, g2, g3⟩ := ih (j + 1) n c M W (by omega) (by omega) (by omega) hR hth hA hf hD
      rw [if_neg (show ¬ decide (F.2 j 0 = wS W 0) = true from fun q => h (of_decide_eq_true q)), ob1_ok, if_neg h, nadd (5 * j) 5]
      exact ⟨M', g1, g2, g3⟩
theorem mm_day (hz : 1000 ≤ z) {S F : Rw} (hS : okS S) (hF : okF F) (hR : RM M W) (hth : M 312 5 = bI th) (hA : ML M A) (hf : wf c W) (hc : c + 16 < 2147483648) (hDS : RMs M S) (hDF : RMf M F) :
    ∃ M', F_Mod_goesBy z M = some (wS (sDay th A S F W) 6 - wS W 6, M') ∧ RM M' (sDay th A S F W) ∧ Fr FM M M' := by
  have h16 := hF.1
  obtain ⟨M1, a1, a2, a3⟩ := l_mSky hz hS S.1 0 z M W (by omega) (by have := hS.1; omega) hR hf hDS
  have f1 := wf_sky hS S.1 0 (by omega) hf
  have a3' : Fr FM M M1 := Fr_wk a3 (fun c' h => by simp at h ⊢; omega)
  obtain ⟨M2, b1, b2, b3⟩ := l_mFly (th := th) (A := A) hz hF F.1 0 z c M1 _ (by omega) (by omega) (by omega) a2 (by rw [a3' 312 (by simp)]; exact hth) (ML_congr hA (fun c' h1 h2 => a3' c' (by simp; omega))) f1 ⟨by rw [a3' 312 (by simp)]; exact hDF.1, fun j k hj hk => by rw [a3' 327 (by simp)]; exact hDF.2 j k hj hk⟩
  have f2 := wf_fly (th := th) (A := A) hF F.1 0 c (by omega) (by omega) f1
  have F2 := Fr_tr a3' b3
  obtain ⟨n3, t', M3, c1, c2, c3, c4⟩ := l_mStrL (th := th) (A := A) hz 20 0 z M2 _ (nI 0) (by have := wf_20 f2; omega) (by omega) (by omega) b2 (by rw [F2 312 (by simp)]; exact hth) (ML_congr hA (fun c' h1 h2 => F2 c' (by simp; omega))) f2
  have f3 := wf_strL (th := th) (A := A) 20 0 f2
  have F3 := Fr_tr F2 c3
  obtain ⟨n4, M4, e1, e2, e3, e4⟩ := l_mSlL (th := th) (A := A) hz 60 z M3 _ (nI 59) _ (by decide) (by omega) (by omega) c2 (by rw [F3 312 (by simp)]; exact hth) (ML_congr hA (fun c' h1 h2 => F3 c' (by simp; omega))) f3
  have f4 := wf_slL (th := th) (A := A) 60 f3
  obtain ⟨M5, k1, k2, k3⟩ := mm_evening hz e2 f4
  refine ⟨M5, ?_, k2, Fr_tr (Fr_tr F3 e3) k3⟩
  have q6 : wS (sFly th A F F.1 0 (sSky S S.1 0 W)) 6 = wS W 6 := (fly_6 F F.1 0 _).trans (sky_6 S S.1 0 W)
  unfold F_Mod_goesBy
  rw [a1, ob1_ok, b1, ob1_ok, c1]
  show ob2 (L_Mod_goesBy_4 _ _ _ _ _) _ = _
  rw [e1, ob2_ok, k1, ob1_ok]
  refine congrArg some (Prod.ext ?_ rfl)
  show _ = wS (sGrow _) 6 - wS W 6
  rw [grow_6, e4, c4, q6]
  exact i_sum _ _ _
end S40
