/-! ===== veins, fault, look: both ways ===== -/
section S58
variable {z t : Nat} {M N : mM} {p : Nat → Nat} {W : Wd} {c : Nat} {T : Tx} {V : Rw}
def VM (N : mM) (w : Nat) (V : Rw) : Prop := N 338 w = nI V.1 ∧ ∀ s, s < 8 → N 339 (8 * w + s) = vMask V.2 V.1 s
theorem l_mvein {w : Nat} (hw : w < 2) : ∀ (m k n : Nat) (N : mM), k + m = 8 → m < n → L_Mod_vein_1 z (nI w) n (nI k) N = some (fil N 339 (8 * w + k) (8 * w + 8) (fun _ => nI 0)) := by
  intro m
  induction m with
  | zero =>
    intro k n N hk hn
    obtain ⟨n, rfl⟩ : ∃ k, n = k + 1 := ⟨n - 1, by omega⟩
    rw [L_Mod_vein_1, if_neg (lF (by omega) (by omega)), fil_end (by omega)]
  | succ m ih =>
    intro k n N hk hn
    obtain ⟨n, rfl⟩ : ∃ k, n = k + 1 := ⟨n - 1, by omega⟩
    rw [L_Mod_vein_1, if_pos (lT (by omega) (by omega)), nmul, nadd, wa_ok (by omega) (by omega), ob1_ok, nadd, ih (k + 1) n _ (by omega) (by omega)]
    congr 1
    rw [show 8 * w + (k + 1) = 8 * w + k + 1 by omega]
    exact fil_step (g := fun _ => nI 0) (g' := fun _ => nI 0) (by omega) (fun _ _ _ => rfl)
theorem vein_0 (hz : 100 ≤ z) {w : Nat} (hw : w < 2) (x : Int32) : ∃ N', F_Mod_vein z (nI w) (-1) x N = some (nI 0, N') ∧ VM N' w (0, V.2) ∧ (∀ j, j ≠ w → N' 338 j = N 338 j) ∧ (∀ j, ¬ (8 * w ≤ j ∧ j < 8 * w + 8) → N' 339 j = N 339 j) ∧ Fr [338, 339] N N' := by
  have hin : ¬ ¬ F_Rec_within (nI w) (nI 0) (nI 1) = true := fun h => h (rg_k (by omega) (by omega) (by omega))
  refine ⟨fil (up N 338 w (nI 0)) 339 (8 * w + 0) (8 * w + 8) (fun _ => nI 0), ?_, ⟨?_, fun s hs => ?_⟩, fun j hj => ?_, fun j hj => ?_, fun c' h => ?_⟩
  · unfold F_Mod_vein
    rw [isIn_eq, if_neg hin, if_pos rfl, wa_ok (by omega) (by omega), ob1_ok, l_mvein hw 8 0 z _ (by omega) (by omega), ob1_ok]
  · rw [fil_ne (by omega), up_same]
  · rw [fil_at, if_pos (by omega)]
    rfl
  · rw [fil_ne (by omega), up_neJ _ _ _ hj]
  · rw [fil_at, if_neg (by omega), up_neC _ _ _ _ (by omega)]
  · simp only [List.mem_cons, List.not_mem_nil, or_false] at h
    rw [fil_ne (by omega), upC (by omega)]
theorem vein_no {w : Nat} (hw : w < 2) (hV : VM N w V) (h9 : V.1 ≤ 9) {a b : Int32} (hna : a ≠ -1) (h : ((¬ F_Rec_within a (nI 0) (nI 7) = true ∨ ¬ F_Rec_within b (nI 0) (nI 7) = true) ∨ a = b) ∨ V.1 = 9) : F_Mod_vein z (nI w) a b N = some (-1, N) := by
  have hin : ¬ ¬ F_Rec_within (nI w) (nI 0) (nI 1) = true := fun h => h (rg_k (by omega) (by omega) (by omega))
  unfold F_Mod_vein
  rw [isIn_eq, isIn_eq, isIn_eq, if_neg hin, if_neg hna]
  by_cases h1 : (¬ F_Rec_within a (nI 0) (nI 7) = true ∨ ¬ F_Rec_within b (nI 0) (nI 7) = true) ∨ a = b
  · rw [if_pos h1, ob1_ok, if_pos rfl]
  · rw [if_neg h1, ra_ok (by omega) (by omega), ob1_ok, hV.1, h.resolve_left h1, decide_eq_true (show nI 9 = nI 9 from rfl), ob1_ok, if_pos rfl]
theorem vein_yes {w : Nat} (hw : w < 2) (hV : VM N w V) (h9 : V.1 < 9) {a b : Nat} (ha : a < 8) (hb : b < 8) (hab : a ≠ b) : ∃ N', F_Mod_vein z (nI w) (nI a) (nI b) N = some (nI (V.1 + 1), N') ∧ VM N' w (rAdd V (fun k => if k = 0 then nI a else nI b)) ∧ (∀ j, j ≠ w → N' 338 j = N 338 j) ∧ (∀ j, ¬ (8 * w ≤ j ∧ j < 8 * w + 8) → N' 339 j = N 339 j) ∧ Fr [338, 339] N N' := by
  have hin : ¬ ¬ F_Rec_within (nI w) (nI 0) (nI 1) = true := fun h => h (rg_k (by omega) (by omega) (by omega))
  have ha7 : F_Rec_within (nI a) (nI 0) (nI 7) = true := rg_k (by omega) (by omega) (by omega)
  have hb7 : F_Rec_within (nI b) (nI 0) (nI 7) = true := rg_k (by omega) (by omega) (by omega)
  have h1 : ¬ ((¬ F_Rec_within (nI a) (nI 0) (nI 7) = true ∨ ¬ F_Rec_within (nI b) (nI 0) (nI 7) = true) ∨ nI a = nI b) := fun h => h.elim (fun h => h.elim (fun h => h ha7) (fun h => h hb7)) (eF hab (by omega) (by omega))
  obtain ⟨x, hx⟩ : ∃ x, x = vMask V.2 V.1 a ||| jshl (nI 1) (nI b) := ⟨_, rfl⟩
  obtain ⟨y, hy⟩ : ∃ y, y = vMask V.2 V.1 b ||| jshl (nI 1) (nI a) := ⟨_, rfl⟩
  refine ⟨up (up (up N 339 (8 * w + a) x) 339 (8 * w + b) y) 338 w (nI (V.1 + 1)), ?_, ⟨?_, fun s hs => ?_⟩, fun j hj => ?_, fun j hj => ?_, fun c' h => ?_⟩
  · unfold F_Mod_vein
    rw [isIn_eq, isIn_eq, isIn_eq, if_neg hin, if_neg (mF (by omega)), if_neg h1, ra_ok (by omega) (by omega), ob1_ok, hV.1, decide_eq_false (eF (show V.1 ≠ 9 by omega) (by omega) (by omega)), ob1_ok, if_neg Bool.false_ne_true, nmul, nadd, ra_ok (by omega) (by omega), ob1_ok, wa_ok (by omega) (by omega), ob1_ok,
      nadd, ra_ok (by omega) (by omega), ob1_ok, wa_ok (by omega) (by omega), ob1_ok, ra_ok (by omega) (by omega), ob1_ok, wa_ok (by omega) (by omega), ob1_ok, ra_ok (by omega) (by omega), ob1_ok, up_same, up_neC _ _ _ _ (by omega), up_neC _ _ _ _ (by omega), hV.1, nadd, hV.2 a ha, up_neJ _ _ _ (by omega), hV.2 b hb, ← hx, ← hy]
  · exact up_same _ _ _ _
  · rw [up_neC _ _ _ _ (by omega)]
    show _ = vMask (rAdd V (fun k => if k = 0 then nI a else nI b)).2 (V.1 + 1) s
    have e1 : (rAdd V (fun k => if k = 0 then nI a else nI b)).2 V.1 = fun k => if k = 0 then nI a else nI b := if_pos rfl
    have e2 : vMask (rAdd V (fun k => if k = 0 then nI a else nI b)).2 V.1 = vMask V.2 V.1 := vMask_cg _ (fun j hj => if_neg (by omega))
    rw [vMask, e1, e2]
    show _ = upd (upd (vMask V.2 V.1) (nI a).toNatClampNeg (vMask V.2 V.1 (nI a).toNatClampNeg ||| jshl (nI 1) (nI b))) (nI b).toNatClampNeg (upd (vMask V.2 V.1) (nI a).toNatClampNeg (vMask V.2 V.1 (nI a).toNatClampNeg ||| jshl (nI 1) (nI b)) (nI b).toNatClampNeg ||| jshl (nI 1) (nI a)) s
    rw [nI_clamp (by omega), nI_clamp (by omega), upd_ne _ (j := b) (k := a) _ (by omega), ← hx, ← hy]
    by_cases h1 : s = b
    · rw [h1, up_same, upd, if_pos rfl]
    · rw [up_neJ _ _ _ (by omega), upd_ne _ _ h1]
      by_cases h2 : s = a
      · rw [h2, up_same, upd, if_pos rfl]
      · rw [up_neJ _ _ _ (by omega), upd_ne _ _ h2]
        exact hV.2 s hs
  · rw [up_neJ _ _ _ hj, up_neC _ _ _ _ (by omega), up_neC _ _ _ _ (by omega)]
  · rw [up_neC _ _ _ _ (by omega), up_neJ _ _ _ (by omega), up_neJ _ _ _ (by omega)]
  · simp only [List.mem_cons, List.not_mem_nil, or_false] at h
    rw [upC (by omega), upC (by omega), upC (by omega)]
theorem VM_oth {N' : mM} {w w' : Nat} (h : VM N w V) (hw : w < 2) (hw' : w' < 2) (hne : w ≠ w') (e : ∀ j, j ≠ w' → N' 338 j = N 338 j) (e2 : ∀ j, ¬ (8 * w' ≤ j ∧ j < 8 * w' + 8) → N' 339 j = N 339 j) : VM N' w V := by
  refine ⟨by rw [e w hne]; exact h.1, fun s hs => ?_⟩
  rw [e2 _ (by omega)]
  exact h.2 s hs
/-- what both do with the veins of one wing -/
theorem b_vein1 (hz : 100 ≤ z) {w r : Nat} (hw : w < 2) (hr : r = if nI w = nI 0 then 46 else 48) (hM : VM N w V) (hC : RwG r 2 M V) (hV : okX 9 2 (fun g => bt (g 0) 0 7 ∧ bt (g 1) 0 7 ∧ g 0 ≠ g 1) V) (a b : Int32) :
    ∃ v M' N' V', F_Rec_vein (nI w) a b M = some (v, M') ∧ F_Mod_vein z (nI w) a b N = some (v, N') ∧ okX 9 2 (fun g => bt (g 0) 0 7 ∧ bt (g 1) 0 7 ∧ g 0 ≠ g 1) V' ∧ RwG r 2 M' V' ∧ Fr [r, r + 1] M M' ∧ VM N' w V' ∧ (∀ j, j ≠ w → N' 338 j = N 338 j) ∧ (∀ j, ¬ (8 * w ≤ j ∧ j < 8 * w + 8) → N' 339 j = N 339 j) ∧ Fr [338, 339] N N' := by
  have hin : ¬ ¬ F_Rec_within (nI w) (nI 0) (nI 1) = true := fun h => h (rg_k (by omega) (by omega) (by omega))
  have h9 := hV.1
  unfold F_Rec_vein
  rw [if_neg hin, ob1_ok, ← hr]
  by_cases hv : a = -1
  · obtain ⟨N', b1, b2, b3, b4, b5⟩ := vein_0 (N := N) (V := V) hz hw b
    rw [decide_eq_true hv, tell_none, ob2_ok, hv]
    exact ⟨_, _, N', (0, V.2), rfl, b1, okX_0, RwG_0 (up_same _ _ _ _), Fr_up (Fr_rf _ _) (by simp), b2, b3, b4, b5⟩
  · rw [decide_eq_false hv]
    by_cases hc : (F_Rec_within a (nI 0) (nI 7) = true ∧ F_Rec_within b (nI 0) (nI 7) = true) ∧ ¬ a = b
    · by_cases hn : V.1 < 9
      · obtain ⟨i, -, hi, rfl⟩ := rng_n (by omega) (by omega) (of_decide_eq_true hc.1.1)
        obtain ⟨k, -, hk, rfl⟩ := rng_n (by omega) (by omega) (of_decide_eq_true hc.1.2)
        have hik : i ≠ k := fun e => hc.2 (by rw [e])
        obtain ⟨N', b1, b2, b3, b4, b5⟩ := vein_yes (z := z) hw hM hn (show i < 8 by omega) (show k < 8 by omega) hik
        obtain ⟨M', a1, a2, a3, a4⟩ := tell_yes (M := M) (r := r) (wd := 2) (mo := 9) (a := nI i) (b := nI k) hC.1 hn (Or.inr rfl) (by omega)
        rw [decide_eq_true hc, a1, ob2_ok]
        refine ⟨_, M', N', rAdd V (fun k' => if k' = 0 then nI i else nI k), rfl, b1, okX_add hV hn ⟨⟨i, by omega, hi, rfl⟩, ⟨k, by omega, hk, rfl⟩, hc.2⟩, RwG_add hC a3 (fun j q hq => ?_), a2, b2, b3, b4, b5⟩
        rw [a4 j q hq]
        have : q = 0 ∨ q = 1 := by omega
        rcases this with rfl | rfl
        · rfl
        · rfl
      · rw [tell_no hC.1 (by omega) (by omega) (Or.inr (by omega)), ob2_ok, vein_no hw hM h9 hv (Or.inr (by omega))]
        exact ⟨_, M, N, V, rfl, rfl, hV, hC, Fr_rf _ _, hM, fun _ _ => rfl, fun _ _ => rfl, Fr_rf _ _⟩
    · have hc' : (¬ F_Rec_within a (nI 0) (nI 7) = true ∨ ¬ F_Rec_within b (nI 0) (nI 7) = true) ∨ a = b := by
        by_cases h1 : F_Rec_within a (nI 0) (nI 7) = true
        · by_cases h2 : F_Rec_within b (nI 0) (nI 7) = true
          · by_cases h3 : a = b
            · exact Or.inr h3
            · exact absurd ⟨⟨h1, h2⟩, h3⟩ hc
          · exact Or.inl (Or.inr h2)
        · exact Or.inl (Or.inl h1)
      rw [decide_eq_false hc, tell_no hC.1 (by omega) (by omega) (Or.inl rfl), ob2_ok, vein_no hw hM h9 hv (Or.inl hc')]
      exact ⟨_, M, N, V, rfl, rfl, hV, hC, Fr_rf _ _, hM, fun _ _ => rfl, fun _ _ => rfl, Fr_rf _ _⟩
theorem b_vein (hz : 100 ≤ z) (hT : okT T) (hC : CT 28 M T) (hM : MT N T) (x a b : Int32) : ∃ r M' N', F_Rec_vein x a b M = some (r, M') ∧ F_Mod_vein z x a b N = some (r, N') ∧ OKT 28 [46, 47, 48, 49] M M' N N' := by
  obtain ⟨t1, t2, t3, t4, t5, t6⟩ := id hT
  obtain ⟨c1, c2, c3, c4, c5, c6⟩ := id hC
  obtain ⟨m1, m2, m3, m4, m5, m6⟩ := id hM
  have v0 : VM N 0 (tVn T) := ⟨m5.1, fun s hs => by rw [show 8 * 0 + s = s by omega]; exact m5.2 s hs⟩
  have v1 : VM N 1 (tVo T) := ⟨m6.1, fun s hs => by rw [show 8 * 1 + s = 8 + s by omega]; exact m6.2 s hs⟩
  by_cases hx : F_Rec_within x (nI 0) (nI 1) = true
  · obtain ⟨w, -, hw, rfl⟩ := rng_n (by omega) (by omega) (of_decide_eq_true hx)
    have hw2 : w = 0 ∨ w = 1 := by omega
    rcases hw2 with rfl | rfl
    · obtain ⟨v, M', N', V', a1, a2, a3, a4, a5, a6, a7, a8, a9⟩ := b_vein1 (r := 46) hz (show 0 < 2 by omega) (by decide) v0 c5 t5 a b
      have v1' := VM_oth v1 (by omega) (by omega) (by omega) a7 a8
      refine ⟨v, M', N', a1, a2, (tStr T, tRow T, tWrd T, tLok T, V', tVo T), ⟨t1, t2, t3, t4, a3, t6⟩, CT_vn hC a5 a4, MT_vns hM a9 ⟨a6.1, fun s hs => ?_⟩ ⟨v1'.1, fun s hs => ?_⟩, Fr_wk a5 (fun c' h => ?_), fun c' h => ?_, fun j _ _ _ => ?_⟩
      · have := a6.2 s hs
        rwa [show 8 * 0 + s = s by omega] at this
      · have := v1'.2 s hs
        rwa [show 8 * 1 + s = 8 + s by omega] at this
      · simp only [List.mem_cons, List.not_mem_nil, or_false] at h ⊢
        omega
      · simp only [List.mem_cons, List.not_mem_nil, or_false] at h
        exact a9 c' (by simp only [List.mem_cons, List.not_mem_nil, or_false]; omega)
      · rw [a9 312 (by simp)]
    · obtain ⟨v, M', N', V', a1, a2, a3, a4, a5, a6, a7, a8, a9⟩ := b_vein1 (r := 48) hz (show 1 < 2 by omega) (by decide) v1 c6 t6 a b
      have v0' := VM_oth v0 (by omega) (by omega) (by omega) a7 a8
      refine ⟨v, M', N', a1, a2, (tStr T, tRow T, tWrd T, tLok T, tVn T, V'), ⟨t1, t2, t3, t4, t5, a3⟩, CT_vo hC a5 a4, MT_vns hM a9 ⟨v0'.1, fun s hs => ?_⟩ ⟨a6.1, fun s hs => ?_⟩, Fr_wk a5 (fun c' h => ?_), fun c' h => ?_, fun j _ _ _ => ?_⟩
      · have := v0'.2 s hs
        rwa [show 8 * 0 + s = s by omega] at this
      · have := a6.2 s hs
        rwa [show 8 * 1 + s = 8 + s by omega] at this
      · simp only [List.mem_cons, List.not_mem_nil, or_false] at h ⊢
        omega
      · simp only [List.mem_cons, List.not_mem_nil, or_false] at h
        exact a9 c' (by simp only [List.mem_cons, List.not_mem_nil, or_false]; omega)
      · rw [a9 312 (by simp)]
  · refine ⟨-1, M, N, ?_, ?_, T, hT, hC, hM, Fr_rf _ _, fun _ _ => rfl, fun _ _ _ _ => rfl⟩
    · unfold F_Rec_vein
      rw [if_pos hx]
    · unfold F_Mod_vein
      rw [isIn_eq, if_pos hx]
end S58
