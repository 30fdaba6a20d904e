/-! ===== the model copies its row ===== -/
/-- a row of 270 and a book hold a world -/
def RR (f g : Nat → Int32) (W : Wd) : Prop :=
  (∀ k, k < 8 → k ≠ 2 → f k = wS W k) ∧ f 2 = nI (wb W) ∧ f 8 = nI (wN W) ∧ (∀ i, i < 60 → f (10 + i) = wG W i - nI 50) ∧ (∀ i, i < 60 → f (70 + i) = wL W i) ∧
  (∀ t k, t < wN W → k < 7 → f (130 + 7 * t + k) = wT W t k) ∧ (∀ j k, j < wb W → k < 4 → g (4 * j + k) = wB W j k)
/-- the book of W goes on from that of P -/
def pre (P W : Wd) : Prop := wb P ≤ wb W ∧ ∀ j k, j < wb P → k < 4 → wB W j k = wB P j k
theorem pre_rf (W : Wd) : pre W W := ⟨Nat.le_refl _, fun _ _ _ _ => rfl⟩
theorem pre_tr {P Q W : Wd} (h : pre P Q) (h' : pre Q W) : pre P W := ⟨Nat.le_trans h.1 h'.1, fun j k hj hk => by
  have := h.1
  rw [h'.2 j k (by omega) hk, h.2 j k hj hk]⟩
section S42
variable {th : Bool} {z h : Nat} {M : mM} {W P : Wd} {c : Nat}
theorem RM_RR : RM M W ↔ RR (M 313) (M 316) W := Iff.rfl
theorem RR_cg {f f' g g' : Nat → Int32} (hR : RR f g W) (h20 : wN W ≤ 20) (hf : ∀ j, j < 270 → f' j = f j) (hg : ∀ j k, j < wb W → k < 4 → g' (4 * j + k) = g (4 * j + k)) : RR f' g' W := by
  obtain ⟨h1, h2, h3, h4, h5, h6, h7⟩ := hR
  exact ⟨fun k a b => by rw [hf _ (by omega)]; exact h1 k a b, by rw [hf _ (by omega)]; exact h2, by rw [hf _ (by omega)]; exact h3, fun i hi => by rw [hf _ (by omega)]; exact h4 i hi, fun i hi => by rw [hf _ (by omega)]; exact h5 i hi, fun t k ht hk => by rw [hf _ (by omega)]; exact h6 t k ht hk, fun j k hj hk => by rw [hg j k hj hk]; exact h7 j k hj hk⟩
theorem l_keep1 (hh : h < 6) : ∀ (m k n : Nat) (M : mM), k + m = 270 → m < n → M 312 3 = nI h → L_Mod_keepsAhead_1 z n (nI k) M = some (fil M 314 (270 * h + k) (270 * h + 270) (fun j => M 313 (j - 270 * h))) := by
  intro m
  induction m with
  | zero =>
    intro k n M hk hn h3
    obtain ⟨n, rfl⟩ : ∃ k, n = k + 1 := ⟨n - 1, by omega⟩
    rw [L_Mod_keepsAhead_1, if_neg (lF (by omega) (by omega)), fil_end (by omega)]
  | succ m ih =>
    intro k n M hk hn h3
    obtain ⟨n, rfl⟩ : ∃ k, n = k + 1 := ⟨n - 1, by omega⟩
    rw [L_Mod_keepsAhead_1, if_pos (lT (by omega) (by omega)), ra_ok (by omega) (by omega), ob1_ok, h3, nmul, nadd (270 * h) k, wa_ok (by omega) (by omega), ob1_ok, nadd k 1, ih (k + 1) n _ (by omega) (by omega) (by rw [up_neC _ _ _ _ (by omega)]; exact h3)]
    have e : M 313 k = (fun j => M 313 (j - 270 * h)) (270 * h + k) := by
      show _ = M 313 (270 * h + k - 270 * h)
      rw [Nat.add_sub_cancel_left]
    rw [e]
    exact congrArg some (fil_step (g := fun j => M 313 (j - 270 * h)) (by omega) (fun j h1 h2 => up_neC _ _ _ _ (by omega)))
theorem l_keep2 : ∀ (m k n : Nat) (M : mM), k + m = 1350 → m < n → M 312 3 = nI 5 → L_Mod_keepsAhead_2 z n (nI k) M = some (fil M 314 k 1350 (fun j => M 314 (j + 270))) := by
  intro m
  induction m with
  | zero =>
    intro k n M hk hn h3
    obtain ⟨n, rfl⟩ : ∃ k, n = k + 1 := ⟨n - 1, by omega⟩
    rw [L_Mod_keepsAhead_2, h3, nmul, if_neg (lF (by omega) (by omega)), fil_end (by omega)]
  | succ m ih =>
    intro k n M hk hn h3
    obtain ⟨n, rfl⟩ : ∃ k, n = k + 1 := ⟨n - 1, by omega⟩
    rw [L_Mod_keepsAhead_2, h3, nmul, if_pos (lT (by omega) (by omega)), nadd k 270, ra_ok (by omega) (by omega), ob1_ok, wa_ok (by omega) (by omega), ob1_ok, nadd k 1, ih (k + 1) n _ (by omega) (by omega) (by rw [up_neC _ _ _ _ (by omega)]; exact h3)]
    exact congrArg some (fil_step (g := fun j => M 314 (j + 270)) (by omega) (fun j h1 h2 => up_neJ _ _ _ (by omega)))
theorem l_undo1 (hh : h < 6) : ∀ (m k n : Nat) (M : mM), k + m = 270 → m < n → M 312 3 = nI h → L_Mod_undo_1 z n (nI k) M = some (fil M 313 k 270 (fun j => M 314 (270 * h + j))) := by
  intro m
  induction m with
  | zero =>
    intro k n M hk hn h3
    obtain ⟨n, rfl⟩ : ∃ k, n = k + 1 := ⟨n - 1, by omega⟩
    rw [L_Mod_undo_1, if_neg (lF (by omega) (by omega)), fil_end (by omega)]
  | succ m ih =>
    intro k n M hk hn h3
    obtain ⟨n, rfl⟩ : ∃ k, n = k + 1 := ⟨n - 1, by omega⟩
    rw [L_Mod_undo_1, if_pos (lT (by omega) (by omega)), h3, nmul, nadd (270 * h) k, ra_ok (by omega) (by omega), ob1_ok, wa_ok (by omega) (by omega), ob1_ok, nadd k 1, ih (k + 1) n _ (by omega) (by omega) (by rw [up_neC _ _ _ _ (by omega)]; exact h3)]
    exact congrArg some (fil_step (g := fun j => M 314 (270 * h + j)) (by omega) (fun j h1 h2 => up_neC _ _ _ _ (by omega)))
theorem l_think : ∀ (m k n : Nat) (M : mM), k + m = 270 → m < n → L_Mod_thinks_1 z n (nI k) M = some (fil M 315 k 270 (M 313)) := by
  intro m
  induction m with
  | zero =>
    intro k n M hk hn
    obtain ⟨n, rfl⟩ : ∃ k, n = k + 1 := ⟨n - 1, by omega⟩
    rw [L_Mod_thinks_1, if_neg (lF (by omega) (by omega)), fil_end (by omega)]
  | succ m ih =>
    intro k n M hk hn
    obtain ⟨n, rfl⟩ : ∃ k, n = k + 1 := ⟨n - 1, by omega⟩
    rw [L_Mod_thinks_1, if_pos (lT (by omega) (by omega)), ra_ok (by omega) (by omega), ob1_ok, wa_ok (by omega) (by omega), ob1_ok, nadd k 1, ih (k + 1) n _ (by omega) (by omega)]
    exact congrArg some (fil_step (g := M 313) (by omega) (fun j h1 h2 => up_neC _ _ _ _ (by omega)))
theorem l_ends : ∀ (m k n : Nat) (M : mM), k + m = 270 → m < n → L_Mod_endsThought_1 z n (nI k) M = some (fil M 313 k 270 (M 315)) := by
  intro m
  induction m with
  | zero =>
    intro k n M hk hn
    obtain ⟨n, rfl⟩ : ∃ k, n = k + 1 := ⟨n - 1, by omega⟩
    rw [L_Mod_endsThought_1, if_neg (lF (by omega) (by omega)), fil_end (by omega)]
  | succ m ih =>
    intro k n M hk hn
    obtain ⟨n, rfl⟩ : ∃ k, n = k + 1 := ⟨n - 1, by omega⟩
    rw [L_Mod_endsThought_1, if_pos (lT (by omega) (by omega)), ra_ok (by omega) (by omega), ob1_ok, wa_ok (by omega) (by omega), ob1_ok, nadd k 1, ih (k + 1) n _ (by omega) (by omega)]
    exact congrArg some (fil_step (g := M 315) (by omega) (fun j h1 h2 => up_neC _ _ _ _ (by omega)))
/-- n kept worlds, the eldest first -/
abbrev Ps : Type := Nat × (Nat → Wd)
def sRem (P : Ps) (W : Wd) : Ps := if P.1 = 6 then (6, fun k => if k < 5 then P.2 (k + 1) else W) else (P.1 + 1, fun k => if k < P.1 then P.2 k else W)
def PM (M : mM) (P : Ps) : Prop := P.1 ≤ 6 ∧ M 312 3 = nI P.1 ∧ ∀ k, k < P.1 → wN (P.2 k) ≤ 20 ∧ RR (fun j => M 314 (270 * k + j)) (M 316) (P.2 k)
theorem mm_keepsAhead (hz : 2000 ≤ z) (hR : RM M W) (h20 : wN W ≤ 20) {P : Ps} (hP : PM M P) : ∃ M', F_Mod_keepsAhead z M = some M' ∧ PM M' (sRem P W) ∧ (∀ c', c' ≠ 314 → c' ≠ 312 → M' c' = M c') ∧ ∀ j, j ≠ 3 → M' 312 j = M 312 j := by
  obtain ⟨p6, p3, pk⟩ := hP
  have last : ∀ (n : Nat) (M1 : mM) (Q : Nat → Wd), n < 6 → M1 312 3 = nI n → RM M1 W → (∀ k, k < n → wN (Q k) ≤ 20 ∧ RR (fun j => M1 314 (270 * k + j)) (M1 316) (Q k)) → ∃ M', (ob1 (L_Mod_keepsAhead_1 z z (nI 0) M1) fun M16 => ob1 (some (up M16 312 3 ((M16 312 3) + (nI 1)))) fun M17 => some M17) = some M' ∧ PM M' (n + 1, fun k => if k < n then Q k else W) ∧ (∀ c', c' ≠ 314 → c' ≠ 312 → M' c' = M1 c') ∧ ∀ j, j ≠ 3 → M' 312 j = M1 312 j := by
    intro n M1 Q hn h3 hR1 hQ
    obtain ⟨M2, d2⟩ : ∃ M2, M2 = fil M1 314 (270 * n + 0) (270 * n + 270) (fun j => M1 313 (j - 270 * n)) := ⟨_, rfl⟩
    have n2 : ∀ c', c' ≠ 314 → M2 c' = M1 c' := fun c' h => by rw [d2]; exact fil_ne h
    refine ⟨up M2 312 3 (nI (n + 1)), ?_, ⟨by show n + 1 ≤ 6; omega, up_same _ _ _ _, fun k hk => ?_⟩, fun c' h1 h2 => ?_, fun j hj => ?_⟩
    · rw [l_keep1 hn 270 0 z M1 (by omega) (by omega) h3, ob1_ok, ← d2, n2 312 (by omega), h3, nadd, ob1_ok]
    · have hk' : k < n + 1 := hk
      have e316 : up M2 312 3 (nI (n + 1)) 316 = M1 316 := by
        rw [← n2 316 (by omega)]
        funext j
        exact up_neC _ _ _ _ (by omega)
      have e314 : ∀ j, up M2 312 3 (nI (n + 1)) 314 j = if 270 * n + 0 ≤ j ∧ j < 270 * n + 270 then M1 313 (j - 270 * n) else M1 314 j := fun j => by
        rw [up_neC _ _ _ _ (by omega), d2, fil_at]
      show wN (if k < n then Q k else W) ≤ 20 ∧ RR _ _ (if k < n then Q k else W)
      by_cases h : k < n
      · rw [if_pos h]
        refine ⟨(hQ k h).1, RR_cg (hQ k h).2 (hQ k h).1 (fun j hj => ?_) (fun j q _ _ => by rw [e316])⟩
        show up M2 312 3 (nI (n + 1)) 314 (270 * k + j) = _
        rw [e314, if_neg (by omega)]
      · have hkn : k = n := by omega
        subst hkn
        rw [if_neg h]
        refine ⟨h20, RR_cg (RM_RR.mp hR1) h20 (fun j hj => ?_) (fun j q _ _ => by rw [e316])⟩
        show up M2 312 3 (nI (k + 1)) 314 (270 * k + j) = _
        rw [e314, if_pos (by omega), Nat.add_sub_cancel_left]
    · funext j
      rw [up_neC _ _ _ _ h2, n2 c' h1]
    · rw [up_neJ _ _ _ hj, n2 312 (by omega)]
  unfold F_Mod_keepsAhead
  rw [p3]
  by_cases h6 : P.1 = 6
  · obtain ⟨M2, d2⟩ : ∃ M2, M2 = fil (up M 312 3 (nI 5)) 314 0 1350 (fun j => up M 312 3 (nI 5) 314 (j + 270)) := ⟨_, rfl⟩
    have n2 : ∀ c', c' ≠ 314 → c' ≠ 312 → M2 c' = M c' := fun c' h h' => by
      rw [d2, fil_ne h]
      funext j
      exact up_neC _ _ _ _ h'
    have v2 : M2 312 = up M 312 3 (nI 5) 312 := by rw [d2, fil_ne (by omega)]
    obtain ⟨M', g1, g2, g3, g4⟩ := last 5 M2 (fun k => P.2 (k + 1)) (by omega) (by rw [v2, up_same]) (RM_congr (n2 313 (by omega) (by omega)) (n2 316 (by omega) (by omega)) hR) (fun k hk => by
      have hq := pk (k + 1) (by omega)
      refine ⟨hq.1, RR_cg hq.2 hq.1 (fun j hj => ?_) (fun j q _ _ => by rw [n2 316 (by omega) (by omega)])⟩
      show M2 314 (270 * k + j) = M 314 (270 * (k + 1) + j)
      rw [d2, fil_at, if_pos (by omega), up_neC _ _ _ _ (by omega), show 270 * k + j + 270 = 270 * (k + 1) + j by omega])
    refine ⟨M', ?_, ?_, fun c' h1 h2 => by rw [g3 c' h1 h2, n2 c' h1 h2], fun j hj => by rw [g4 j hj, v2, up_neJ _ _ _ hj]⟩
    · rw [h6, if_pos rfl, nsb (by omega), ob1_ok, l_keep2 1350 0 z _ (by omega) (by omega) (up_same _ _ _ _), ob1_ok, ob1_ok, ← d2]
      exact g1
    · unfold sRem
      rw [if_pos h6]
      exact g2
  · obtain ⟨M', g1, g2, g3, g4⟩ := last P.1 M P.2 (by omega) p3 hR pk
    refine ⟨M', ?_, ?_, g3, g4⟩
    · rw [if_neg (eF h6 (by omega) (by omega)), ob1_ok]
      exact g1
    · unfold sRem
      rw [if_neg h6]
      exact g2
theorem mm_undo (hz : 1000 ≤ z) {P : Ps} (hP : PM M P) : (P.1 = 0 ∧ F_Mod_undo z M = some (false, M)) ∨ (∃ n M', P.1 = n + 1 ∧ F_Mod_undo z M = some (true, M') ∧ RM M' (P.2 n) ∧ PM M' (n, P.2) ∧ (∀ c', c' ≠ 313 → c' ≠ 312 → M' c' = M c') ∧ ∀ j, j ≠ 3 → M' 312 j = M 312 j) := by
  obtain ⟨p6, p3, pk⟩ := hP
  unfold F_Mod_undo
  rw [p3]
  by_cases h0 : P.1 = 0
  · left
    rw [h0, if_pos rfl]
    exact ⟨rfl, rfl⟩
  · right
    obtain ⟨n, hn⟩ : ∃ n, P.1 = n + 1 := ⟨P.1 - 1, by omega⟩
    obtain ⟨M', d⟩ : ∃ M', M' = fil (up M 312 3 (nI n)) 313 0 270 (fun j => up M 312 3 (nI n) 314 (270 * n + j)) := ⟨_, rfl⟩
    have hq := pk n (by omega)
    have e316 : M' 316 = M 316 := by
      rw [d, fil_ne (by omega)]
      funext j
      exact up_neC _ _ _ _ (by omega)
    have e314 : M' 314 = M 314 := by
      rw [d, fil_ne (by omega)]
      funext j
      exact up_neC _ _ _ _ (by omega)
    have e312 : M' 312 = up M 312 3 (nI n) 312 := by rw [d, fil_ne (by omega)]
    refine ⟨n, M', hn, ?_, RM_RR.mpr (RR_cg hq.2 hq.1 (fun j hj => ?_) (fun j q _ _ => by rw [e316])), ⟨by show n ≤ 6; omega, by rw [e312, up_same], fun k hk => ?_⟩, fun c' h1 h2 => ?_, fun j hj => by rw [e312, up_neJ _ _ _ hj]⟩
    · rw [if_neg (eF h0 (by omega) (by omega)), hn, nsb (by omega), Nat.add_sub_cancel, ob1_ok, l_undo1 (show n < 6 by omega) 270 0 z _ (by omega) (by omega) (up_same _ _ _ _), ob1_ok, d]
    · rw [d, fil_at, if_pos ⟨Nat.zero_le _, hj⟩, up_neC _ _ _ _ (by omega)]
    · have hk' : k < n := hk
      rw [e314, e316]
      exact pk k (by omega)
    · rw [d, fil_ne h1]
      funext j
      exact up_neC _ _ _ _ h2
theorem mm_thinks (hz : 1000 ≤ z) : ∃ M', F_Mod_thinks z M = some M' ∧ M' 312 5 = bI true ∧ (∀ j, j < 270 → M' 315 j = M 313 j) ∧ (∀ c', c' ≠ 315 → c' ≠ 312 → M' c' = M c') ∧ ∀ j, j ≠ 5 → M' 312 j = M 312 j := by
  refine ⟨up (fil M 315 0 270 (M 313)) 312 5 (bI true), ?_, up_same _ _ _ _, fun j hj => ?_, fun c' h1 h2 => ?_, fun j hj => ?_⟩
  · unfold F_Mod_thinks
    rw [l_think 270 0 z M (by omega) (by omega), ob1_ok, ob1_ok]
  · rw [up_neC _ _ _ _ (by omega), fil_at, if_pos ⟨Nat.zero_le _, hj⟩]
  · rw [← fil_ne (M := M) (c := 315) (k := 0) (b := 270) (g := M 313) h1]
    funext j
    exact up_neC _ _ _ _ h2
  · rw [up_neJ _ _ _ hj, fil_ne (by omega)]
theorem mm_ends (hz : 1000 ≤ z) : ∃ M', F_Mod_endsThought z M = some M' ∧ M' 312 5 = bI false ∧ (∀ j, j < 270 → M' 313 j = M 315 j) ∧ (∀ c', c' ≠ 313 → c' ≠ 312 → M' c' = M c') ∧ ∀ j, j ≠ 5 → M' 312 j = M 312 j := by
  refine ⟨up (fil M 313 0 270 (M 315)) 312 5 (bI false), ?_, up_same _ _ _ _, fun j hj => ?_, fun c' h1 h2 => ?_, fun j hj => ?_⟩
  · unfold F_Mod_endsThought
    rw [l_ends 270 0 z M (by omega) (by omega), ob1_ok, ob1_ok]
  · rw [up_neC _ _ _ _ (by omega), fil_at, if_pos ⟨Nat.zero_le _, hj⟩]
  · rw [← fil_ne (M := M) (c := 313) (k := 0) (b := 270) (g := M 315) h1]
    funext j
    exact up_neC _ _ _ _ h2
  · rw [up_neJ _ _ _ hj, fil_ne (by omega)]
end S42
