/-! ===== what a day makes of a world ===== -/
def sMx (x : Int32) : Int32 := F_Math_max (nI 0) x
def sPutG (W : Wd) (i : Nat) (s : Int32) : Wd := wSetG W i (sMx (wG W i - s))
def sCome (th : Bool) (A : LA) (W : Wd) (k s l x : Int32) : Wd :=
  if (wAt W x).isSome = true ∨ wN W = 20 then W
  else if sHap th W (tellsS A (nI 0) (envW W (newT (wS W 5) k s l x))) = true then sPutG (sSettle th (sHapW th W) k s l x) x.toNatClampNeg s
  else wNoteT th (sHapW th W) (nI 1) (-1) x
def sFreed (th : Bool) (W : Wd) (what : Int32) (t : Nat) : Wd := wDel (wNoteT th (wSetS W 6 (wS W 6 + nI 1)) what (wT W t 0) (wT W t 4)) t
def sLeg (th : Bool) (W : Wd) (t : Nat) : Wd :=
  let W1 := wSetT W t 6 (wT W t 6 - nI 1)
  let W2 := wSetL W1 (wT W t 4).toNatClampNeg (wL W (wT W t 4).toNatClampNeg + nI 1)
  let W3 := wSetT W2 t 3 (sMx (wT W t 3 - nI 1))
  wNoteT th W3 (nI 2) (wT W t 0) (wT W t 4)
def sStr (th : Bool) (A : LA) (W : Wd) (t : Nat) : Bool × Wd :=
  if ¬ nI 0 < tellsS A (nI 1) (envW W (wT W t)) then (false, W)
  else if sHap th W (tellsS A (nI 1) (envW W (wT W t))) = true then
    (if ¬ nI 1 < wT W t 6 then (true, sFreed th (sHapW th W) (nI 3) t) else (false, sLeg th (sHapW th W) t))
  else (false, sHapW th W)
def sStrL (th : Bool) (A : LA) : Nat → Nat → Wd → Wd
  | 0, _, W => W
  | m + 1, t, W => if t < wN W then sStrL th A m (if (sStr th A W t).1 = true then t else t + 1) (sStr th A W t).2 else W
def sSl (th : Bool) : Nat → Nat → Wd → Wd
  | 0, _, W => W
  | m + 1, t, W => if (wAt W (wT W t 4 + nI 1)).isSome = true then W
    else if ¬ wT W t 4 < nI 59 then sFreed th W (nI 4) t
    else sSl th m t (wSetT W t 4 (wT W t 4 + nI 1))
def sSlide (th : Bool) (A : LA) (W : Wd) (i : Nat) : Wd := match wAt W (nI i) with
  | none => W
  | some t => sSl th (tellsS A (nI 2) (envW W (wT W t))).toNatClampNeg t W
def sSlL (th : Bool) (A : LA) : Nat → Wd → Wd
  | 0, W => W
  | m + 1, W => sSlL th A m (sSlide th A W m)
def sGrow (W : Wd) : Wd := mkW (upd (wS W) 0 (wS W 0 + nI 1)) (fun i => if nI 4 < wS W 4 ∧ wAt W (nI i) = none then sMx (wG W i - nI 1) else wG W i) (wL W) (fun t => upd (wT W t) 5 (F_Math_min (nI 999) (wT W t 5 + nI 1))) (wN W) (wB W) (wb W)
/-- rows of four (day, what, a, b) and of five numbers -/
abbrev Rw : Type := Nat × (Nat → Nat → Int32)
def sWth (W : Wd) (what a b : Int32) : Wd :=
  if what = nI 0 then wSetS W 3 a
  else if what = nI 1 then wSetS W 4 a
  else if what = nI 2 then wSetG W a.toNatClampNeg b
  else mkW (wS W) (fun i => sMx (wG W i - a)) (wL W) (wT W) (wN W) (wB W) (wb W)
def sSky (S : Rw) : Nat → Nat → Wd → Wd
  | 0, _, W => W
  | m + 1, j, W => sSky S m (j + 1) (if S.2 j 0 = wS W 0 then sWth W (S.2 j 1) (S.2 j 2) (S.2 j 3) else W)
def sFly (th : Bool) (A : LA) (F : Rw) : Nat → Nat → Wd → Wd
  | 0, _, W => W
  | m + 1, j, W => sFly th A F m (j + 1) (if F.2 j 0 = wS W 0 then sCome th A W (F.2 j 1) (F.2 j 2) (F.2 j 3) (F.2 j 4) else W)
def sDay (th : Bool) (A : LA) (S F : Rw) (W : Wd) : Wd := sGrow (sSlL th A 60 (sStrL th A 20 0 (sFly th A F F.1 0 (sSky S S.1 0 W))))
/-- rows that a text may give -/
def okS (S : Rw) : Prop := S.1 ≤ 16 ∧ ∀ j, j < S.1 → (S.2 j 1 = nI 0 ∨ S.2 j 1 = nI 1 ∨ (S.2 j 1 = nI 2 ∧ (∃ i, i < 60 ∧ S.2 j 2 = nI i) ∧ ∃ g, g ≤ 99 ∧ S.2 j 3 = nI g) ∨ (S.2 j 1 = nI 3 ∧ ∃ g, 1 ≤ g ∧ g ≤ 99 ∧ S.2 j 2 = nI g))
def okF (F : Rw) : Prop := F.1 ≤ 16 ∧ ∀ j, j < F.1 → (∃ s, 1 ≤ s ∧ s ≤ 9 ∧ F.2 j 2 = nI s) ∧ ∃ i, i < 60 ∧ F.2 j 4 = nI i
section S31
variable {W : Wd} {c : Nat} {th : Bool} {A : LA}
theorem sMx_nn {g a : Nat} (hg : g ≤ 99) (ha : a ≤ 99) : ∃ h, h ≤ 99 ∧ sMx (nI g - nI a) = nI h := by
  by_cases h : a ≤ g
  · refine ⟨g - a, by omega, ?_⟩
    unfold sMx
    rw [nsb h, max0 (by omega)]
  · refine ⟨0, by omega, ?_⟩
    unfold sMx F_Math_max
    have h2 : ¬ nI 0 < nI g - nI a := by
      rw [Int32.lt_iff_toInt_lt, show (nI 0).toInt = 0 from rfl]
      have e : (nI g - nI a).toInt = (g : Int) - a := by
        rw [Int32.toInt_sub, nI_toInt (by omega), nI_toInt (by omega)]
        exact Int.bmod_eq_of_le (by omega) (by omega)
      omega
    rw [if_neg h2]
theorem wf_hap (hf : wf c W) : wf c (sHapW th W) := by
  unfold sHapW
  split
  · exact hf
  · exact wf_setS hf (by omega)
theorem sHapW_f : wG (sHapW th W) = wG W ∧ wL (sHapW th W) = wL W ∧ wT (sHapW th W) = wT W ∧ wN (sHapW th W) = wN W ∧ (∀ k, k ≠ 1 → wS (sHapW th W) k = wS W k) := by
  unfold sHapW
  split
  · exact ⟨rfl, rfl, rfl, rfl, fun _ _ => rfl⟩
  · exact ⟨rfl, rfl, rfl, rfl, fun k h => upd_ne _ _ h⟩
theorem wf_settle (hf : wf c W) (hc : c + 1 < 2147483648) (hN : wN W < 20) {s i : Nat} {k l : Int32} (hi : i < 60) (hs : 1 ≤ s ∧ s ≤ 9) (hfree : wAt W (nI i) = none) : wf (c + 1) (sSettle th W k (nI s) l (nI i)) := wf_note (wf_add hf hc hN hi hs hfree) _ _ _
theorem wf_putG (hf : wf c W) {i s : Nat} (hi : i < 60) (hs : s ≤ 99) : wf c (sPutG W i (nI s)) := by
  obtain ⟨g, hg, e⟩ := wf_glue hf hi
  obtain ⟨h, hh, e2⟩ := sMx_nn hg hs
  unfold sPutG
  rw [e, e2]
  exact wf_setG hf hh
theorem wAt_cgS {W W' : Wd} (hT : wT W' = wT W) (hN : wN W' = wN W) (x : Int32) : wAt W' x = wAt W x := wAt_cg (fun _ _ => by rw [hT]) hN x
theorem wf_come (hf : wf c W) (hc : c + 1 < 2147483648) {s i : Nat} {k l : Int32} (hi : i < 60) (hs : 1 ≤ s ∧ s ≤ 9) : wf (c + 1) (sCome th A W k (nI s) l (nI i)) := by
  obtain ⟨f1, f2, f3, f4, f5⟩ := sHapW_f (th := th) (W := W)
  have h20 := wf_20 hf
  unfold sCome
  split
  · exact wf_mono hf (by omega)
  · rename_i h
    split
    · rw [nI_clamp (by omega)]
      refine wf_putG (wf_settle (wf_hap hf) hc (by rw [f4]; omega) hi hs ?_) hi (by omega)
      rw [wAt_cgS f3 f4]
      cases e : wAt W (nI i) with
      | none => rfl
      | some t => exact absurd (Or.inl (by rw [e]; rfl)) h
    · exact wf_mono (wf_note (wf_hap hf) _ _ _) (by omega)
theorem wf_freed (hf : wf c W) {what : Int32} {t : Nat} (ht : t < wN W) : wf c (sFreed th W what t) := by
  have h := wf_note (th := th) (wf_setS (k := 6) (x := wS W 6 + nI 1) hf (by omega)) what (wT W t 0) (wT W t 4)
  refine wf_del h ?_
  rw [(wNoteT_f).2.2.2.2]
  exact ht
theorem wf_leg (hf : wf c W) (t : Nat) : wf c (sLeg th W t) :=
  wf_note (wf_setT (wf_setL (wf_setT hf (by omega) (by omega) (fun h => absurd h (by omega)))) (by omega) (by omega) (fun h => absurd h (by omega))) _ _ _
theorem wf_str (hf : wf c W) {t : Nat} (ht : t < wN W) : wf c (sStr th A W t).2 := by
  obtain ⟨f1, f2, f3, f4, f5⟩ := sHapW_f (th := th) (W := W)
  unfold sStr
  split
  · exact hf
  split
  · split
    · exact wf_freed (wf_hap hf) (by rw [f4]; exact ht)
    · exact wf_leg (wf_hap hf) t
  · exact wf_hap hf
theorem wf_strL : ∀ (m t : Nat) {W : Wd}, wf c W → wf c (sStrL th A m t W) := by
  intro m
  induction m with
  | zero => intro t W h; exact h
  | succ m ih =>
    intro t W h
    rw [sStrL]
    split
    · rename_i ht
      exact ih _ (wf_str h ht)
    · exact h
theorem wf_step (hf : wf c W) {t i : Nat} (ht : t < wN W) (hat : wT W t 4 = nI i) (hi : i < 59) (hfree : wAt W (nI (i + 1)) = none) : wf c (wSetT W t 4 (nI (i + 1))) := by
  obtain ⟨h1, h2, h3, h4, h6, ⟨k, h7, h8, h9⟩, h10, h11⟩ := hf
  have o : ∀ s q, q ≠ 4 → upT (wT W) t 4 (nI (i + 1)) s q = wT W s q := fun s q h => upT_ne (Or.inr h)
  have u : ∀ s, s ≠ t → upT (wT W) t 4 (nI (i + 1)) s 4 = wT W s 4 := fun s h => upT_ne (Or.inl h)
  refine ⟨h1, h2, fun s hs => ?_, fun a b ha hb e => ?_, fun a b ha hb e => ?_, ⟨k, h7, h8, fun s hs => ?_⟩, fun s hs => ?_, h11⟩
  · show ∃ j, j < 60 ∧ upT (wT W) t 4 (nI (i + 1)) s 4 = nI j
    by_cases h : s = t
    · subst h; exact ⟨i + 1, by omega, upT_same⟩
    · rw [u s h]; exact h3 s hs
  · have e' : upT (wT W) t 4 (nI (i + 1)) a 4 = upT (wT W) t 4 (nI (i + 1)) b 4 := e
    have ha' : a < wN W := ha
    have hb' : b < wN W := hb
    by_cases h : a = t
    · by_cases h' : b = t
      · omega
      · rw [h, upT_same, u b h'] at e'
        exact absurd e'.symm (wAt_none hfree hb')
    · by_cases h' : b = t
      · rw [h', upT_same, u a h] at e'
        exact absurd e' (wAt_none hfree ha')
      · rw [u a h, u b h'] at e'
        exact h4 a b ha' hb' e'
  · have e' : upT (wT W) t 4 (nI (i + 1)) a 0 = upT (wT W) t 4 (nI (i + 1)) b 0 := e
    rw [o _ _ (by omega), o _ _ (by omega)] at e'
    exact h6 a b ha hb e'
  · show ∃ j, j < k ∧ upT (wT W) t 4 (nI (i + 1)) s 0 = nI j
    rw [o _ _ (by omega)]; exact h9 s hs
  · show ∃ q, 1 ≤ q ∧ q ≤ 9 ∧ upT (wT W) t 4 (nI (i + 1)) s 2 = nI q
    rw [o _ _ (by omega)]; exact h10 s hs
theorem wf_sl : ∀ (m t : Nat) {W : Wd}, wf c W → t < wN W → wf c (sSl th m t W) := by
  intro m
  induction m with
  | zero => intro t W h _; exact h
  | succ m ih =>
    intro t W h ht
    obtain ⟨i, hi, e⟩ := wf_at h ht
    rw [sSl]
    split
    · exact h
    · rename_i h1
      split
      · exact wf_freed h ht
      · rename_i h2
        rw [e] at h1 h2 ⊢
        rw [nadd] at h1 ⊢
        have hi59 : i < 59 := by
          apply Classical.byContradiction
          intro hn
          exact h2 (lF (by omega) (by omega))
        refine ih t (wf_step h ht e hi59 ?_) ht
        cases q : wAt W (nI (i + 1)) with
        | none => rfl
        | some s => exact absurd (by rw [q]; rfl) h1
theorem wf_slide (hf : wf c W) (i : Nat) : wf c (sSlide th A W i) := by
  unfold sSlide
  split
  · exact hf
  · rename_i t e
    exact wf_sl _ _ hf (wAt_some e).1
theorem wf_slL : ∀ (m : Nat) {W : Wd}, wf c W → wf c (sSlL th A m W) := by
  intro m
  induction m with
  | zero => intro W h; exact h
  | succ m ih => intro W h; exact ih (wf_slide h m)
theorem wf_grow (hf : wf c W) : wf c (sGrow W) := by
  refine wf_cg hf rfl (show wb W ≤ 150 from wf_150 hf) (fun t _ => ⟨upd_ne (wT W t) (k := 5) (j := 4) (F_Math_min (nI 999) (wT W t 5 + nI 1)) (by omega), upd_ne (wT W t) (k := 5) (j := 0) (F_Math_min (nI 999) (wT W t 5 + nI 1)) (by omega)⟩) (fun t ht => ?_) (upd_ne (wS W) (k := 0) (j := 5) (wS W 0 + nI 1) (by omega)) (fun i hi => ?_) (Nat.le_refl _)
  · show ∃ s, 1 ≤ s ∧ s ≤ 9 ∧ upd (wT W t) 5 (F_Math_min (nI 999) (wT W t 5 + nI 1)) 2 = nI s
    rw [upd_ne _ _ (by omega)]
    exact wf_size hf ht
  · show ∃ g, g ≤ 99 ∧ (if nI 4 < wS W 4 ∧ wAt W (nI i) = none then sMx (wG W i - nI 1) else wG W i) = nI g
    obtain ⟨g, hg, e⟩ := wf_glue hf hi
    split
    · rw [e]
      exact sMx_nn hg (by omega)
    · exact ⟨g, hg, e⟩
theorem wf_wth (hf : wf c W) {S : Rw} (hS : okS S) {j : Nat} (hj : j < S.1) : wf c (sWth W (S.2 j 1) (S.2 j 2) (S.2 j 3)) := by
  unfold sWth
  rcases hS.2 j hj with h | h | ⟨h, ⟨i, hi, e⟩, g, hg, e2⟩ | ⟨h, g, hg1, hg, e⟩
  · rw [if_pos h]; exact wf_setS hf (by omega)
  · rw [h, if_neg (by decide), if_pos rfl]; exact wf_setS hf (by omega)
  · rw [h, if_neg (by decide), if_neg (by decide), if_pos rfl, e2]; exact wf_setG hf hg
  · rw [h, if_neg (by decide), if_neg (by decide), if_neg (by decide)]
    refine wf_cg hf rfl (show wb W ≤ 150 from wf_150 hf) (fun _ _ => ⟨rfl, rfl⟩) (fun t ht => wf_size hf ht) rfl (fun i hi => ?_) (Nat.le_refl _)
    obtain ⟨g', hg', e'⟩ := wf_glue hf hi
    show ∃ q, q ≤ 99 ∧ sMx (wG W i - S.2 j 2) = nI q
    rw [e', e]
    exact sMx_nn hg' hg
theorem wf_sky {S : Rw} (hS : okS S) : ∀ (m j : Nat) {W : Wd}, j + m = S.1 → wf c W → wf c (sSky S m j W) := by
  intro m
  induction m with
  | zero => intro j W _ h; exact h
  | succ m ih =>
    intro j W hj h
    rw [sSky]
    refine ih (j + 1) (by omega) ?_
    split
    · exact wf_wth h hS (by omega)
    · exact h
theorem wf_fly {F : Rw} (hF : okF F) : ∀ (m j c : Nat) {W : Wd}, j + m = F.1 → c + m < 2147483648 → wf c W → wf (c + m) (sFly th A F m j W) := by
  intro m
  induction m with
  | zero => intro j c W _ _ h; exact h
  | succ m ih =>
    intro j c W hj hc h
    rw [sFly, show c + (m + 1) = c + 1 + m by omega]
    refine ih (j + 1) (c + 1) (by omega) (by omega) ?_
    split
    · obtain ⟨⟨s, h1, h2, e⟩, i, hi, e2⟩ := hF.2 j (by omega)
      rw [e, e2]
      exact wf_come h (by omega) hi ⟨h1, h2⟩
    · exact wf_mono h (by omega)
theorem wf_day {S F : Rw} (hS : okS S) (hF : okF F) (hf : wf c W) (hc : c + 16 < 2147483648) : wf (c + 16) (sDay th A S F W) :=
  wf_grow (wf_slL 60 (wf_strL 20 0 (wf_mono (wf_fly hF F.1 0 c (by omega) (by have := hF.1; omega) (wf_sky hS S.1 0 (by omega) hf)) (by have := hF.1; omega))))
end S31
