/-! ===== what is done to a world ===== -/
def newT (n k s l i : Int32) : Nat → Int32 := fun q => if q = 0 then n else if q = 1 then k else if q = 2 then s else if q = 3 then l else if q = 4 then i else if q = 5 then nI 0 else nI 6
def wAdd (W : Wd) (k s l i : Int32) : Wd := mkW (upd (wS W) 5 (wS W 5 + nI 1)) (wG W) (wL W) (fun t => if t = wN W then newT (wS W 5) k s l i else wT W t) (wN W + 1) (wB W) (wb W)
def sSettle (th : Bool) (W : Wd) (k s l i : Int32) : Wd := wNoteT th (wAdd W k s l i) (nI 0) (wS W 5) i
section S28
variable {W : Wd} {c : Nat} {th : Bool}
theorem wNoteT_f {a b e : Int32} : wS (wNoteT th W a b e) = wS W ∧ wG (wNoteT th W a b e) = wG W ∧ wL (wNoteT th W a b e) = wL W ∧ wT (wNoteT th W a b e) = wT W ∧ wN (wNoteT th W a b e) = wN W := by
  unfold wNoteT wNote
  split
  · exact ⟨rfl, rfl, rfl, rfl, rfl⟩
  · split
    · exact ⟨rfl, rfl, rfl, rfl, rfl⟩
    · exact ⟨rfl, rfl, rfl, rfl, rfl⟩
theorem wAt_cg {W W' : Wd} (hT : ∀ t, t < wN W → wT W' t 4 = wT W t 4) (hN : wN W' = wN W) (x : Int32) : wAt W' x = wAt W x := by
  unfold wAt
  rw [hN]
  exact fi_cg (fun j _ h => by rw [hT j (by omega)])
theorem wOf_cg {W W' : Wd} (hT : ∀ t, t < wN W → wT W' t 0 = wT W t 0) (hN : wN W' = wN W) (x : Int32) : wOf W' x = wOf W x := by
  unfold wOf
  rw [hN]
  exact fi_cg (fun j _ h => by rw [hT j (by omega)])
theorem numAt_cg {W W' : Wd} (hT : ∀ t, t < wN W → wT W' t 4 = wT W t 4 ∧ wT W' t 0 = wT W t 0) (hN : wN W' = wN W) (i : Nat) : numAt W' i = numAt W i := by
  unfold numAt
  rw [wAt_cg (fun t ht => (hT t ht).1) hN]
  cases h : wAt W (nI i) with
  | none => rfl
  | some t => exact (hT t (wAt_some h).1).2
/-- worlds that agree on what wf speaks of -/
theorem wf_cg {W W' : Wd} {c' : Nat} (hf : wf c W) (hN : wN W' = wN W) (hb : wb W' ≤ 150) (hT : ∀ t, t < wN W → wT W' t 4 = wT W t 4 ∧ wT W' t 0 = wT W t 0) (hz : ∀ t, t < wN W → ∃ s, 1 ≤ s ∧ s ≤ 9 ∧ wT W' t 2 = nI s) (h5 : wS W' 5 = wS W 5) (hG : ∀ i, i < 60 → ∃ g, g ≤ 99 ∧ wG W' i = nI g) (hc : c ≤ c') : wf c' W' := by
  obtain ⟨h1, h2, h3, h4, h6, ⟨k, h7, h8, h9⟩, h10, h11⟩ := hf
  refine ⟨by rw [hN]; exact h1, hb, fun t ht => ?_, fun s t hs ht e => ?_, fun s t hs ht e => ?_, ⟨k, by omega, by rw [h5]; exact h8, fun t ht => ?_⟩, fun t ht => ?_, hG⟩
  · rw [hN] at ht
    rw [(hT t ht).1]; exact h3 t ht
  · rw [hN] at hs ht
    rw [(hT s hs).1, (hT t ht).1] at e
    exact h4 s t hs ht e
  · rw [hN] at hs ht
    rw [(hT s hs).2, (hT t ht).2] at e
    exact h6 s t hs ht e
  · rw [hN] at ht
    rw [(hT t ht).2]; exact h9 t ht
  · rw [hN] at ht
    exact hz t ht
theorem wf_note (hf : wf c W) (a b e : Int32) : wf c (wNoteT th W a b e) := by
  obtain ⟨h1, h2, h3, h4, h5⟩ := wNoteT_f (th := th) (W := W) (a := a) (b := b) (e := e)
  have hb : wb (wNoteT th W a b e) ≤ 150 := by
    have := wf_150 hf
    unfold wNoteT wNote
    split
    · exact this
    · split
      · exact this
      · show wb W + 1 ≤ 150
        omega
  exact wf_cg hf h5 hb (fun t _ => by rw [h4]; exact ⟨rfl, rfl⟩) (fun t ht => by rw [h4]; exact wf_size hf ht) (by rw [h1]) (fun i hi => by rw [h2]; exact wf_glue hf hi) (Nat.le_refl _)
theorem wf_setS (hf : wf c W) {k : Nat} {x : Int32} (hk : k ≠ 5) : wf c (wSetS W k x) :=
  wf_cg hf rfl (show wb W ≤ 150 from wf_150 hf) (fun _ _ => ⟨rfl, rfl⟩) (fun t ht => wf_size hf ht) (upd_ne _ _ (Ne.symm hk)) (fun i hi => wf_glue hf hi) (Nat.le_refl _)
theorem wf_setG (hf : wf c W) {i g : Nat} (hg : g ≤ 99) : wf c (wSetG W i (nI g)) := by
  refine wf_cg hf rfl (show wb W ≤ 150 from wf_150 hf) (fun _ _ => ⟨rfl, rfl⟩) (fun t ht => wf_size hf ht) rfl (fun j hj => ?_) (Nat.le_refl _)
  show ∃ g', g' ≤ 99 ∧ upd (wG W) i (nI g) j = nI g'
  by_cases h : j = i
  · subst h
    exact ⟨g, hg, upd_same _ _ _⟩
  · rw [upd_ne _ _ h]
    exact wf_glue hf hj
theorem wf_setL (hf : wf c W) {i : Nat} {x : Int32} : wf c (wSetL W i x) :=
  wf_cg hf rfl (show wb W ≤ 150 from wf_150 hf) (fun _ _ => ⟨rfl, rfl⟩) (fun t ht => wf_size hf ht) rfl (fun i hi => wf_glue hf hi) (Nat.le_refl _)
theorem upT_ne {T : Nat → Nat → Int32} {t k s q : Nat} {x : Int32} (h : s ≠ t ∨ q ≠ k) : upT T t k x s q = T s q := by
  unfold upT
  by_cases hs : s = t
  · subst hs
    rw [if_pos rfl, upd_ne _ _ (by omega)]
  · rw [if_neg hs]
theorem upT_same {T : Nat → Nat → Int32} {t k : Nat} {x : Int32} : upT T t k x t k = x := by
  unfold upT
  rw [if_pos rfl, upd_same]
theorem wf_setT (hf : wf c W) {t k : Nat} {x : Int32} (h0 : k ≠ 0) (h4 : k ≠ 4) (h2 : k = 2 → ∃ s, 1 ≤ s ∧ s ≤ 9 ∧ x = nI s) : wf c (wSetT W t k x) := by
  refine wf_cg hf rfl (show wb W ≤ 150 from wf_150 hf) (fun s _ => ⟨upT_ne (Or.inr (by omega)), upT_ne (Or.inr (by omega))⟩) (fun s hs => ?_) rfl (fun i hi => wf_glue hf hi) (Nat.le_refl _)
  show ∃ q, 1 ≤ q ∧ q ≤ 9 ∧ upT (wT W) t k x s 2 = nI q
  by_cases h : s = t ∧ k = 2
  · obtain ⟨rfl, rfl⟩ := h
    rw [upT_same]
    exact h2 rfl
  · rw [upT_ne (by omega)]
    exact wf_size hf hs
theorem wf_add (hf : wf c W) (hc : c + 1 < 2147483648) (hN : wN W < 20) {s i : Nat} {k l : Int32} (hi : i < 60) (hs : 1 ≤ s ∧ s ≤ 9) (hfree : wAt W (nI i) = none) : wf (c + 1) (wAdd W k (nI s) l (nI i)) := by
  obtain ⟨h1, h2, h3, h4, h6, ⟨q, h7, h8, h9⟩, h10, h11⟩ := hf
  have hT : ∀ t, t < wN W → wT (wAdd W k (nI s) l (nI i)) t = wT W t := fun t ht => by
    show (if t = wN W then _ else _) = _
    rw [if_neg (by omega)]
  have hTn : wT (wAdd W k (nI s) l (nI i)) (wN W) = newT (wS W 5) k (nI s) l (nI i) := if_pos rfl
  refine ⟨by show wN W + 1 ≤ 20; omega, h2, fun t ht => ?_, fun a b ha hb e => ?_, fun a b ha hb e => ?_, ⟨q + 1, by omega, ?_, fun t ht => ?_⟩, fun t ht => ?_, h11⟩
  · have ht' : t < wN W + 1 := ht
    by_cases h : t < wN W
    · rw [hT t h]; exact h3 t h
    · rw [show t = wN W by omega, hTn]
      exact ⟨i, hi, rfl⟩
  · have ha' : a < wN W + 1 := ha
    have hb' : b < wN W + 1 := hb
    by_cases h : a < wN W
    · by_cases h' : b < wN W
      · rw [hT a h, hT b h'] at e
        exact h4 a b h h' e
      · rw [hT a h, show b = wN W by omega, hTn] at e
        exact absurd e (wAt_none hfree h)
    · by_cases h' : b < wN W
      · rw [hT b h', show a = wN W by omega, hTn] at e
        exact absurd e.symm (wAt_none hfree h')
      · omega
  · have ha' : a < wN W + 1 := ha
    have hb' : b < wN W + 1 := hb
    have hq : ∀ t, t < wN W → wT W t 0 ≠ wS W 5 := fun t ht e => by
      obtain ⟨j, hj, e2⟩ := h9 t ht
      rw [e2, h8] at e
      exact eF (by omega) (by omega) (by omega) e
    by_cases h : a < wN W
    · by_cases h' : b < wN W
      · rw [hT a h, hT b h'] at e
        exact h6 a b h h' e
      · rw [hT a h, show b = wN W by omega, hTn] at e
        exact absurd e (hq a h)
    · by_cases h' : b < wN W
      · rw [hT b h', show a = wN W by omega, hTn] at e
        exact absurd e.symm (hq b h')
      · omega
  · show upd (wS W) 5 (wS W 5 + nI 1) 5 = _
    rw [upd_same, h8, nadd]
  · have ht' : t < wN W + 1 := ht
    by_cases h : t < wN W
    · rw [hT t h]
      obtain ⟨j, hj, e⟩ := h9 t h
      exact ⟨j, by omega, e⟩
    · rw [show t = wN W by omega, hTn]
      exact ⟨q, by omega, h8⟩
  · have ht' : t < wN W + 1 := ht
    by_cases h : t < wN W
    · rw [hT t h]; exact h10 t h
    · rw [show t = wN W by omega, hTn]
      exact ⟨s, hs.1, hs.2, rfl⟩
/-- what slot s held before t went -/
def bk (t s : Nat) : Nat := if s < t then s else s + 1
theorem wDel_T {t s : Nat} : wT (wDel W t) s = wT W (bk t s) := by
  show (if s < t then _ else _) = _
  unfold bk
  split <;> rfl
theorem bk_lt {t s : Nat} (ht : t < wN W) (hs : s < wN W - 1) : bk t s < wN W := by
  unfold bk
  split <;> omega
theorem bk_inj {t s s' : Nat} (h : bk t s = bk t s') : s = s' := by
  unfold bk at h
  split at h <;> split at h <;> omega
theorem bk_ne {t s : Nat} : bk t s ≠ t := by
  unfold bk
  split <;> omega
theorem wf_del (hf : wf c W) {t : Nat} (ht : t < wN W) : wf c (wDel W t) := by
  obtain ⟨h1, h2, h3, h4, h6, ⟨q, h7, h8, h9⟩, h10, h11⟩ := hf
  refine ⟨by show wN W - 1 ≤ 20; omega, h2, fun s hs => ?_, fun a b ha hb e => ?_, fun a b ha hb e => ?_, ⟨q, h7, h8, fun s hs => ?_⟩, fun s hs => ?_, h11⟩
  · rw [wDel_T]; exact h3 _ (bk_lt ht hs)
  · rw [wDel_T, wDel_T] at e
    exact bk_inj (h4 _ _ (bk_lt ht ha) (bk_lt ht hb) e)
  · rw [wDel_T, wDel_T] at e
    exact bk_inj (h6 _ _ (bk_lt ht ha) (bk_lt ht hb) e)
  · rw [wDel_T]; exact h9 _ (bk_lt ht hs)
  · rw [wDel_T]; exact h10 _ (bk_lt ht hs)
theorem numAt_add (hf : wf c W) (hc : c + 1 < 2147483648) (hN : wN W < 20) {s i : Nat} {k l : Int32} (hi : i < 60) (hs : 1 ≤ s ∧ s ≤ 9) (hfree : wAt W (nI i) = none) {j : Nat} (hj : j < 60) : numAt (wAdd W k (nI s) l (nI i)) j = if j = i then wS W 5 else numAt W j := by
  have hf' := wf_add (k := k) (l := l) hf hc hN hi hs hfree
  have hT : ∀ t, t < wN W → wT (wAdd W k (nI s) l (nI i)) t = wT W t := fun t ht => by
    show (if t = wN W then _ else _) = _
    rw [if_neg (by omega)]
  have hTn : wT (wAdd W k (nI s) l (nI i)) (wN W) = newT (wS W 5) k (nI s) l (nI i) := if_pos rfl
  unfold numAt
  by_cases h : j = i
  · subst h
    rw [if_pos rfl, wAt_of hf' (t := wN W) (show wN W < wN W + 1 by omega) (by rw [hTn]; rfl)]
    show wT (wAdd W k (nI s) l (nI j)) (wN W) 0 = _
    rw [hTn]
    rfl
  · rw [if_neg h]
    cases e : wAt W (nI j) with
    | some t =>
      obtain ⟨a1, a2⟩ := wAt_some e
      rw [wAt_of hf' (t := t) (show t < wN W + 1 by omega) (by rw [hT t a1]; exact a2)]
      show wT (wAdd W k (nI s) l (nI i)) t 0 = wT W t 0
      rw [hT t a1]
    | none =>
      have e2 : wAt (wAdd W k (nI s) l (nI i)) (nI j) = none := by
        refine fi_no (fun t ht => decide_eq_false (fun q => ?_))
        have ht' : t < wN W + 1 := ht
        by_cases h2 : t < wN W
        · rw [hT t h2] at q
          exact wAt_none e h2 q
        · rw [show t = wN W by omega, hTn] at q
          have q' : nI i = nI j := q
          exact eF (by omega) (by omega) (by omega) q'
      rw [e2]
theorem numAt_del (hf : wf c W) {t i : Nat} (ht : t < wN W) (hi : i < 60) (hat : wT W t 4 = nI i) {j : Nat} (hj : j < 60) : numAt (wDel W t) j = if j = i then -1 else numAt W j := by
  have hf' := wf_del hf ht
  unfold numAt
  cases e : wAt W (nI j) with
  | none =>
    have e2 : wAt (wDel W t) (nI j) = none := by
      refine fi_no (fun s hs => decide_eq_false (fun q => ?_))
      rw [wDel_T] at q
      exact wAt_none e (bk_lt ht hs) q
    rw [e2]
    by_cases h : j = i
    · rw [if_pos h]
    · rw [if_neg h]
  | some s =>
    obtain ⟨a1, a2⟩ := wAt_some e
    by_cases h : s = t
    · subst h
      rw [hat] at a2
      have hij : j = i := by
        apply Classical.byContradiction
        intro hn
        exact eF (Ne.symm hn) (by omega) (by omega) a2
      have e2 : wAt (wDel W s) (nI j) = none := by
        refine fi_no (fun q hq => decide_eq_false (fun w => ?_))
        rw [wDel_T] at w
        exact bk_ne (wf_atU hf (bk_lt ht hq) ht (w.trans (by rw [hat, hij])))
      rw [e2, if_pos hij]
    · have hij : j ≠ i := fun q => h (wf_atU hf a1 ht (by rw [a2, hat, q]))
      rw [if_neg hij]
      have h2 : ∃ q, q < wN W - 1 ∧ bk t q = s := by
        unfold bk
        by_cases h3 : s < t
        · exact ⟨s, by omega, if_pos h3⟩
        · exact ⟨s - 1, by omega, by rw [if_neg (by omega)]; omega⟩
      obtain ⟨q, hq, hb⟩ := h2
      rw [wAt_of hf' (t := q) hq (by rw [wDel_T, hb]; exact a2)]
      show wT (wDel W t) q 0 = wT W s 0
      rw [wDel_T, hb]
end S28
