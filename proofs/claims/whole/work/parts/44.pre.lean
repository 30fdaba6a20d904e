/-! ===== the book only goes on ===== -/
section S44
variable {th : Bool} {z : Nat} {M : mM} {W : Wd} {A : LA} {c : Nat}
theorem pre_cg {W' : Wd} (h1 : wb W' = wb W) (h2 : wB W' = wB W) : pre W W' := ⟨by rw [h1]; exact Nat.le_refl _, fun j k _ _ => by rw [h2]⟩
theorem pre_note (a b e : Int32) : pre W (wNoteT th W a b e) := by
  unfold wNoteT wNote
  split
  · exact pre_rf W
  split
  · exact pre_rf W
  · refine ⟨Nat.le_succ _, fun j k hj hk => ?_⟩
    show (if j = wb W then nl4 (wS W 0) a b e else wB W j) k = _
    rw [if_neg (by omega)]
theorem pre_hap : pre W (sHapW th W) := by
  unfold sHapW
  split
  · exact pre_rf W
  · exact pre_cg rfl rfl
theorem pre_settle {k s l x : Int32} : pre W (sSettle th W k s l x) := pre_tr (Q := wAdd W k s l x) (pre_cg rfl rfl) (pre_note _ _ _)
theorem pre_come {k s l x : Int32} : pre W (sCome th A W k s l x) := by
  unfold sCome
  split
  · exact pre_rf W
  split
  · exact pre_tr pre_hap (pre_tr (pre_settle (k := k) (s := s) (l := l) (x := x)) (pre_cg rfl rfl))
  · exact pre_tr pre_hap (pre_note _ _ _)
theorem pre_freed {what : Int32} {t : Nat} : pre W (sFreed th W what t) :=
  pre_tr (Q := wSetS W 6 (wS W 6 + nI 1)) (pre_cg rfl rfl) (pre_tr (pre_note (th := th) what (wT W t 0) (wT W t 4)) (pre_cg rfl rfl))
theorem pre_leg {t : Nat} : pre W (sLeg th W t) := by
  have h : pre W (wSetT (wSetL (wSetT W t 6 (wT W t 6 - nI 1)) (wT W t 4).toNatClampNeg (wL W (wT W t 4).toNatClampNeg + nI 1)) t 3 (sMx (wT W t 3 - nI 1))) := pre_cg rfl rfl
  exact pre_tr h (pre_note (th := th) (nI 2) (wT W t 0) (wT W t 4))
theorem pre_str {t : Nat} : pre W (sStr th A W t).2 := by
  unfold sStr
  split
  · exact pre_rf W
  split
  · split
    · exact pre_tr pre_hap pre_freed
    · exact pre_tr pre_hap pre_leg
  · exact pre_hap
theorem pre_strL : ∀ (m t : Nat) (W : Wd), pre W (sStrL th A m t W) := by
  intro m
  induction m with
  | zero => intro t W; exact pre_rf W
  | succ m ih =>
    intro t W
    rw [sStrL]
    split
    · exact pre_tr pre_str (ih _ _)
    · exact pre_rf W
theorem pre_sl : ∀ (m t : Nat) (W : Wd), pre W (sSl th m t W) := by
  intro m
  induction m with
  | zero => intro t W; exact pre_rf W
  | succ m ih =>
    intro t W
    rw [sSl]
    split
    · exact pre_rf W
    split
    · exact pre_freed
    · have h : pre W (wSetT W t 4 (wT W t 4 + nI 1)) := pre_cg rfl rfl
      exact pre_tr h (ih t _)
theorem pre_slL : ∀ (m : Nat) (W : Wd), pre W (sSlL th A m W) := by
  intro m
  induction m with
  | zero => intro W; exact pre_rf W
  | succ m ih =>
    intro W
    rw [sSlL]
    refine pre_tr ?_ (ih _)
    unfold sSlide
    split
    · exact pre_rf W
    · exact pre_sl _ _ _
theorem pre_wth (a b e : Int32) : pre W (sWth W a b e) := by
  unfold sWth
  split
  · exact pre_cg rfl rfl
  split
  · exact pre_cg rfl rfl
  split
  · exact pre_cg rfl rfl
  · exact pre_cg rfl rfl
theorem pre_sky (S : Rw) : ∀ (m j : Nat) (W : Wd), pre W (sSky S m j W) := by
  intro m
  induction m with
  | zero => intro j W; exact pre_rf W
  | succ m ih =>
    intro j W
    rw [sSky]
    refine pre_tr ?_ (ih _ _)
    split
    · exact pre_wth _ _ _
    · exact pre_rf W
theorem pre_fly (F : Rw) : ∀ (m j : Nat) (W : Wd), pre W (sFly th A F m j W) := by
  intro m
  induction m with
  | zero => intro j W; exact pre_rf W
  | succ m ih =>
    intro j W
    rw [sFly]
    refine pre_tr ?_ (ih _ _)
    split
    · exact pre_come
    · exact pre_rf W
theorem pre_grow (W : Wd) : pre W (sGrow W) := pre_cg rfl rfl
theorem pre_day (S F : Rw) (W : Wd) : pre W (sDay th A S F W) :=
  pre_tr (pre_sky S S.1 0 W) (pre_tr (pre_fly F F.1 0 _) (pre_tr (pre_strL 20 0 _) (pre_tr (pre_slL 60 _) (pre_grow _))))
/-- the kept worlds' books lie under the world's -/
def preP (P : Ps) (W : Wd) : Prop := ∀ k, k < P.1 → pre (P.2 k) W
theorem preP_tr {P : Ps} {W' : Wd} (h : preP P W) (h' : pre W W') : preP P W' := fun k hk => pre_tr (h k hk) h'
theorem preP_rem {P : Ps} (h : preP P W) : preP (sRem P W) W := by
  intro k hk
  unfold sRem at hk ⊢
  by_cases h6 : P.1 = 6
  · rw [if_pos h6] at hk ⊢
    show pre (if k < 5 then P.2 (k + 1) else W) W
    by_cases h5 : k < 5
    · rw [if_pos h5]; exact h (k + 1) (by omega)
    · rw [if_neg h5]; exact pre_rf W
  · rw [if_neg h6] at hk ⊢
    show pre (if k < P.1 then P.2 k else W) W
    by_cases h5 : k < P.1
    · rw [if_pos h5]; exact h k h5
    · rw [if_neg h5]; exact pre_rf W
/-- the model's kept rows, when only the book goes on -/
theorem PM_on {P : Ps} {M' : mM} {W' : Wd} (hP : PM M P) (hR : RM M W) (hR' : RM M' W') (hp : preP P W) (hW : pre W W') (h3 : M' 312 3 = M 312 3) (h314 : M' 314 = M 314) : PM M' P := by
  obtain ⟨p6, p3, pk⟩ := hP
  refine ⟨p6, h3.trans p3, fun k hk => ⟨(pk k hk).1, ?_⟩⟩
  rw [h314]
  refine RR_cg (pk k hk).2 (pk k hk).1 (fun j _ => rfl) (fun j q hj hq => ?_)
  have a := (hp k hk).1
  have b := hW.1
  rw [RM_B hR' (by omega) hq, RM_B hR (by omega) hq, hW.2 j q (by omega) hq]
/-- in thought nothing is noted -/
theorem noteT_th (a b e : Int32) : wNoteT true W a b e = W := if_pos rfl
end S44
