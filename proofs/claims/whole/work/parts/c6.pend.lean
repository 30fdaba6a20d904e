/-! ===== what waits in the model's reading of a condition ===== -/
def PD (N : mM) (P : List Int32) : Prop := N 312 25 = nI P.length ∧ SK N 326 P
def topNe (P : List Int32) (w : Int32) : Prop := ∀ p P', P = p :: P' → p ≠ w
def FrZ (b : Nat) (N N' : mM) : Prop := (∀ c', c' ≠ 312 → c' ≠ 324 → c' ≠ 325 → c' ≠ 326 → N' c' = N c') ∧ (∀ j, ¬ (9 ≤ j ∧ j ≤ 12) → j ≠ 22 → j ≠ 23 → j ≠ 25 → j ≠ 26 → j ≠ 27 → N' 312 j = N 312 j) ∧ ∀ j, j < 800 + b → N' 324 j = N 324 j ∧ N' 325 j = N 325 j
def pw (N : mM) (l : Nat) (w : Int32) : mM := up (up N 326 l w) 312 25 (nI (l + 1))
def popE (N : mM) (l cm : Nat) (w : Int32) : mM := en (up N 312 25 (nI l)) cm w (nI 0)
def AX (z y : Nat) (b : Int32) (due : Bool) (N : mM) : Option (Int32 × mM) := L_Mod_readAny_1 z y b due N
def AEnd (z y : Nat) (b : Int32) (M5 : mM) : Option (Int32 × mM) :=
  if b = (nI 0) then
    some (nI 0, M5)
    else
    if ¬ ((F_Mod_isSign (nI 41) M5) = true) then
    ob2 (F_Mod_errs (nI 1) M5) fun v15 M16 =>
    some (v15, M16)
    else
    ob1 (some (up M5 312 25 ((M5 312 25) - (nI 1)))) fun M7 =>
    ob1 (some (up M7 312 23 ((M7 312 23) - (nI 1)))) fun M9 =>
    ob1 (F_Mod_settles z (nI 9) M9) fun M11 =>
    ob1 (F_Mod_reads z M11) fun M13 =>
    AX z y (b - (nI 1)) false M13
def nt : Nat → Int32 → Int32
  | 0, x => x
  | k + 1, x => nt k (nI 1 - x)
def Bit (g : En → Int32) : Prop := ∀ env, g env = nI 0 ∨ g env = nI 1
section SC6
variable {z n t i : Nat} {M N M' N' : mM} {tp : Nat → Nat} {d b0 b1 cc cm y : Nat} {f g : En → Int32} {fs : Fs} {P : List Int32} {w b : Int32}
theorem FrZ_rf {b : Nat} : FrZ b N N := ⟨fun _ _ _ _ _ => rfl, fun _ _ _ _ _ _ _ => rfl, fun _ _ => ⟨rfl, rfl⟩⟩
theorem FrZ_Y {b : Nat} (h : FrY b N N') : FrZ b N N' := ⟨fun c' p q r _ => h.1 c' p q r, fun j p q _ _ s u => h.2.1 j p q s u, h.2.2⟩
theorem FrZ_tr {b b' : Nat} {N1 : mM} (h : FrZ b N N1) (h' : FrZ b' N1 N') (hb : b ≤ b') : FrZ b N N' := ⟨fun c' p q r s => (h'.1 c' p q r s).trans (h.1 c' p q r s), fun j p q r s u v => (h'.2.1 j p q r s u v).trans (h.2.1 j p q r s u v), fun j p => ⟨((h'.2.2 j (by omega)).1).trans (h.2.2 j p).1, ((h'.2.2 j (by omega)).2).trans (h.2.2 j p).2⟩⟩
theorem FrZ_up {b k : Nat} {x : Int32} (hk : k = 23 ∨ k = 25) : FrZ b N (up N 312 k x) := ⟨fun c' p _ _ _ => upC p, fun j _ _ q r _ _ => up_neJ _ _ _ (by omega), fun j _ => by rw [upC (show 324 ≠ 312 by omega), upC (show 325 ≠ 312 by omega)]; exact ⟨rfl, rfl⟩⟩
theorem PD_Y {b : Nat} (h : PD N P) (f : FrY b N N') : PD N' P := ⟨by rw [f.2.1 25 (by omega) (by omega) (by omega) (by omega)]; exact h.1, SK_congr h.2 (fun j _ => by rw [f.1 326 (by omega) (by omega) (by omega)])⟩
theorem m_waits (h : PD N P) (hl : P.length < 40) (w : Int32) : F_Mod_waits w N = some (pw N P.length w) := by
  unfold F_Mod_waits
  rw [h.1, wa_ok hl (by omega), ob1_ok, up_neC _ _ _ _ (by omega), h.1, nadd P.length 1, ob1_ok]
  rfl
theorem PD_w (h : PD N P) : PD (pw N P.length w) (w :: P) := by
  refine ⟨?_, ?_, SK_congr h.2 (fun j hj => ?_)⟩
  · unfold pw
    rw [up_same]
    rfl
  · unfold pw
    rw [up_neC _ _ _ _ (by omega), up_same]
  · unfold pw
    rw [up_neC _ _ _ _ (by omega), up_neJ _ _ _ (by omega)]
theorem FrZ_w {b l : Nat} : FrZ b N (pw N l w) := by
  unfold pw
  refine FrZ_tr ⟨fun c' _ _ _ s => upC s, fun j _ _ _ _ _ _ => up_neC _ _ _ _ (by omega), fun j _ => ?_⟩ (FrZ_up (by omega)) (Nat.le_refl b)
  rw [upC (show 324 ≠ 326 by omega), upC (show 325 ≠ 326 by omega)]
  exact ⟨rfl, rfl⟩
theorem PZ_w {l : Nat} (h : PZ tp n t i M N) : PZ tp n t i M (pw N l w) := PZ_cg h (fun _ _ => rfl) (fun _ _ => rfl) (fun c' hc => by unfold pw; rw [upC (by omega), upC (by omega)]) (fun j p q => by unfold pw; rw [up_neJ _ _ _ (by omega), up_neC _ _ _ _ (by omega)])
theorem PZ_u {k : Nat} {x : Int32} (h : PZ tp n t i M N) (hk : k = 23 ∨ k = 25) : PZ tp n t i M (up N 312 k x) := PZ_cg h (fun _ _ => rfl) (fun _ _ => rfl) (fun c' hc => upC (by omega)) (fun j p q => up_neJ _ _ _ (by omega))
theorem pw_keep {l : Nat} : pw N l w 324 = N 324 ∧ pw N l w 325 = N 325 ∧ pw N l w 312 22 = N 312 22 ∧ pw N l w 312 23 = N 312 23 := by
  unfold pw
  refine ⟨?_, ?_, ?_, ?_⟩
  · rw [upC (by omega), upC (by omega)]
  · rw [upC (by omega), upC (by omega)]
  · rw [up_neJ _ _ _ (by omega), up_neC _ _ _ _ (by omega)]
  · rw [up_neJ _ _ _ (by omega), up_neC _ _ _ _ (by omega)]
/-- nothing to settle -/
theorem set_ne (h : PD N P) (ht : topNe P w) (hl : P.length ≤ 40) : L_Mod_settles_1 z w (y + 1) N = some N := by
  rw [L_Mod_settles_1, h.1]
  cases P with
  | nil =>
    rw [if_neg (lF (by simp) (by simp)), ob1_ok, if_neg Bool.false_ne_true]
  | cons p P' =>
    simp only [List.length_cons] at hl ⊢
    have e : N 326 (P'.length + 1 - 1) = p := h.2.1
    rw [if_pos (lT (by omega) (by omega)), nsb (by omega), ra_ok (by omega) (by omega), ob1_ok, ob1_ok, e, if_neg (fun e => ht p P' rfl (of_decide_eq_true e))]
theorem settle_ne (h : PD N P) (ht : topNe P w) (hl : P.length ≤ 40) (hz : 1 ≤ z) : F_Mod_settles z w N = some N := by
  obtain ⟨z', rfl⟩ : ∃ k, z = k + 1 := ⟨z - 1, by omega⟩
  unfold F_Mod_settles
  rw [set_ne h ht hl, ob1_ok]
theorem set_eq (h : PD N (w :: P)) (hl : P.length < 40) (h22 : N 312 22 = nI cm) (hc : cm < 400) : L_Mod_settles_1 z w (y + 1) N = if w = nI 9 then ob1 (some (up (popE N P.length cm w) 312 23 ((popE N P.length cm w) 312 23 - nI 1))) fun M13 => L_Mod_settles_1 z w y M13 else L_Mod_settles_1 z w y (popE N P.length cm w) := by
  have h1 := h.1
  simp only [List.length_cons] at h1
  have e : N 326 (P.length + 1 - 1) = w := h.2.1
  rw [L_Mod_settles_1, h1, if_pos (lT (by omega) (by omega)), nsb (by omega), ra_ok (by omega) (by omega), ob1_ok, ob1_ok, e, if_pos (decide_eq_true rfl), ob1_ok, Nat.add_sub_cancel, em_m (cm := cm) (by rw [up_neJ _ _ _ (by omega)]; exact h22) hc, ob1_ok]
  rfl
theorem PD_p (h : PD N (w :: P)) : PD (popE N P.length cm w) P := by
  refine ⟨?_, SK_congr h.2.2 (fun j _ => ?_)⟩
  · unfold popE en
    rw [up_neJ _ _ _ (by omega), up_neC _ _ _ _ (by omega), up_neC _ _ _ _ (by omega), up_same]
  · unfold popE en
    rw [up_neC _ _ _ _ (by omega), up_neC _ _ _ _ (by omega), up_neC _ _ _ _ (by omega), up_neC _ _ _ _ (by omega)]
theorem PZ_p {l : Nat} (h : PZ tp n t i M N) : PZ tp n t i M (popE N l cm w) := PZ_en (PZ_u h (by omega))
theorem FrZ_p {b l : Nat} (hb : b ≤ cm) : FrZ b N (popE N l cm w) := FrZ_tr (FrZ_up (by omega)) (FrZ_Y (FrY_e hb)) (Nat.le_refl _)
theorem p22 {l : Nat} : popE N l cm w 312 22 = nI (cm + 1) ∧ popE N l cm w 312 23 = N 312 23 := by
  unfold popE en
  constructor
  · rw [up_same]
  · rw [up_neJ _ _ _ (by omega), up_neC _ _ _ _ (by omega), up_neC _ _ _ _ (by omega), up_neJ _ _ _ (by omega)]
theorem RM_u {k c1 : Nat} {x : Int32} {gs : Fs} (h : RunM (dr N 324) (dr N 325) b1 c1 gs) : RunM (dr (up N 312 k x) 324) (dr (up N 312 k x) 325) b1 c1 gs := by
  unfold dr at h ⊢
  rw [upC (show 324 ≠ 312 by omega), upC (show 325 ≠ 312 by omega)]
  exact h
theorem RM_p {l : Nat} {gs gs' : Fs} (h : RunM (dr N 324) (dr N 325) b1 cm gs) (hs : ∀ env st, mst env w (nI 0) (vls env gs ++ st) = some (vls env gs' ++ st)) : RunM (dr (popE N l cm w) 324) (dr (popE N l cm w) 325) b1 (cm + 1) gs' := RMe (RM_u h) hs
/-- all nots that wait are settled -/
theorem set9 {P0 : List Int32} {o : Nat} (ht : topNe P0 (nI 9)) : ∀ (k y cm : Nat) (g : En → Int32) (N : mM), k < y → PD N (List.replicate k (nI 9) ++ P0) → k + P0.length ≤ 40 → N 312 23 = nI (o + k) → N 312 22 = nI cm → cm + k ≤ 400 → RunM (dr N 324) (dr N 325) b1 cm (g :: fs) → PZ tp n t i M N →
    ∃ N', L_Mod_settles_1 z (nI 9) y N = some N' ∧ PD N' P0 ∧ N' 312 23 = nI o ∧ N' 312 22 = nI (cm + k) ∧ RunM (dr N' 324) (dr N' 325) b1 (cm + k) ((fun env => nt k (g env)) :: fs) ∧ PZ tp n t i M N' ∧ FrZ cm N N' := by
  intro k
  induction k with
  | zero =>
    intro y cm g N hy h hl h23 h22 hc hR hp
    obtain ⟨y, rfl⟩ : ∃ k, y = k + 1 := ⟨y - 1, by omega⟩
    exact ⟨N, set_ne h ht (by simp only [List.replicate_zero, List.nil_append]; omega), h, h23, h22, hR, hp, FrZ_rf⟩
  | succ k ih =>
    intro y cm g N hy h hl h23 h22 hc hR hp
    obtain ⟨y, rfl⟩ : ∃ k, y = k + 1 := ⟨y - 1, by omega⟩
    rw [List.replicate_succ, List.cons_append] at h
    have hlen : (List.replicate k (nI 9) ++ P0).length < 40 := by
      rw [List.length_append, List.length_replicate]
      omega
    obtain ⟨N1, d1⟩ : ∃ N1, N1 = up (popE N (List.replicate k (nI 9) ++ P0).length cm (nI 9)) 312 23 (nI (o + k)) := ⟨_, rfl⟩
    have hp1 : PD (popE N (List.replicate k (nI 9) ++ P0).length cm (nI 9)) (List.replicate k (nI 9) ++ P0) := PD_p h
    have hN1 : PD N1 (List.replicate k (nI 9) ++ P0) := by
      rw [d1]
      exact ⟨by rw [up_neJ _ _ _ (by omega)]; exact hp1.1, SK_congr hp1.2 (fun j _ => by rw [up_neC _ _ _ _ (by omega)])⟩
    have n22 : N1 312 22 = nI (cm + 1) := by rw [d1, up_neJ _ _ _ (by omega), p22.1]
    have n23 : N1 312 23 = nI (o + k) := by rw [d1, up_same]
    have hR1 : RunM (dr N1 324) (dr N1 325) b1 (cm + 1) ((fun env => nI 1 - g env) :: fs) := by
      rw [d1]
      exact RM_u (RM_p hR (fun env st => mst_not))
    have hZ1 : PZ tp n t i M N1 := by
      rw [d1]
      exact PZ_u (PZ_p hp) (by omega)
    have hF1 : FrZ cm N N1 := by
      rw [d1]
      exact FrZ_tr (FrZ_p (Nat.le_refl _)) (FrZ_up (by omega)) (Nat.le_refl _)
    obtain ⟨N', q1, q2, q3, q4, q5, q6, q7⟩ := ih y (cm + 1) _ N1 (by omega) hN1 (by omega) n23 n22 (by omega) hR1 hZ1
    refine ⟨N', ?_, q2, q3, by rw [q4, show cm + 1 + k = cm + (k + 1) by omega], ?_, q6, FrZ_tr hF1 q7 (by omega)⟩
    · rw [set_eq h hlen h22 (by omega), if_pos rfl, ob1_ok, p22.2, h23, nsb (by omega), show o + (k + 1) - 1 = o + k by omega, ← d1]
      exact q1
    · rw [show cm + (k + 1) = cm + 1 + k by omega]
      exact q5
theorem nt_bit : ∀ (k : Nat) (x : Int32), (x = nI 0 ∨ x = nI 1) → (nt k x = if k % 2 = 0 then x else nI 1 - x) ∧ (nt k x = nI 0 ∨ nt k x = nI 1) := by
  intro k
  induction k with
  | zero => intro x hx; exact ⟨rfl, hx⟩
  | succ k ih =>
    intro x hx
    have hx' : nI 1 - x = nI 0 ∨ nI 1 - x = nI 1 := by
      rcases hx with rfl | rfl
      · exact Or.inr (by decide)
      · exact Or.inl (by decide)
    obtain ⟨i1, i2⟩ := ih (nI 1 - x) hx'
    rw [nt]
    refine ⟨?_, i2⟩
    rw [i1]
    by_cases h : k % 2 = 0
    · rw [if_pos h, if_neg (by omega)]
    · rw [if_neg h, if_pos (by omega)]
      rcases hx with rfl | rfl <;> decide
/-- the loop of the model, by what is at hand -/
theorem AX_due : AX z (y + 1) b true N = if ((F_Mod_isWord (nI 6) N) = true ∨ (F_Mod_isSign (nI 40) N) = true) then
    if (N 312 23) = (nI 8) then
    ob2 (F_Mod_errs (nI 3) N) fun v44 M45 =>
    some (v44, M45)
    else
    ob1 (some (up N 312 23 ((N 312 23) + (nI 1)))) fun M34 =>
    ob1 (if ¬ ((F_Mod_isWord (nI 6) N) = true) then
    some (b + (nI 1))
    else
    some (b)) fun brackets_37 =>
    ob1 (F_Mod_waits (if (F_Mod_isWord (nI 6) N) = true then nI 9 else nI 12) M34) fun M40 =>
    ob1 (F_Mod_reads z M40) fun M42 =>
    AX z y brackets_37 true M42
    else
    ob2 (ob2 (F_Mod_readCompared z N) fun v59 M60 =>
    some (decide (v59 = (-1)), M60)) fun x47 M49 =>
    if x47 = true then
    some ((-1), M49)
    else
    ob1 (F_Mod_settles z (nI 9) M49) fun M57 =>
    AX z y b false M57 := by
  conv => lhs; unfold AX
  rw [L_Mod_readAny_1, if_pos rfl]
  rfl
theorem AX_off : AX z (y + 1) b false N = if (F_Mod_isWord (nI 5) N) = true then
    ob1 (F_Mod_settles z (nI 10) N) fun M26 =>
    ob1 (F_Mod_waits (nI 10) M26) fun M28 =>
    ob1 (F_Mod_reads z M28) fun M30 =>
    AX z y b true M30
    else
    if (F_Mod_isWord (nI 4) N) = true then
    ob1 (F_Mod_settles z (nI 10) N) fun M18 =>
    ob1 (F_Mod_settles z (nI 11) M18) fun M20 =>
    ob1 (F_Mod_waits (nI 11) M20) fun M22 =>
    ob1 (F_Mod_reads z M22) fun M24 =>
    AX z y b true M24
    else
    ob1 (F_Mod_settles z (nI 10) N) fun M3 =>
    ob1 (F_Mod_settles z (nI 11) M3) fun M5 =>
    AEnd z y b M5 := by
  conv => lhs; unfold AX
  rw [L_Mod_readAny_1, if_neg Bool.false_ne_true]
  rfl
end SC6
