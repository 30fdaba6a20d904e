/-! ===== the model's image: the whole of it ===== -/
def slOk (p : Nat) : Bool := !Nat.beq (slC p) 343 && (!Nat.beq (slC p) 312 || (!Nat.beq (slI p) 54 && !Nat.beq (slI p) 52 && !Nat.beq (slI p) 53 && !Nat.beq (slI p) 3 && !Nat.beq (slI p) 5 && !Nat.beq (slI p) 8 && !Nat.beq (slI p) 28 && !Nat.beq (slI p) 29)) && !Nat.beq (slC p) 314 && !Nat.beq (slC p) 317 && !Nat.beq (slC p) 318
set_option maxRecDepth 100000 in
theorem sl_all : allB slOk 11 0 = true := by decide +kernel
section S88
variable {z : Nat} {N V R : mM} {t : Bool}
theorem nbq {a b : Nat} : (!Nat.beq a b) = true ↔ a ≠ b := by
  rw [Bool.not_eq_true']
  constructor
  · intro h e
    rw [beq_iff.mpr e] at h
    cases h
  · intro h
    cases e : Nat.beq a b with
    | false => rfl
    | true => exact absurd (beq_iff.mp e) h
theorem sl_318 {p : Nat} (hp : p < 1943) : slC p ≠ 318 := by
  have h := allB_ok 11 0 sl_all p (by omega) (by omega)
  unfold slOk at h
  rw [Bool.and_eq_true, nbq] at h
  exact h.2
theorem sl_ok {p : Nat} (hp : p < 1943) : slC p ≠ 343 ∧ slC p ≠ 314 ∧ slC p ≠ 317 ∧ (slC p = 312 → slI p ≠ 54 ∧ slI p ≠ 52 ∧ slI p ≠ 53 ∧ slI p ≠ 3 ∧ slI p ≠ 5 ∧ slI p ≠ 8 ∧ slI p ≠ 28 ∧ slI p ≠ 29) := by
  have h := allB_ok 11 0 sl_all p (by omega) (by omega)
  unfold slOk at h
  rw [Bool.and_eq_true, Bool.and_eq_true, Bool.and_eq_true, Bool.and_eq_true, nbq, nbq, nbq, nbq, Bool.or_eq_true, nbq] at h
  obtain ⟨⟨⟨⟨h1, h2⟩, h3⟩, h4⟩, -⟩ := h
  refine ⟨h1, h3, h4, fun e => ?_⟩
  have h5 := h2.resolve_left (fun h => h e)
  simp only [Bool.and_eq_true, nbq] at h5
  obtain ⟨⟨⟨⟨⟨⟨⟨x1, x2⟩, x3⟩, x4⟩, x5⟩, x6⟩, x7⟩, x8⟩ := h5
  exact ⟨x1, x2, x3, x4, x5, x6, x7, x8⟩
theorem kR_T : ∀ (m p : Nat) (N : mM), p + m ≤ 1943 → (∀ i, p ≤ i → i < p + m → kR true m p N 343 i = N (slC i) (slI i)) ∧ (∀ c i, c ≠ 343 → (c ≠ 312 ∨ i ≠ 54) → kR true m p N c i = N c i) ∧ ∀ i, i < p → kR true m p N 343 i = N 343 i := by
  intro m
  induction m with
  | zero => intro p N _; exact ⟨fun i h1 h2 => by omega, fun _ _ _ _ => rfl, fun _ _ => rfl⟩
  | succ m ih =>
    intro p N hp
    obtain ⟨s1, -, -, s2⟩ := sl_ok (show p < 1943 by omega)
    obtain ⟨g1, g2, g3⟩ := ih (p + 1) (kS true (slC p) (slI p) p N) (by omega)
    have k1 : ∀ c i, c ≠ 343 → (c ≠ 312 ∨ i ≠ 54) → kS true (slC p) (slI p) p N c i = N c i := fun c i h1 h2 => by
      unfold kS
      rw [if_pos rfl]
      by_cases e : c = slC p ∧ i = slI p
      · rw [e.1, e.2, up_same]
      · have e1 : up (up (up N 312 54 (nI (p + 1))) 343 p (N (slC p) (slI p))) (slC p) (slI p) (N (slC p) (slI p)) c i = up (up N 312 54 (nI (p + 1))) 343 p (N (slC p) (slI p)) c i := by
          by_cases ec : c = slC p
          · subst ec
            exact up_neJ _ _ _ (fun h => e ⟨rfl, h⟩)
          · exact up_neC _ _ _ _ ec
        rw [e1, up_neC _ _ _ _ h1]
        by_cases ec : c = 312
        · subst ec
          exact up_neJ _ _ _ (by omega)
        · exact up_neC _ _ _ _ ec
    have k2 : ∀ i, kS true (slC p) (slI p) p N 343 i = if i = p then N (slC p) (slI p) else N 343 i := fun i => by
      unfold kS
      rw [if_pos rfl, up_neC _ _ _ _ (fun h => s1 h.symm)]
      by_cases e : i = p
      · rw [e, up_same, if_pos rfl]
      · rw [up_neJ _ _ _ e, if_neg e, up_neC _ _ _ _ (by omega)]
    refine ⟨fun i h1 h2 => ?_, fun c i h1 h2 => ?_, fun i hi => ?_⟩
    · rw [kR]
      by_cases e : i = p
      · rw [e, g3 p (by omega), k2, if_pos rfl]
      · obtain ⟨q1, -, -, q2⟩ := sl_ok (show i < 1943 by omega)
        rw [g1 i (by omega) (by omega), k1 _ _ q1 (by
          by_cases ec : slC i = 312
          · exact Or.inr (q2 ec).1
          · exact Or.inl ec)]
    · rw [kR, g2 c i h1 h2, k1 c i h1 h2]
    · rw [kR, g3 i (by omega), k2, if_neg (by omega)]
/-- the image row holds the places of V -/
def IMM (N V : mM) : Prop := ∀ p, p < 1943 → N 343 p = V (slC p) (slI p)
theorem kR_F : ∀ (m p : Nat) (N : mM), p + m ≤ 1943 → IMM N V → (∀ j, p ≤ j → j < p + m → kR false m p N (slC j) (slI j) = V (slC j) (slI j)) ∧ (∀ c i, (∀ j, p ≤ j → j < p + m → ¬ (slC j = c ∧ slI j = i)) → (c ≠ 312 ∨ i ≠ 54) → kR false m p N c i = N c i) ∧ IMM (kR false m p N) V := by
  intro m
  induction m with
  | zero => intro p N _ hI; exact ⟨fun i h1 h2 => by omega, fun _ _ _ _ => rfl, hI⟩
  | succ m ih =>
    intro p N hp hI
    obtain ⟨s1, -, -, s2⟩ := sl_ok (show p < 1943 by omega)
    have k1 : ∀ c i, ¬ (slC p = c ∧ slI p = i) → (c ≠ 312 ∨ i ≠ 54) → kS false (slC p) (slI p) p N c i = N c i := fun c i h1 h2 => by
      unfold kS
      rw [if_neg Bool.false_ne_true]
      have e1 : up (up N 312 54 (nI (p + 1))) (slC p) (slI p) (N 343 p) c i = up N 312 54 (nI (p + 1)) c i := by
        by_cases ec : c = slC p
        · subst ec
          exact up_neJ _ _ _ (fun h => h1 ⟨rfl, h.symm⟩)
        · exact up_neC _ _ _ _ ec
      rw [e1]
      by_cases ec : c = 312
      · subst ec
        exact up_neJ _ _ _ (by omega)
      · exact up_neC _ _ _ _ ec
    have k2 : kS false (slC p) (slI p) p N (slC p) (slI p) = V (slC p) (slI p) := by
      unfold kS
      rw [if_neg Bool.false_ne_true, up_same]
      exact hI p (by omega)
    have hI1 : IMM (kS false (slC p) (slI p) p N) V := fun q hq => by
      rw [k1 343 q (fun h => s1 h.1) (Or.inl (by omega))]
      exact hI q hq
    obtain ⟨g1, g2, g3⟩ := ih (p + 1) (kS false (slC p) (slI p) p N) (by omega) hI1
    refine ⟨fun j h1 h2 => ?_, fun c i h1 h2 => ?_, g3⟩
    · rw [kR]
      by_cases e : j = p
      · subst e
        by_cases hx : ∃ j', j + 1 ≤ j' ∧ j' < j + 1 + m ∧ slC j' = slC j ∧ slI j' = slI j
        · obtain ⟨j', a1, a2, a3, a4⟩ := hx
          have := g1 j' a1 a2
          rw [a3, a4] at this
          exact this
        · rw [g2 _ _ (fun j' a1 a2 a3 => hx ⟨j', a1, a2, a3⟩) (by
            by_cases ec : slC j = 312
            · exact Or.inr (s2 ec).1
            · exact Or.inl ec), k2]
      · exact g1 j (by omega) (by omega)
    · rw [kR, g2 c i (fun j a1 a2 => h1 j (by omega) (by omega)) h2, k1 c i (h1 p (Nat.le_refl _) (by omega)) h2]
theorem k_Told (hz : 1000 ≤ z) (h : AT t 270 N) : F_Mod_keepsTold z N = some (kR t 208 270 N) ∧ AT t 478 (kR t 208 270 N) := by
  have h1 := kS_AT (c := 312) (i := 30) h (by omega)
  have h2 := kS_AT (c := 312) (i := 32) h1 (by omega)
  have h3 := kS_AT (c := 312) (i := 34) h2 (by omega)
  have h4 := kS_AT (c := 312) (i := 39) h3 (by omega)
  have h5 := kS_AT (c := 312) (i := 42) h4 (by omega)
  have h6 := kS_AT (c := 312) (i := 45) h5 (by omega)
  have h7 := kS_AT (c := 338) (i := 0) h6 (by omega)
  have h8 := kS_AT (c := 338) (i := 1) h7 (by omega)
  have e8 : kR t 8 270 N = kS t 338 1 (270 + 1 + 1 + 1 + 1 + 1 + 1 + 1) (kS t 338 0 (270 + 1 + 1 + 1 + 1 + 1 + 1) (kS t 312 45 (270 + 1 + 1 + 1 + 1 + 1) (kS t 312 42 (270 + 1 + 1 + 1 + 1) (kS t 312 39 (270 + 1 + 1 + 1) (kS t 312 34 (270 + 1 + 1) (kS t 312 32 (270 + 1) (kS t 312 30 270 N))))))) := rfl
  obtain ⟨a1, a2⟩ := k_keepsTold_1 (z := z) 8 0 z _ (by omega) (by omega) h8
  obtain ⟨b1, b2⟩ := k_keepsTold_2 (z := z) 6 0 z _ (by omega) (by omega) a2
  obtain ⟨c1, c2⟩ := k_keepsTold_3 (z := z) 16 0 z _ (by omega) (by omega) b2
  obtain ⟨d1, d2⟩ := k_keepsTold_4 (z := z) 12 0 z _ (by omega) (by omega) c2
  obtain ⟨f1, f2⟩ := k_keepsTold_5 (z := z) 80 0 z _ (by omega) (by omega) d2
  obtain ⟨g1, g2⟩ := k_keepsTold_6 (z := z) 64 0 z _ (by omega) (by omega) f2
  rw [← e8] at a1 b1 c1 d1 f1 g1 g2
  have ea : kR t 208 270 N = kR t (1 * 64) (414 + 1 * 0) (kR t (1 * 80) (334 + 1 * 0) (kR t (1 * 12) (322 + 1 * 0) (kR t (1 * 16) (306 + 1 * 0) (kR t (2 * 6) (294 + 2 * 0) (kR t (2 * 8) (278 + 2 * 0) (kR t 8 270 N)))))) := by
    rw [show (208 : Nat) = 8 + 200 by omega, kR_add, show (200 : Nat) = 2 * 8 + 184 by omega, kR_add, show (184 : Nat) = 2 * 6 + 172 by omega, kR_add, show (172 : Nat) = 1 * 16 + 156 by omega, kR_add, show (156 : Nat) = 1 * 12 + 144 by omega, kR_add, show (144 : Nat) = 1 * 80 + 1 * 64 by omega, kR_add]
  rw [ea]
  refine ⟨?_, g2⟩
  unfold F_Mod_keepsTold
  rw [keep_f (p := 270) (by omega) h, keep_f (p := 270 + 1) (by omega) h1, keep_f (p := 270 + 1 + 1) (by omega) h2, keep_f (p := 270 + 1 + 1 + 1) (by omega) h3, keep_f (p := 270 + 1 + 1 + 1 + 1) (by omega) h4, keep_f (p := 270 + 1 + 1 + 1 + 1 + 1) (by omega) h5,
    keep_at (p := 270 + 1 + 1 + 1 + 1 + 1 + 1) (by omega) h6 (by omega) (by omega), keep_at (p := 270 + 1 + 1 + 1 + 1 + 1 + 1 + 1) (by omega) h7 (by omega) (by omega), ← e8, a1, ob1_ok, b1, ob1_ok, c1, ob1_ok, d1, ob1_ok, f1, ob1_ok, g1, ob1_ok]
theorem k_Law (hz : 1000 ≤ z) (h : AT t 1078 N) : F_Mod_keepsLaw z N = some (kR t 865 1078 N) := by
  have h1 := kS_AT (c := 319) (i := 0) h (by omega)
  have e1 : kR t 1 1078 N = kS t 319 0 1078 N := rfl
  obtain ⟨a1, a2⟩ := k_keepsLaw_1 (z := z) 16 0 z _ (by omega) (by omega) h1
  obtain ⟨b1, b2⟩ := k_keepsLaw_2 (z := z) 400 0 z _ (by omega) (by omega) a2
  rw [← e1] at a1 b1
  unfold F_Mod_keepsLaw
  rw [keep_at (p := 1078) (by omega) h (by omega) (by omega), ← e1, a1, ob1_ok, b1, ob1_ok, show (865 : Nat) = 1 + 864 by omega, kR_add, show (864 : Nat) = 4 * 16 + 2 * 400 by omega, kR_add]
/-- what the model's memory is when the image begins -/
def im0 (t : Bool) (N : mM) : mM := up (up (up N 312 52 (bI t)) 312 53 (bI true)) 312 54 (nI 0)
theorem mm_image (hz : 1000 ≤ z) (h : t = true ∨ N 312 53 = bI true) : F_Mod_image z t N = some (true, if t = true then kR true 1943 0 (im0 true N) else up (kR false 1943 0 (im0 false N)) 312 3 (nI 0)) := by
  have hA : AT t 0 (im0 t N) := by
    unfold im0
    refine ⟨up_same _ _ _ _, ?_⟩
    rw [up_neJ _ _ _ (by omega), up_neJ _ _ _ (by omega), up_same]
  obtain ⟨a1, a2⟩ := k_image_1 (z := z) 270 0 z _ (by omega) (by omega) hA
  obtain ⟨b1, b2⟩ := k_Told (z := z) hz a2
  obtain ⟨c1, c2⟩ := k_image_2 (z := z) 600 0 z _ (by omega) (by omega) b2
  have d1 := k_Law (z := z) hz c2
  have ea : kR t 1943 0 (im0 t N) = kR t 865 1078 (kR t (1 * 600) (478 + 1 * 0) (kR t 208 270 (kR t (1 * 270) (0 + 1 * 0) (im0 t N)))) := by
    rw [show (1943 : Nat) = 1 * 270 + 1673 by omega, kR_add, show (1673 : Nat) = 208 + 1465 by omega, kR_add, show (1465 : Nat) = 1 * 600 + 865 by omega, kR_add]
  have hc : ¬ (¬ t = true ∧ ¬ ¬ N 312 53 = nI 0) := fun h' => h.elim (fun e => h'.1 e) (fun e => h'.2 (fun e2 => by rw [e] at e2; exact absurd e2 (by decide)))
  unfold F_Mod_image
  rw [if_neg hc, ob1_ok, ob1_ok, ob1_ok]
  show ob1 (L_Mod_image_1 z z (nI 0) (im0 t N)) _ = _
  rw [a1, ob1_ok, b1, ob1_ok, c1, ob1_ok, d1, ob1_ok, ← ea]
  cases t with
  | true => rw [if_neg (fun h => h rfl), ob1_ok, if_pos rfl]
  | false => rw [if_pos (show ¬ false = true from Bool.false_ne_true), ob1_ok, ob1_ok, if_neg Bool.false_ne_true]
end S88
