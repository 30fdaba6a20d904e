/-! ===== a comparison, both ways ===== -/
def cKj (open_ now_16 : Int32) (M300 : mM) : Option (Bool × mM) :=
  ob2 (if (jrem (now_16 - open_) (nI 2)) = (nI 0) then some (true, M300)
  else ob2 (F_Reader_emit (nI 11008) M300) fun v309 M310 =>
  some (v309, M310)) fun x306 M308 =>
  some (x306, M308)
def cBr (rc : Int32 → mM → Option (Bool × mM)) (now_16 : Int32) (kj301 : mM → Option (Bool × mM)) (M17 : mM) : Option (Bool × mM) :=
  ob2 (F_Reader_step M17) fun v520 M521 =>
  ob2 (ob2 (ob2 (ob2 (rc (now_16 + (nI 1)) M521) fun v577 M578 =>
  some (v577, M578)) fun x574 M576 => some (!x574, M576)) fun x555 M557 =>
  if x555 = true then some (true, M557)
  else ob2 (ob2 (F_Reader_takeSign (nI 41) M557) fun v571 M572 =>
  some (v571, M572)) fun x568 M570 => some (!x568, M570)) fun x523 M525 =>
  if x523 = true then
  some (false, M525)
  else
  kj301 M525
def cCmp2 (z : Nat) (kj301 : mM → Option (Bool × mM)) (v405 : Int32) (M314 : mM) : Option (Bool × mM) :=
  if v405 = (-1) then
  ob2 (F_Reader_fail (nI 1) M314) fun v432 M433 =>
  some (v432, M433)
  else
  ob2 (F_Reader_step M314) fun v407 M408 =>
  ob2 (ob2 (ob2 (F_Reader_expression z M408) fun v429 M430 =>
  some (v429, M430)) fun x426 M428 => some (!x426, M428)) fun x410 M412 =>
  if x410 = true then
  some (false, M412)
  else
  ob2 (F_Reader_emit v405 M412) fun v423 M424 =>
  kj301 M424
def cCmp (z : Nat) (kj301 : mM → Option (Bool × mM)) (M17 : mM) : Option (Bool × mM) :=
  ob2 (ob2 (ob2 (F_Reader_expression z M17) fun v517 M518 =>
  some (v517, M518)) fun x514 M516 => some (!x514, M516)) fun x312 M314 =>
  if x312 = true then
  some (false, M314)
  else
  ob1 (ob1 (ob1 (F_Reader_isSign (nI 60) M314) fun v512 =>
  some (v512)) fun x435 =>
  if x435 = true then
  some (nI 11003)
  else
  ob1 (ob1 (ob1 (F_Reader_isSign (nI 61) M314) fun v510 =>
  some (v510)) fun x479 =>
  if x479 = true then
  some (nI 11004)
  else
  ob1 (ob1 (ob1 (F_Reader_isSign (nI 62) M314) fun v508 =>
  some (v508)) fun x500 =>
  if x500 = true then
  some (nI 11005)
  else
  some ((-1))) fun v498 =>
  some (v498)) fun v477 =>
  some (v477)) fun v405 =>
  cCmp2 z kj301 v405 M314
section SC7
variable {z n t i : Nat} {M N M' N' : mM} {tp : Nat → Nat} {d b0 b1 cc cm yc ym cn s : Nat} {f g : En → Int32} {fs : Fs}
theorem single_eq {rc : Int32 → mM → Option (Bool × mM)} {open_ : Int32} : F_Reader_single z rc open_ M = ob2 (L_Reader_single_1 z rc z open_ M) fun now_16 M17 =>
  ob1 (F_Reader_isSign (nI 40) M17) fun v18 =>
  ob1 (if ¬ (now_16 < (nI 8)) then if v18 = true then some (true)
  else ob1 (F_Reader_isWord (nI 6) (nI 6) M17) fun v580 =>
  some (v580)
  else some (false)) fun x20 =>
  if x20 = true then
  ob2 (F_Reader_fail (nI 3) M17) fun v26 M27 =>
  some (v26, M27)
  else if v18 = true then cBr rc now_16 (cKj open_ now_16) M17 else cCmp z (cKj open_ now_16) M17 := rfl
theorem cmp_bit {k : Nat} (hk : k < 3) (x y : Int32) : F_Mod_twoOf (nI (6 + k)) x y = some (F_Law_joined (nI (11003 + k)) x y) ∧ (F_Law_joined (nI (11003 + k)) x y = nI 0 ∨ F_Law_joined (nI (11003 + k)) x y = nI 1) := by
  have hif : ∀ (p : Prop) [Decidable p], (if p then nI 1 else nI 0) = nI 0 ∨ (if p then nI 1 else nI 0) = nI 1 := fun p _ => by
    by_cases h : p
    · rw [if_pos h]; exact Or.inr rfl
    · rw [if_neg h]; exact Or.inl rfl
  have : k = 0 ∨ k = 1 ∨ k = 2 := by omega
  rcases this with rfl | rfl | rfl
  · have e1 : F_Mod_twoOf (nI (6 + 0)) x y = some (if x < y then nI 1 else nI 0) := by
      unfold F_Mod_twoOf
      exact (if_neg (by decide)).trans ((if_neg (by decide)).trans ((if_neg (by decide)).trans ((if_neg (by decide)).trans (if_pos (by decide)))))
    have e2 : F_Law_joined (nI (11003 + 0)) x y = (if x < y then nI 1 else nI 0) := by
      unfold F_Law_joined
      exact (if_neg (by decide)).trans ((if_neg (by decide)).trans ((if_neg (by decide)).trans (if_pos (by decide))))
    rw [e1, e2]
    exact ⟨rfl, hif _⟩
  · have e1 : F_Mod_twoOf (nI (6 + 1)) x y = some (if x = y then nI 1 else nI 0) := by
      unfold F_Mod_twoOf
      exact (if_neg (by decide)).trans ((if_neg (by decide)).trans ((if_neg (by decide)).trans ((if_neg (by decide)).trans ((if_neg (by decide)).trans (if_pos (by decide))))))
    have e2 : F_Law_joined (nI (11003 + 1)) x y = (if x = y then nI 1 else nI 0) := by
      unfold F_Law_joined
      exact (if_neg (by decide)).trans ((if_neg (by decide)).trans ((if_neg (by decide)).trans ((if_neg (by decide)).trans (if_pos (by decide)))))
    rw [e1, e2]
    exact ⟨rfl, hif _⟩
  · have e1 : F_Mod_twoOf (nI (6 + 2)) x y = some (if y < x then nI 1 else nI 0) := by
      unfold F_Mod_twoOf
      exact (if_neg (by decide)).trans ((if_neg (by decide)).trans ((if_neg (by decide)).trans ((if_neg (by decide)).trans ((if_neg (by decide)).trans ((if_neg (by decide)).trans (if_pos (by decide)))))))
    have e2 : F_Law_joined (nI (11003 + 2)) x y = (if y < x then nI 1 else nI 0) := by
      unfold F_Law_joined
      exact (if_neg (by decide)).trans ((if_neg (by decide)).trans ((if_neg (by decide)).trans ((if_neg (by decide)).trans ((if_neg (by decide)).trans (if_pos (by decide))))))
    rw [e1, e2]
    exact ⟨rfl, hif _⟩
/-- behind the sign -/
theorem b_comp2 (hz : 1000 ≤ z) (h : PZ tp n t i M N) (hx : XSt d b0 b1 cc cm (f :: fs) M N) (hd : fs.length + 4 ≤ d) (hd2 : d ≤ 64) (hcc : cc + s ≤ i) (hcm : cm + s ≤ i) {k : Nat} (hk : k < 3) (h0 : (tkA tp n i).1 ≠ 0) : ∃ M' N', FrX cc M M' ∧ FrY cm N N' ∧
    (((∀ kj, cCmp2 z kj (nI (11003 + k)) M = some (false, M')) ∧ (ob1 (F_Mod_reads z N) fun M17 => ob2 (ob2 (F_Mod_readSum z M17) fun v31 M32 => some (decide (v31 = (-1)), M32)) fun x19 M21 => if x19 = true then some ((-1), M21) else ob1 (F_Mod_emits (nI (6 + k)) (nI 0) M21) fun M29 => some (nI 0, M29)) = some (-1, N') ∧ FQ M' N') ∨
     (∃ g i' cc' cm', (∀ kj, cCmp2 z kj (nI (11003 + k)) M = kj M') ∧ (ob1 (F_Mod_reads z N) fun M17 => ob2 (ob2 (F_Mod_readSum z M17) fun v31 M32 => some (decide (v31 = (-1)), M32)) fun x19 M21 => if x19 = true then some ((-1), M21) else ob1 (F_Mod_emits (nI (6 + k)) (nI 0) M21) fun M29 => some (nI 0, M29)) = some (nI 0, N') ∧ PZ tp n t i' M' N' ∧ XSt d b0 b1 cc' cm' (g :: fs) M' N' ∧ Bit g ∧ cc ≤ cc' ∧ cm ≤ cm' ∧ cc' + s ≤ i' ∧ cm' + s ≤ i' ∧ i < i')) := by
  have hit := PZ_lt h h0
  have ht := PZ_t h
  obtain ⟨M1, N1, s1, s2, s3, s4, s5, s6⟩ := x_step (z := z) hz h h0 cc cm
  rw [s2, ob1_ok]
  have eC : ∀ kj, cCmp2 z kj (nI (11003 + k)) M = ob2 (ob2 (ob2 (F_Reader_expression z M1) fun v429 M430 => some (v429, M430)) fun x426 M428 => some (!x426, M428)) fun x410 M412 => if x410 = true then some (false, M412) else ob2 (F_Reader_emit (nI (11003 + k)) M412) fun v423 M424 => kj M424 := by
    intro kj
    unfold cCmp2
    rw [if_neg (nI_nm (by omega)), s1, ob2_ok]
  obtain ⟨M2, N2, u1, u2, u3⟩ := b_expr (z := z) (s := s + 1) hz s3 (XSt_st hx s6) (by simp only [List.length_cons]; omega) hd2 (by omega) (by omega)
  rcases u3 with ⟨v1, v2, v3⟩ | ⟨g, i', cc', cm', v1, v2, v3, v4, v5, v6, v7, v8, v9⟩
  · refine ⟨M2, N2, FrX_tr s4 u1 (Nat.le_refl _), FrY_tr s5 u2 (Nat.le_refl _), Or.inl ⟨fun kj => ?_, ?_, v3⟩⟩
    · rw [eC kj, v1, ob2_ok, ob2_ok, ob2_ok, if_pos (show (!false) = true from rfl)]
    · rw [v2, ob2_ok, ob2_ok, if_pos (decide_eq_true rfl)]
  · have hti := PZ_t v3
    refine ⟨ec M2 cc' (nI (11003 + k)), en N2 cm' (nI (6 + k)) (nI 0), FrX_tr s4 (FrX_tr u1 (FrX_e (b := cc) (by omega)) (Nat.le_refl _)) (Nat.le_refl _), FrY_tr s5 (FrY_tr u2 (FrY_e (b := cm) (by omega)) (Nat.le_refl _)) (Nat.le_refl _), Or.inr ⟨fun env => F_Law_joined (nI (11003 + k)) (f env) (g env), i', cc' + 1, cm' + 1, fun kj => ?_, ?_, PZ_e v3, XSt_e v4 (fun env st hst => cst_two (by omega) (by omega)) (fun env st => mst_two (by omega) (by omega) (by omega) (cmp_bit hk _ _).1), fun env => (cmp_bit hk _ _).2, by omega, by omega, by omega, by omega, by omega⟩⟩
    · rw [eC kj, v1, ob2_ok, ob2_ok, ob2_ok, if_neg (show ¬ (!true) = true from Bool.false_ne_true), em_c v4.1 (by omega), ob2_ok]
    · rw [v2, ob2_ok, ob2_ok, if_neg (fun e => nI_nm (show 0 < 2147483648 by omega) (of_decide_eq_true e)), em_m v4.2.1 (by omega), ob1_ok]
/-- a whole comparison -/
theorem b_comp (hz : 1000 ≤ z) (h : PZ tp n t i M N) (hx : XSt d b0 b1 cc cm fs M N) (hd : fs.length + 4 ≤ d) (hd2 : d ≤ 64) (hcc : cc + s ≤ i) (hcm : cm + s ≤ i) : ∃ M' N', FrX cc M M' ∧ FrY cm N N' ∧
    (((∀ kj, cCmp z kj M = some (false, M')) ∧ F_Mod_readCompared z N = some (-1, N') ∧ FQ M' N') ∨
     (∃ g i' cc' cm', (∀ kj, cCmp z kj M = kj M') ∧ F_Mod_readCompared z N = some (nI 0, N') ∧ PZ tp n t i' M' N' ∧ XSt d b0 b1 cc' cm' (g :: fs) M' N' ∧ Bit g ∧ cc ≤ cc' ∧ cm ≤ cm' ∧ cc' + s ≤ i' ∧ cm' + s ≤ i' ∧ i < i')) := by
  unfold F_Mod_readCompared
  obtain ⟨M1, N1, u1, u2, u3⟩ := b_expr (z := z) (s := s) hz h hx (by omega) hd2 hcc hcm
  rcases u3 with ⟨v1, v2, v3⟩ | ⟨f, j, cc', cm', v1, v2, v3, v4, v5, v6, v7, v8, v9⟩
  · refine ⟨M1, N1, u1, u2, Or.inl ⟨fun kj => ?_, ?_, v3⟩⟩
    · unfold cCmp
      rw [v1, ob2_ok, ob2_ok, ob2_ok, if_pos (show (!false) = true from rfl)]
    · rw [v2, ob2_ok, ob2_ok, if_pos (decide_eq_true rfl)]
  rw [v2, ob2_ok, ob2_ok, if_neg (fun e => nI_nm (show 0 < 2147483648 by omega) (of_decide_eq_true e))]
  obtain ⟨p1, p2⟩ := pz_isSign v3 (show 60 < 256 by omega)
  obtain ⟨p3, p4⟩ := pz_isSign v3 (show 61 < 256 by omega)
  obtain ⟨p5, p6⟩ := pz_isSign v3 (show 62 < 256 by omega)
  have eC : ∀ kj, cCmp z kj M = ob1 (ob1 (ob1 (some (decide ((tkA tp n j).1 = 4 ∧ (tkA tp n j).2.1 = 60))) fun v512 => some (v512)) fun x435 => if x435 = true then some (nI 11003) else ob1 (ob1 (ob1 (some (decide ((tkA tp n j).1 = 4 ∧ (tkA tp n j).2.1 = 61))) fun v510 => some (v510)) fun x479 => if x479 = true then some (nI 11004) else ob1 (ob1 (ob1 (some (decide ((tkA tp n j).1 = 4 ∧ (tkA tp n j).2.1 = 62))) fun v508 => some (v508)) fun x500 => if x500 = true then some (nI 11005) else some ((-1))) fun v498 => some (v498)) fun v477 => some (v477)) fun v405 => cCmp2 z kj v405 M1 := by
    intro kj
    unfold cCmp
    rw [v1, ob2_ok, ob2_ok, ob2_ok, if_neg (show ¬ (!true) = true from Bool.false_ne_true), p1, p3, p5]
  have go : ∀ k, k < 3 → (tkA tp n j).1 = 4 → (tkA tp n j).2.1 = 60 + k → (∀ kj, cCmp z kj M = cCmp2 z kj (nI (11003 + k)) M1) → (if N1 312 12 = nI 60 then nI 6 else (if N1 312 12 = nI 61 then nI 7 else nI 8)) = nI (6 + k) → ∃ M' N', FrX cc M M' ∧ FrY cm N N' ∧
      (((∀ kj, cCmp z kj M = some (false, M')) ∧ (if ((¬ ((F_Mod_isSign (nI 60) N1) = true) ∧ ¬ ((F_Mod_isSign (nI 61) N1) = true)) ∧ ¬ ((F_Mod_isSign (nI 62) N1) = true)) then ob2 (F_Mod_errs (nI 1) N1) fun v35 M36 => some (v35, M36) else ob1 (some ((if (N1 312 12) = (nI 60) then nI 6 else (if (N1 312 12) = (nI 61) then nI 7 else nI 8)))) fun v15 => ob1 (F_Mod_reads z N1) fun M17 => ob2 (ob2 (F_Mod_readSum z M17) fun v31 M32 => some (decide (v31 = (-1)), M32)) fun x19 M21 => if x19 = true then some ((-1), M21) else ob1 (F_Mod_emits v15 (nI 0) M21) fun M29 => some (nI 0, M29)) = some (-1, N') ∧ FQ M' N') ∨
       (∃ g i' cc' cm', (∀ kj, cCmp z kj M = kj M') ∧ (if ((¬ ((F_Mod_isSign (nI 60) N1) = true) ∧ ¬ ((F_Mod_isSign (nI 61) N1) = true)) ∧ ¬ ((F_Mod_isSign (nI 62) N1) = true)) then ob2 (F_Mod_errs (nI 1) N1) fun v35 M36 => some (v35, M36) else ob1 (some ((if (N1 312 12) = (nI 60) then nI 6 else (if (N1 312 12) = (nI 61) then nI 7 else nI 8)))) fun v15 => ob1 (F_Mod_reads z N1) fun M17 => ob2 (ob2 (F_Mod_readSum z M17) fun v31 M32 => some (decide (v31 = (-1)), M32)) fun x19 M21 => if x19 = true then some ((-1), M21) else ob1 (F_Mod_emits v15 (nI 0) M21) fun M29 => some (nI 0, M29)) = some (nI 0, N') ∧ PZ tp n t i' M' N' ∧ XSt d b0 b1 cc' cm' (g :: fs) M' N' ∧ Bit g ∧ cc ≤ cc' ∧ cm ≤ cm' ∧ cc' + s ≤ i' ∧ cm' + s ≤ i' ∧ i < i')) := by
    intro k hk k4 kv hC hM
    obtain ⟨M2, N2, q1, q2, q3⟩ := b_comp2 (z := z) (s := s) hz v3 v4 hd hd2 v7 v8 hk (by omega)
    refine ⟨M2, N2, FrX_tr u1 q1 v5, FrY_tr u2 q2 v6, ?_⟩
    rw [if_neg (show ¬ ((¬ ((F_Mod_isSign (nI 60) N1) = true) ∧ ¬ ((F_Mod_isSign (nI 61) N1) = true)) ∧ ¬ ((F_Mod_isSign (nI 62) N1) = true)) from fun e => by
      rw [p2, p4, p6] at e
      have : k = 0 ∨ k = 1 ∨ k = 2 := by omega
      rcases this with rfl | rfl | rfl
      · exact e.1.1 (decide_eq_true ⟨k4, kv⟩)
      · exact e.1.2 (decide_eq_true ⟨k4, kv⟩)
      · exact e.2 (decide_eq_true ⟨k4, kv⟩)), hM, ob1_ok]
    rcases q3 with ⟨r1, r2, r3⟩ | ⟨g, i', cc2, cm2, r1, r2, r3, r4, r5, r6, r7, r8, r9, r10⟩
    · exact Or.inl ⟨fun kj => (hC kj).trans (r1 kj), r2, r3⟩
    · exact Or.inr ⟨g, i', cc2, cm2, fun kj => (hC kj).trans (r1 kj), r2, r3, r4, r5, by omega, by omega, r8, r9, by omega⟩
  by_cases e0 : (tkA tp n j).1 = 4 ∧ (tkA tp n j).2.1 = 60
  · have hv := pz_mval v3 (by omega)
    rw [if_neg (by omega), e0.2] at hv
    refine go 0 (by omega) e0.1 e0.2 (fun kj => ?_) ?_
    · rw [eC kj, decide_eq_true e0]
      rfl
    · rw [hv, if_pos rfl]
  by_cases e1 : (tkA tp n j).1 = 4 ∧ (tkA tp n j).2.1 = 61
  · have hv := pz_mval v3 (by omega)
    rw [if_neg (by omega), e1.2] at hv
    refine go 1 (by omega) e1.1 e1.2 (fun kj => ?_) ?_
    · rw [eC kj, decide_eq_false e0, decide_eq_true e1]
      rfl
    · rw [hv, if_neg (by decide), if_pos rfl]
  by_cases e2 : (tkA tp n j).1 = 4 ∧ (tkA tp n j).2.1 = 62
  · have hv := pz_mval v3 (by omega)
    rw [if_neg (by omega), e2.2] at hv
    refine go 2 (by omega) e2.1 e2.2 (fun kj => ?_) ?_
    · rw [eC kj, decide_eq_false e0, decide_eq_false e1, decide_eq_true e2]
      rfl
    · rw [hv, if_neg (by decide), if_neg (by decide)]
  · obtain ⟨M2, N2, g1, g2, g3, g4, g5⟩ := x_fail v3 (nI 1) cc cm
    refine ⟨M2, N2, FrX_tr u1 g4 (Nat.le_refl _), FrY_tr u2 g5 (Nat.le_refl _), Or.inl ⟨fun kj => ?_, ?_, g3⟩⟩
    · rw [eC kj, decide_eq_false e0, decide_eq_false e1, decide_eq_false e2]
      show cCmp2 z kj (-1) M1 = _
      unfold cCmp2
      rw [if_pos rfl, g1, ob2_ok]
    · rw [p2, p4, p6, if_pos ⟨⟨fun e => e0 (of_decide_eq_true e), fun e => e1 (of_decide_eq_true e)⟩, fun e => e2 (of_decide_eq_true e)⟩, g2, ob2_ok]
end SC7
