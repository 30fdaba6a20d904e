/-! ===== a line of strips, both ways ===== -/
section SB8
variable {z n t i : Nat} {M N M' N' A B : mM} {tp : Nat → Nat} {b : Bool}
theorem og_0 {X : Option (Bool × mM)} (hX : X = some (b, A)) : (ob2 (ob2 X fun v M1 => some (v, M1)) fun x M1 => some (!x, M1)) = some (!b, A) := by rw [hX, ob2_ok, ob2_ok]
theorem og_t {X : Option (Bool × mM)} (hX : X = some (true, A)) (F : mM → Option (Bool × mM)) : (ob2 X fun x M1 => if x = true then some (true, M1) else ob2 (ob2 (F M1) fun v M2 => some (v, M2)) fun x' M2 => some (!x', M2)) = some (true, A) := by rw [hX, ob2_ok, if_pos rfl]
theorem og_f {X : Option (Bool × mM)} (hX : X = some (false, A)) (F : mM → Option (Bool × mM)) (hF : F A = some (b, B)) : (ob2 X fun x M1 => if x = true then some (true, M1) else ob2 (ob2 (F M1) fun v M2 => some (v, M2)) fun x' M2 => some (!x', M2)) = some (!b, B) := by rw [hX, ob2_ok, if_neg Bool.false_ne_true, hF, ob2_ok, ob2_ok]
theorem pz_iff (h : PZ tp n t i M N) {k w : Nat} (hk : k < 29) (hw : pmW k = w) : ((tkA tp n i).1 = 3 ∧ k ≤ (tkA tp n i).2.1 ∧ (tkA tp n i).2.1 ≤ k) ↔ ((tkA tp n i).1 = 3 ∧ pmW (tkA tp n i).2.1 = w) := by
  have hr := PZ_r h
  constructor
  · rintro ⟨h1, h2, h3⟩
    have : (tkA tp n i).2.1 = k := by omega
    exact ⟨h1, by rw [this]; exact hw⟩
  · rintro ⟨h1, h2⟩
    have hv := hr.2.2.2.1 h1
    have : (tkA tp n i).2.1 = k := pmW_inj _ hv k hk (by rw [h2, hw])
    exact ⟨h1, by omega, by omega⟩
theorem same_c (h : PZ tp n t i M N) {a : Nat} (ha : a < 10000) (hl : M 108 0 = nI a) : (ob1 (ob1 (ra M 105 401 (M 100 11)) fun v219 => some (decide (v219 = (nI 2)))) fun x206 => if x206 = true then ob1 (ra M 106 401 (M 100 11)) fun v213 => ob1 (ra M 108 5 (nI 0)) fun v215 => some (decide (v213 = v215)) else some (false)) = some (decide ((tkA tp n i).1 = 2 ∧ (tkA tp n i).2.1 = a)) := by
  have hr := PZ_r h
  rw [pz_kind h, ob1_ok]
  by_cases h2 : (tkA tp n i).1 = 2
  · have hv := hr.2.2.1 h2
    rw [pz_val h (by omega), ob1_ok, ob1_ok, ra_ok (k := 0) (by omega) (by omega), ob1_ok, hl, h2, decide_eq_true rfl, if_pos rfl]
    congr 1
    exact decide_eq_decide.mpr ⟨fun e => ⟨rfl, (nI_inj (by omega) (by omega)).mp e⟩, fun e => by rw [e.2]⟩
  · rw [decide_eq_false (eF h2 (by omega) (by omega)), ob1_ok, if_neg Bool.false_ne_true, decide_eq_false (fun e => h2 e.1)]
theorem same_m (h : PZ tp n t i M N) {a : Nat} (ha : a < 10000) : (N 312 11 = nI 3 ∧ N 312 12 = nI a) ↔ ((tkA tp n i).1 = 2 ∧ (tkA tp n i).2.1 = a) := by
  have hr := PZ_r h
  rw [(pz_mkind h).1]
  constructor
  · rintro ⟨h1, h2⟩
    have hv := hr.2.2.1 h1
    rw [pz_mval h (by omega), if_neg (by omega)] at h2
    exact ⟨h1, (nI_inj (by omega) (by omega)).mp h2⟩
  · rintro ⟨h1, h2⟩
    rw [pz_mval h (by omega), if_neg (by omega), h2]
    exact ⟨h1, rfl⟩
theorem strip_line (hz : 1000 ≤ z) (h : PZ tp n t i M N) {cnt : Nat} (hc : cnt < 16) (hn : M 102 3 = nI cnt) : ∃ M' N', FrK M M' ∧ FrDr 329 12 N N' ∧
    ((F_Reader_readStrips M = some (false, M') ∧ F_Mod_readStrip z N = some (-1, N') ∧ FQ M' N') ∨
     (∃ a b i', a ≤ 11 ∧ b ≤ 11 ∧ F_Reader_readStrips M = some (true, M') ∧ F_Mod_readStrip z N = some (nI 0, N') ∧ PZ tp n t i' M' N' ∧ M' 108 0 = nI a ∧ M' 108 1 = nI b ∧ N' 329 = up N 329 (12 + a) (N 329 (12 + a) ||| jshl (nI 1) (nI b)) 329)) := by
  unfold F_Reader_readStrips F_Mod_readStrip
  rw [cw_first h (by omega) (by omega) (show cnt ≤ 16 by omega) hn, if_neg (show ¬ (((tkA tp n i).1 = 3 ∧ 28 ≤ (tkA tp n i).2.1 ∧ (tkA tp n i).2.1 ≤ 28) ∧ cnt = 16) from fun h' => by omega)]
  obtain ⟨M1, N1, q1, q2, q3⟩ := pz_told (z := z) hz h (k := 28) (w := 28) (lo := 0) (hi := 11) (col := 0) (col2 := 0) (by omega) (by decide) (by omega) (by omega) (by omega) (by omega)
  rcases q3 with ⟨d, M0, u1, u2, u3, u4, u5⟩ | ⟨a, M0, a1, a2, u1, u2, u3, u4, u5, u6⟩
  · refine ⟨M1, N1, q1, FrDr_E (by omega) q2, Or.inl ⟨?_, by rw [u4, ob2_ok, if_pos rfl], u5⟩⟩
    cases d with
    | false => rw [og_t (og_t (og_t (og_0 u1) _) _) _, u2 rfl, ob2_ok, if_pos rfl]
    | true => rw [og_t (og_t (og_f (og_0 u1) _ (u3 rfl)) _) _, ob2_ok, if_pos rfl]
  have H1 := og_f (og_0 u1) _ u2
  rw [u3, ob2_ok, if_neg (nI_nm (by omega)), pz_mWord u4 (by omega)]
  rcases pz_word (z := z) hz u4 (a := 18) (b := 18) (col := 1) (by omega) (by omega) (by omega) with ⟨hd, M2, N2, w1, w2, w3, w4, w5⟩ | ⟨hd, M2, N2, w1, w2, w3, w4, w5, w6, w7⟩
  · refine ⟨M2, N2, FrK_tr q1 w4, FrDr_E (by omega) (FrE_tr q2 w5), Or.inl ⟨by rw [og_t (og_f H1 _ w1) _, ob2_ok, if_pos rfl], ?_, w3⟩⟩
    rw [if_pos (show ¬ decide _ = true from fun e => hd ((pz_iff u4 (by omega) (by decide)).mpr (of_decide_eq_true e))), w2, ob2_ok]
  rw [if_neg (show ¬ ¬ decide _ = true from fun e => e (decide_eq_true ((pz_iff u4 (by omega) (by decide)).mp hd))), w2, ob1_ok, pz_mWord w3 (by omega)]
  have H2 := og_f H1 _ w1
  rcases pz_word (z := z) hz w3 (a := 28) (b := 28) (col := 1) (by omega) (by omega) (by omega) with ⟨he, M3, N3, x1, x2, x3, x4, x5⟩ | ⟨he, M3, N3, x1, x2, x3, x4, x5, x6, x7⟩
  · refine ⟨M3, N3, FrK_tr q1 (FrK_tr w6 x4), FrDr_E (by omega) (FrE_tr q2 (FrE_tr w7 x5)), Or.inl ⟨by rw [og_f H2 _ x1, ob2_ok]; rfl, ?_, x3⟩⟩
    rw [if_pos (show ¬ decide _ = true from fun e => he ((pz_iff w3 (by omega) (by decide)).mpr (of_decide_eq_true e))), x2, ob2_ok]
  rw [if_neg (show ¬ ¬ decide _ = true from fun e => e (decide_eq_true ((pz_iff w3 (by omega) (by decide)).mp he))), x2, ob1_ok]
  have H3 := og_f H2 _ x1
  have hl : M3 108 0 = nI a := by rw [x5 0 (by omega), w5 0 (by omega), u5]
  rw [H3, ob2_ok, if_neg (show ¬ (!true) = true from Bool.false_ne_true), same_c x3 (by omega) hl, ob1_ok]
  have fk := FrK_tr q1 (FrK_tr w6 x6)
  have fe := FrE_tr q2 (FrE_tr w7 x7)
  by_cases hs : (tkA tp n (min (min (min (min (i + 1) t + 1) t + 1) t + 1) t)).1 = 2 ∧ (tkA tp n (min (min (min (min (i + 1) t + 1) t + 1) t + 1) t)).2.1 = a
  · obtain ⟨M4, N4, y1, y2, y3, y4, y5⟩ := pz_fail x3 (nI 2)
    refine ⟨M4, N4, FrK_tr fk y4, FrDr_E (by omega) (FrE_tr fe y5), Or.inl ⟨?_, ?_, y3⟩⟩
    · rw [decide_eq_true hs, if_pos rfl, y1, ob2_ok]
    · rw [if_pos ((same_m x3 (by omega)).mpr hs), y2, ob2_ok]
  rw [decide_eq_false hs, if_neg Bool.false_ne_true, if_neg (fun e => hs ((same_m x3 (by omega)).mp e))]
  obtain ⟨M4, N4, y1, y2, y3⟩ := pz_num (z := z) hz x3 (lo := 0) (hi := 11) (col := 1) (by omega) (by omega) (by omega)
  rcases y3 with ⟨r1, r2, r3⟩ | ⟨b, b1, b2, r1, r2, r3, r4, r5⟩
  · refine ⟨M4, N4, FrK_tr fk y1, FrDr_E (by omega) (FrE_tr fe y2), Or.inl ⟨?_, by rw [r2, ob2_ok, if_pos rfl], r3⟩⟩
    exact th_id (th_f (th_id r1) _)
  rw [r2, ob2_ok, if_neg (nI_nm (by omega)), nadd 12 a, ra_ok (show 12 + a < 24 by omega) (by omega), ob1_ok, wa_ok (show 12 + a < 24 by omega) (by omega), ob1_ok]
  have hN4 : N4 329 = N 329 := (FrE_tr fe y2).1 329 (by omega)
  obtain ⟨M5, N5, s1, s2, s3⟩ := pz_mark (z := z) hz (PZ_dr (c0 := 329) (k := 12 + a) (x := N4 329 (12 + a) ||| jshl (nI 1) (nI b)) r3 (by omega)) (s := 59) (by omega)
  have fD : FrDr 329 12 N N5 := FrDr_tr (FrDr_tr (FrDr_E (by omega) (FrE_tr fe y2)) (FrDr_up (k := 12 + a) (x := N4 329 (12 + a) ||| jshl (nI 1) (nI b)) (by omega) (by omega))) (FrDr_E (by omega) s2)
  rcases s3 with ⟨t1, t2, t3⟩ | ⟨t1, t2, t3, t4⟩
  · exact ⟨M5, N5, FrK_tr fk (FrK_tr y1 s1), fD, Or.inl ⟨th_id (th_t (th_id r1) _ t1), by rw [t2, ob2_ok], t3⟩⟩
  · refine ⟨M5, N5, FrK_tr fk (FrK_tr y1 s1), fD, Or.inr ⟨a, b, _, a2, b2, th_id (th_t (th_id r1) _ t1), by rw [t2, ob2_ok], t3, by rw [t4, r5 0 (by omega), hl], by rw [t4, r4], ?_⟩⟩
    rw [s2.1 329 (by omega)]
    unfold up
    rw [hN4, upR_same, upR_same]
end SB8
