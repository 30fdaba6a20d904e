/-! ===== a unit of a sum, both ways ===== -/
/-- the codes so far: the class's from b0 to cc, the model's from b1 to cm; both leave fs on the stack -/
def XSt (d b0 b1 cc cm : Nat) (fs : Fs) (M N : mM) : Prop := M 100 6 = nI cc ∧ N 312 22 = nI cm ∧ RunC (M 104) b0 cc d fs ∧ RunM (dr N 324) (dr N 325) b1 cm fs
def FrX (b : Nat) (M M' : mM) : Prop := (∀ c', c' ≠ 100 → c' ≠ 104 → M' c' = M c') ∧ (∀ j, j ≠ 2 → j ≠ 3 → j ≠ 6 → j ≠ 11 → M' 100 j = M 100 j) ∧ ∀ j, j < b → M' 104 j = M 104 j
def FrY (b : Nat) (N N' : mM) : Prop := (∀ c', c' ≠ 312 → c' ≠ 324 → c' ≠ 325 → N' c' = N c') ∧ (∀ j, ¬ (9 ≤ j ∧ j ≤ 12) → j ≠ 22 → j ≠ 26 → j ≠ 27 → N' 312 j = N 312 j) ∧ ∀ j, j < 800 + b → N' 324 j = N 324 j ∧ N' 325 j = N 325 j
def ec (M : mM) (cc : Nat) (x : Int32) : mM := up (up M 104 cc x) 100 6 (nI (cc + 1))
def en (N : mM) (cm : Nat) (o a : Int32) : mM := up (up (up N 324 (800 + cm) o) 325 (800 + cm) a) 312 22 (nI (cm + 1))
section SC3
variable {z n t i : Nat} {M N M' N' : mM} {tp : Nat → Nat} {d b0 b1 cc cm : Nat} {fs fs' : Fs} {x o a : Int32}
theorem FrX_tr {b b' : Nat} {M1 : mM} (h : FrX b M M1) (h' : FrX b' M1 M') (hb : b ≤ b') : FrX b M M' := ⟨fun c' p q => (h'.1 c' p q).trans (h.1 c' p q), fun j p q r s => (h'.2.1 j p q r s).trans (h.2.1 j p q r s), fun j p => (h'.2.2 j (by omega)).trans (h.2.2 j p)⟩
theorem FrY_tr {b b' : Nat} {N1 : mM} (h : FrY b N N1) (h' : FrY b' N1 N') (hb : b ≤ b') : FrY b N N' := ⟨fun c' p q r => (h'.1 c' p q r).trans (h.1 c' p q r), fun j p q r s => (h'.2.1 j p q r s).trans (h.2.1 j p q r s), fun j p => ⟨((h'.2.2 j (by omega)).1).trans (h.2.2 j p).1, ((h'.2.2 j (by omega)).2).trans (h.2.2 j p).2⟩⟩
theorem FrX_rf {b : Nat} : FrX b M M := ⟨fun _ _ _ => rfl, fun _ _ _ _ _ => rfl, fun _ _ => rfl⟩
theorem FrY_rf {b : Nat} : FrY b N N := ⟨fun _ _ _ _ => rfl, fun _ _ _ _ _ => rfl, fun _ _ => ⟨rfl, rfl⟩⟩
theorem FrX_K {b : Nat} (h : FrK M M') (h8 : M' 108 = M 108) : FrX b M M' := ⟨fun c' p _ => by
  by_cases e : c' = 108
  · subst e; exact h8
  · exact h.1 c' p e, fun j p q _ s => h.2 j p q s, fun j _ => by rw [h.1 104 (by omega) (by omega)]⟩
theorem FrY_E {b : Nat} (h : FrE N N') : FrY b N N' := ⟨fun c' p _ _ => h.1 c' p, fun j p _ r s => h.2 j p r s, fun j _ => by rw [h.1 324 (by omega), h.1 325 (by omega)]; exact ⟨rfl, rfl⟩⟩
/-- a fault, with all frames -/
theorem x_fail (h : PZ tp n t i M N) (k : Int32) (b b' : Nat) : ∃ M' N', F_Reader_fail k M = some (false, M') ∧ F_Mod_errs k N = some (-1, N') ∧ FQ M' N' ∧ FrX b M M' ∧ FrY b' N N' := by
  obtain ⟨M', N', g1, g2, g3, g4, g5⟩ := pz_fail h k
  refine ⟨M', N', g1, g2, g3, FrX_K g4 ?_, FrY_E g5⟩
  have hp : ra M 107 401 (M 100 11) = some (M 107 (i)) := by
    obtain ⟨⟨s1, s2, s3, s4, s5⟩, h2, h3, -⟩ := h
    rw [h3, ra_ok (by omega) (by omega)]
  unfold F_Reader_fail at g1
  rw [ob1_ok, up_neJ _ _ _ (show 11 ≠ 2 by omega)] at g1
  have hp' : ra (up M 100 2 k) 107 401 (M 100 11) = some (M 107 i) := by
    obtain ⟨⟨s1, s2, s3, s4, s5⟩, h2, h3, -⟩ := h
    rw [h3, ra_ok (by omega) (by omega), up_neC _ _ _ _ (by omega)]
  rw [hp', ob1_ok, ob1_ok] at g1
  cases g1
  rw [upC (by omega), upC (by omega)]
theorem em_c (h : M 100 6 = nI cc) (hc : cc < 400) : F_Reader_emit x M = some (true, ec M cc x) := by
  unfold F_Reader_emit
  rw [h, if_pos (lT hc (by omega)), wa_ok hc (by omega), ob1_ok, up_neC _ _ _ _ (by omega), h, nadd cc 1, ob1_ok, ob1_ok]
  rfl
theorem em_m (h : N 312 22 = nI cm) (hc : cm < 400) : F_Mod_emits o a N = some (en N cm o a) := by
  unfold F_Mod_emits
  rw [h, nadd 800 cm, wa_ok (show 800 + cm < 1200 by omega) (by omega), ob1_ok, up_neC _ _ _ _ (by omega), h, nadd 800 cm, wa_ok (show 800 + cm < 1200 by omega) (by omega), ob1_ok, up_neC _ _ _ _ (by omega), up_neC _ _ _ _ (by omega), h, nadd cm 1, ob1_ok]
  rfl
theorem PZ_e (h : PZ tp n t i M N) : PZ tp n t i (ec M cc x) (en N cm o a) := PZ_cg h (fun c' hc => by unfold ec; rw [upC (by omega), upC (by omega)]) (fun j hj => by unfold ec; rw [up_neJ _ _ _ (by omega), up_neC _ _ _ _ (by omega)]) (fun c' hc => by unfold en; rw [upC (by omega), upC (by omega), upC (by omega)]) (fun j p q => by unfold en; rw [up_neJ _ _ _ (by omega), up_neC _ _ _ _ (by omega), up_neC _ _ _ _ (by omega)])
theorem PZ_en (h : PZ tp n t i M N) : PZ tp n t i M (en N cm o a) := PZ_cg h (fun _ _ => rfl) (fun _ _ => rfl) (fun c' hc => by unfold en; rw [upC (by omega), upC (by omega), upC (by omega)]) (fun j p q => by unfold en; rw [up_neJ _ _ _ (by omega), up_neC _ _ _ _ (by omega), up_neC _ _ _ _ (by omega)])
theorem FrX_e {b : Nat} (hb : b ≤ cc) : FrX b M (ec M cc x) := ⟨fun c' p q => by unfold ec; rw [upC p, upC q], fun j _ _ r _ => by unfold ec; rw [up_neJ _ _ _ r, up_neC _ _ _ _ (by omega)], fun j hj => by unfold ec; rw [up_neC _ _ _ _ (by omega), up_neJ _ _ _ (by omega)]⟩
theorem FrY_e {b : Nat} (hb : b ≤ cm) : FrY b N (en N cm o a) := ⟨fun c' p q r => by unfold en; rw [upC p, upC r, upC q], fun j _ q _ _ => by unfold en; rw [up_neJ _ _ _ q, up_neC _ _ _ _ (by omega), up_neC _ _ _ _ (by omega)], fun j hj => by
  unfold en
  constructor
  · rw [up_neC _ _ _ _ (by omega), up_neC _ _ _ _ (by omega), up_neJ _ _ _ (by omega)]
  · rw [up_neC _ _ _ _ (by omega), up_neJ _ _ _ (by omega), up_neC _ _ _ _ (by omega)]⟩
theorem XSt_cg (h : XSt d b0 b1 cc cm fs M N) (e1 : M' 100 6 = M 100 6) (e2 : M' 104 = M 104) (e3 : N' 312 22 = N 312 22) (e4 : N' 324 = N 324) (e5 : N' 325 = N 325) : XSt d b0 b1 cc cm fs M' N' := by
  unfold XSt dr at h ⊢
  rw [e1, e2, e3, e4, e5]
  exact h
theorem XStc (h : XSt d b0 b1 cc cm fs M N) (hs : ∀ env st, st.length + d ≤ 64 → cst env x (vls env fs ++ st) = some (vls env fs' ++ st)) : RunC (ec M cc x 104) b0 (cc + 1) d fs' := by
  have e : ec M cc x 104 cc = x := by unfold ec; rw [up_neC _ _ _ _ (by omega), up_same]
  refine RunC_one (RunC_cg h.2.2.1 (fun j _ p => ?_)) (fun env st hst => by rw [e]; exact hs env st hst)
  unfold ec
  rw [up_neC _ _ _ _ (by omega), up_neJ _ _ _ (by omega)]
theorem en_at : en N cm o a 324 (800 + cm) = o ∧ en N cm o a 325 (800 + cm) = a := by
  unfold en
  constructor
  · rw [up_neC _ _ _ _ (by omega), up_neC _ _ _ _ (by omega), up_same]
  · rw [up_neC _ _ _ _ (by omega), up_same]
theorem RMe {b : Nat} (h : RunM (dr N 324) (dr N 325) b cm fs) (hs : ∀ env st, mst env o a (vls env fs ++ st) = some (vls env fs' ++ st)) : RunM (dr (en N cm o a) 324) (dr (en N cm o a) 325) b (cm + 1) fs' := by
  refine RunM_one (RunM_cg h (fun j _ p => ?_)) (fun env st => ?_)
  · have := (FrY_e (N := N) (o := o) (a := a) (Nat.le_refl cm)).2.2 (800 + j) (by omega)
    exact this
  · show mst env (en N cm o a 324 (800 + cm)) (en N cm o a 325 (800 + cm)) _ = _
    rw [en_at.1, en_at.2]
    exact hs env st
theorem XSt_e (h : XSt d b0 b1 cc cm fs M N) (hs : ∀ env st, st.length + d ≤ 64 → cst env x (vls env fs ++ st) = some (vls env fs' ++ st)) (hm : ∀ env st, mst env o a (vls env fs ++ st) = some (vls env fs' ++ st)) : XSt d b0 b1 (cc + 1) (cm + 1) fs' (ec M cc x) (en N cm o a) :=
  ⟨by unfold ec; rw [up_same], by unfold en; rw [up_same], XStc h hs, RMe h.2.2.2 hm⟩
theorem PZ_lt (h : PZ tp n t i M N) (h0 : (tkA tp n i).1 ≠ 0) : i < t := by
  obtain ⟨⟨s1, s2, s3, s4, s5⟩, h2, -⟩ := h
  by_cases e : i < t
  · exact e
  · exact absurd (by
      have : i = t := by omega
      show (tokN tp n (psN tp n i)).1 = 0
      rw [this, s1, tok_n]) h0
theorem PZ_t (h : PZ tp n t i M N) : t ≤ 400 ∧ i ≤ t := ⟨h.1.2.1, h.2.1⟩
/-- a token further, with all frames -/
theorem x_step (hz : 1000 ≤ z) (h : PZ tp n t i M N) (h0 : (tkA tp n i).1 ≠ 0) (b b' : Nat) : ∃ M' N', F_Reader_step M = some (true, M') ∧ F_Mod_reads z N = some N' ∧ PZ tp n t (i + 1) M' N' ∧ FrX b M M' ∧ FrY b' N N' ∧ M' 104 = M 104 ∧ M' 100 6 = M 100 6 ∧ N' 312 22 = N 312 22 ∧ N' 324 = N 324 ∧ N' 325 = N 325 := by
  obtain ⟨M', N', g1, g2, g3, g4, g5, g6⟩ := pz_step (z := z) hz h
  rw [Nat.min_eq_left (show i + 1 ≤ t from PZ_lt h h0)] at g3
  have fe := FrE_of g6
  exact ⟨M', N', g1, g2, g3, FrX_K ⟨fun c' p _ => g4 c' p, fun j _ _ s => g5 j s⟩ (g4 108 (by omega)), FrY_E fe, g4 104 (by omega), g5 6 (by omega), fe.2 22 (by omega) (by omega) (by omega), fe.1 324 (by omega), fe.1 325 (by omega)⟩
theorem XSt_st (h : XSt d b0 b1 cc cm fs M N) (e : M' 104 = M 104 ∧ M' 100 6 = M 100 6 ∧ N' 312 22 = N 312 22 ∧ N' 324 = N 324 ∧ N' 325 = N 325) : XSt d b0 b1 cc cm fs M' N' := XSt_cg h e.2.1 e.1 e.2.2.1 e.2.2.2.1 e.2.2.2.2
theorem vr_at {env : En} : ∀ {v : Nat}, 7 ≤ v → v ≤ 17 → vr env (nI v) = env (v - 7) := by
  intro v h1 h2
  have : v = 7 ∨ v = 8 ∨ v = 9 ∨ v = 10 ∨ v = 11 ∨ v = 12 ∨ v = 13 ∨ v = 14 ∨ v = 15 ∨ v = 16 ∨ v = 17 := by omega
  unfold vr
  rcases this with rfl | rfl | rfl | rfl | rfl | rfl | rfl | rfl | rfl | rfl | rfl
  · rfl
  all_goals (repeat (first | rw [if_pos rfl] | rw [if_neg (by decide)]))
theorem pmW_ask : ∀ v, v < 29 → ((7 ≤ pmW v ∧ pmW v ≤ 17) ↔ (7 ≤ v ∧ v ≤ 17)) ∧ (7 ≤ v → v ≤ 17 → pmW v = v) := by decide +kernel
/-- what the model may ask for -/
theorem ask_m (h : PZ tp n t i M N) : (N 312 11 = nI 2 ∧ F_Mod_canAsk (N 312 12) = true) ↔ ((tkA tp n i).1 = 3 ∧ 7 ≤ (tkA tp n i).2.1 ∧ (tkA tp n i).2.1 ≤ 17) := by
  have hr := (PZ_r h).2.2.2.1
  rw [(pz_mkind h).2.1]
  unfold F_Mod_canAsk
  by_cases h3 : (tkA tp n i).1 = 3
  · have hv := hr h3
    have hm := pz_mval h (by omega)
    rw [if_pos h3] at hm
    obtain ⟨p1, p2⟩ := pmW_ask _ hv
    have hb := pmW_lt _ hv
    rw [hm, isIn_eq]
    unfold F_Rec_within
    rw [decide_eq_true_iff]
    constructor
    · rintro ⟨-, a, b⟩
      rw [nI_lt' (by omega) (by omega)] at a b
      have := p1.mp (by omega)
      exact ⟨h3, this.1, this.2⟩
    · rintro ⟨-, a, b⟩
      have := p1.mpr ⟨a, b⟩
      exact ⟨h3, lF (by omega) (by omega), lF (by omega) (by omega)⟩
  · exact ⟨fun e => absurd e.1 h3, fun e => absurd e.1 h3⟩
theorem b_unit (hz : 1000 ≤ z) (h : PZ tp n t i M N) (hx : XSt d b0 b1 cc cm fs M N) (hd : fs.length + 1 ≤ d) (hd2 : d ≤ 64) (hcc : cc ≤ i) (hcm : cm ≤ i) : ∃ M' N', FrX cc M M' ∧ FrY cm N N' ∧
    ((F_Reader_unit M = some (false, M') ∧ F_Mod_readUnit z N = some (-1, N') ∧ FQ M' N') ∨
     (∃ f, i < t ∧ F_Reader_unit M = some (true, M') ∧ F_Mod_readUnit z N = some (nI 0, N') ∧ PZ tp n t (i + 1) M' N' ∧ XSt d b0 b1 (cc + 1) (cm + 1) (f :: fs) M' N')) := by
  have hr := PZ_r h
  have ht := PZ_t h
  have hln : ∀ (env : En) (st : List Int32), st.length + d ≤ 64 → (vls env fs ++ st).length < 64 := fun env st hst => by
    unfold vls
    rw [List.length_append, List.length_map]
    omega
  unfold F_Reader_unit F_Mod_readUnit
  rw [pz_kind h, ob1_ok, ob1_ok, ob1_ok]
  by_cases h2 : (tkA tp n i).1 = 2
  · have hit := PZ_lt h (by omega)
    have hv := hr.2.2.1 h2
    have hmv := pz_mval h (by omega)
    rw [if_neg (by omega)] at hmv
    have hna : ¬ (N 312 11 = nI 2 ∧ F_Mod_canAsk (N 312 12) = true) := fun e => by
      have := (ask_m h).mp e
      omega
    obtain ⟨M', N', g1, g2, g3, g4, g5, g6⟩ := x_step (z := z) hz (PZ_e (cc := cc) (cm := cm) (x := nI (tkA tp n i).2.1) (o := nI 0) (a := nI (tkA tp n i).2.1) h) (by omega) (cc) (cm)
    refine ⟨M', N', FrX_tr (FrX_e (Nat.le_refl _)) g4 (Nat.le_refl _), FrY_tr (FrY_e (Nat.le_refl _)) g5 (Nat.le_refl _), Or.inr ⟨fun _ => nI (tkA tp n i).2.1, hit, ?_, ?_, g3, XSt_st (XSt_e hx (fun env st hst => cst_num hv (hln env st hst)) (fun env st => mst_num)) g6⟩⟩
    · rw [h2, decide_eq_true rfl, if_neg (show ¬ ¬ true = true from fun e => e rfl), ob1_ok, if_neg Bool.false_ne_true, if_pos rfl, pz_val h (by omega), ob1_ok, ob1_ok, em_c hx.1 (by omega), ob2_ok, g1, ob2_ok]
    · rw [decide_eq_false hna, if_neg (fun e => e.2 ((pz_mkind h).1.mpr h2)), if_neg Bool.false_ne_true, if_neg Bool.false_ne_true, hmv, em_m hx.2.1 (by omega), ob1_ok, g2, ob1_ok]
  · have hk2 : decide (nI (tkA tp n i).1 = nI 2) = false := decide_eq_false (eF h2 (by omega) (by omega))
    rw [hk2, if_pos (show ¬ false = true from Bool.false_ne_true), pz_isWord h (by omega) (by omega), ob1_ok, ob1_ok, ob1_ok]
    by_cases hw : (tkA tp n i).1 = 3 ∧ 7 ≤ (tkA tp n i).2.1 ∧ (tkA tp n i).2.1 ≤ 17
    · have hit := PZ_lt h (by omega)
      have hmv := pz_mval h (by omega)
      rw [if_pos hw.1, (pmW_ask _ (hr.2.2.2.1 hw.1)).2 hw.2.1 hw.2.2] at hmv
      obtain ⟨M', N', g1, g2, g3, g4, g5, g6⟩ := x_step (z := z) hz (PZ_e (cc := cc) (cm := cm) (x := nI 10000 + nI (tkA tp n i).2.1) (o := nI 1) (a := nI ((tkA tp n i).2.1 - 7)) h) (by omega) (cc) (cm)
      refine ⟨M', N', FrX_tr (FrX_e (Nat.le_refl _)) g4 (Nat.le_refl _), FrY_tr (FrY_e (Nat.le_refl _)) g5 (Nat.le_refl _), Or.inr ⟨fun env => env ((tkA tp n i).2.1 - 7), hit, ?_, ?_, g3, XSt_st (XSt_e hx (fun env st hst => ?_) (fun env st => mst_var (by omega))) g6⟩⟩
      · rw [decide_eq_true hw, if_neg (show ¬ (!true) = true from Bool.false_ne_true), if_neg Bool.false_ne_true, pz_val h (by omega), ob1_ok, ob1_ok, em_c hx.1 (by omega), ob2_ok, g1, ob2_ok]
      · rw [decide_eq_true ((ask_m h).mpr hw), if_neg (fun e => e.1 rfl), if_pos rfl, if_pos rfl, hmv, nsub (by omega), em_m hx.2.1 (by omega), ob1_ok, g2, ob1_ok]
      · rw [cst_var (by omega) (hln env st hst), vr_at hw.2.1 hw.2.2]
        rfl
    · obtain ⟨M', N', g1, g2, g3, g4, g5⟩ := x_fail h (nI 1) cc cm
      refine ⟨M', N', g4, g5, Or.inl ⟨?_, ?_, g3⟩⟩
      · rw [decide_eq_false hw, if_pos (show (!false) = true from rfl), g1, ob2_ok]
      · rw [decide_eq_false (fun e => hw ((ask_m h).mp e)), if_pos ⟨Bool.false_ne_true, fun e => h2 ((pz_mkind h).1.mp e)⟩, g2, ob2_ok]
end SC3
