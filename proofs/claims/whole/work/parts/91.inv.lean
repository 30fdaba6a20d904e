/-! ===== the invariant of all calls ===== -/
def KT (t : Nat) (M : mM) (A : LA) (S F : Rw) (T : Tx) : Prop := CL (t + 1) M A ∧ RwS (t + 8) M S ∧ RwF (t + 6) M F ∧ CT t M T
def KM (N : mM) (A : LA) (S F : Rw) (T : Tx) : Prop := ML N A ∧ RMs N S ∧ RMf N F ∧ MT N T
def okK (S F : Rw) (T : Tx) : Prop := okS S ∧ okF F ∧ okT T
def Wo (c : Nat) (M N : mM) (W : Wd) (P : Ps) : Prop := IA c W P ∧ IC M W P ∧ IM N W P ∧ N 312 5 = bI false
def To (M N : mM) (A : LA) (S F : Rw) (T : Tx) : Prop := KT 28 M A S F T ∧ KM N A S F T ∧ okK S F T
def Im (c : Nat) (M N : mM) : Prop := (M 0 4 = bI false ∧ N 312 53 = bI false ∧ ∃ q, TP 50 M q) ∨
  (M 0 4 = bI true ∧ N 312 53 = bI true ∧ ∃ (W : Wd) (A : LA) (S F : Rw) (T : Tx) (V : mM) (q : Nat → Nat), wf c W ∧ CW false 50 M q W ∧ KT 77 M A S F T ∧ okK S F T ∧ IMM N V ∧ RM V W ∧ KM V A S F T)
def Dr (M : mM) : Prop := ∃ q, TP 109 M q
/-- the model's keywords, each with a blank around it -/
def wTab : List Nat := [32, 115, 116, 105, 99, 107, 115, 32, 102, 114, 101, 101, 115, 32, 115, 108, 105, 100, 101, 115, 32, 119, 104, 101, 110, 32, 111, 114, 32, 97, 110, 100, 32, 110, 111, 116, 32, 107, 105, 110, 100, 32, 115, 105, 122, 101, 32, 108, 105, 102, 101, 32, 105, 110, 99, 104, 32, 103, 108, 117, 101, 32, 97, 103, 101, 32, 108, 105, 109, 98, 115, 32, 119, 105, 110, 100, 32, 104, 101, 97, 116, 32, 110, 101, 97, 114, 32, 100, 97, 121, 32, 111, 110, 32, 102, 108, 121, 32, 100, 97, 116, 101, 32, 115, 108, 101, 101, 118, 101, 32, 119, 111, 114, 100, 32, 119, 97, 115, 112, 32, 118, 101, 105, 108, 32, 97, 116, 32, 98, 111, 105, 108, 32, 100, 114, 121, 32, 115, 116, 114, 105, 112, 32]
def WT (N : mM) : Prop := ∀ j, j < 143 → N 318 j = nI (wTab.getD j 0)
def Tp (M N : mM) : Prop := (∃ n, TR M N n) ∧ M 100 2 = N 312 28 ∧ M 100 3 = N 312 29 ∧ WT N
/-- what holds between two calls: class's memory M, model's N -/
def Iv (c : Nat) (M N : mM) : Prop := ∃ (W : Wd) (P : Ps) (A : LA) (S F : Rw) (T : Tx), Wo c M N W P ∧ To M N A S F T ∧ Im c M N ∧ Dr M ∧ Tp M N
section S91
variable {z c : Nat} {M N M' N' : mM} {W : Wd} {P : Ps} {A : LA} {S F : Rw} {T : Tx}
theorem KT_cg {t : Nat} (h : KT t M A S F T) (e : ∀ c', t + 1 ≤ c' → c' ≤ t + 21 → c' ≠ t + 5 → M' c' = M c') : KT t M' A S F T := by
  obtain ⟨h1, h2, h3, h4⟩ := h
  refine ⟨CL_congr h1 (fun c' a b => e c' (by omega) (by omega) (by omega)), ?_, ?_, CT_cg h4 (fun c' a b => e c' (by omega) (by omega) (by omega))⟩
  · unfold RwS
    rw [e (t + 8) (by omega) (by omega) (by omega), e (t + 8 + 1) (by omega) (by omega) (by omega)]
    exact h2
  · unfold RwF
    rw [e (t + 6) (by omega) (by omega) (by omega), e (t + 6 + 1) (by omega) (by omega) (by omega)]
    exact h3
theorem KM_cg (h : KM N A S F T) (e : ∀ c', ((319 ≤ c' ∧ c' ≤ 325) ∨ c' = 327 ∨ c' = 328 ∨ c' = 329 ∨ c' = 333 ∨ (335 ≤ c' ∧ c' ≤ 339)) → N' c' = N c') (e2 : ∀ j, (j = 30 ∨ j = 32 ∨ j = 34 ∨ j = 39 ∨ j = 42 ∨ j = 45) → N' 312 j = N 312 j) : KM N' A S F T := by
  obtain ⟨h1, h2, h3, h4⟩ := h
  refine ⟨ML_congr h1 (fun c' a b => e c' (by omega)), ?_, ?_, MT_cg h4 (fun j hj => e2 j (by omega)) (fun c' hc => e c' (by omega))⟩
  · unfold RMs
    rw [e2 32 (by omega), e 328 (by omega)]
    exact h2
  · unfold RMf
    rw [e2 30 (by omega), e 327 (by omega)]
    exact h3
theorem To_cg (h : To M N A S F T) (e0 : ∀ c', 29 ≤ c' → c' ≤ 49 → c' ≠ 33 → M' c' = M c') (e : ∀ c', ((319 ≤ c' ∧ c' ≤ 325) ∨ c' = 327 ∨ c' = 328 ∨ c' = 329 ∨ c' = 333 ∨ (335 ≤ c' ∧ c' ≤ 339)) → N' c' = N c') (e2 : ∀ j, (j = 30 ∨ j = 32 ∨ j = 34 ∨ j = 39 ∨ j = 42 ∨ j = 45) → N' 312 j = N 312 j) : To M' N' A S F T :=
  ⟨KT_cg h.1 (fun c' a b d => e0 c' (by omega) (by omega) (by omega)), KM_cg h.2.1 e e2, h.2.2⟩
theorem Im_mono {c' : Nat} (h : Im c M N) (hc : c ≤ c') : Im c' M N := by
  rcases h with h | ⟨h1, h2, W, A, S, F, T, V, q, h3, h4⟩
  · exact Or.inl h
  · exact Or.inr ⟨h1, h2, W, A, S, F, T, V, q, wf_mono h3 hc, h4⟩
theorem Im_cg (h : Im c M N) (e0 : M' 0 4 = M 0 4) (e1 : ∀ c', (inW 50 c' ∨ (78 ≤ c' ∧ c' ≤ 98 ∧ c' ≠ 82)) → M' c' = M c') (e2 : N' 312 53 = N 312 53) (e3 : N' 343 = N 343) : Im c M' N' := by
  rcases h with ⟨h1, h2, q, h3⟩ | ⟨h1, h2, W, A, S, F, T, V, q, h3, h4, h5, h6, h7, h8⟩
  · exact Or.inl ⟨e0.trans h1, e2.trans h2, q, TP_cg h3 (e1 _ (Or.inl (by unfold inW; omega)))⟩
  · refine Or.inr ⟨e0.trans h1, e2.trans h2, W, A, S, F, T, V, q, h3, CW_congr h4 (fun c' h => e1 c' (Or.inl h)), KT_cg h5 (fun c' a b d => e1 c' (Or.inr (by omega))), h6, ?_, h8⟩
    intro p hp
    rw [e3]
    exact h7 p hp
theorem Dr_cg (h : Dr M) (e : M' 113 = M 113) : Dr M' := by
  obtain ⟨q, hq⟩ := h
  exact ⟨q, TP_cg hq e⟩
theorem Tp_cg (h : Tp M N) (e1 : M' 100 = M 100) (e2 : M' 101 = M 101) (e3 : ∀ j, (j = 8 ∨ j = 28 ∨ j = 29) → N' 312 j = N 312 j) (e4 : N' 317 = N 317) (e5 : N' 318 = N 318) : Tp M' N' := by
  obtain ⟨⟨n, h1⟩, h2, h3, h4⟩ := h
  refine ⟨⟨n, TR_cg h1 (by rw [e1]) e2 (e3 8 (by omega)) e4⟩, ?_, ?_, fun j hj => by rw [e5]; exact h4 j hj⟩
  · rw [e1, e3 28 (by omega)]; exact h2
  · rw [e1, e3 29 (by omega)]; exact h3
theorem Wo_cg (h : Wo c M N W P) (e1 : ∀ c', (c' = 99 ∨ inW 1 c' ∨ (150 ≤ c' ∧ c' < 312)) → M' c' = M c') (e2 : ∀ j, (j = 6 ∨ j = 7) → M' 0 j = M 0 j) (e3 : ∀ c', (c' = 313 ∨ c' = 314 ∨ c' = 316) → N' c' = N c') (e4 : ∀ j, (j = 3 ∨ j = 5) → N' 312 j = N 312 j) : Wo c M' N' W P := by
  obtain ⟨h1, ⟨⟨p, h2⟩, r, h3⟩, ⟨h4, h5, h6, h7⟩, h8⟩ := h
  refine ⟨h1, ⟨⟨p, CW_congr h2 (fun c' hc => e1 c' (Or.inr (Or.inl hc)))⟩, r, PC_cg h3 (fun c' hc => e1 c' (by omega)) (e2 6 (by omega)) (e2 7 (by omega))⟩, ⟨RM_congr (e3 313 (by omega)) (e3 316 (by omega)) h4, h5, by rw [e4 3 (by omega)]; exact h6, fun k hk => ?_⟩, by rw [e4 5 (by omega)]; exact h8⟩
  rw [e3 314 (by omega), e3 316 (by omega)]
  exact h7 k hk
theorem Iv_cg (h : Iv c M N) (e1 : ∀ c', c' < 312 → M' c' = M c') (e2 : ∀ c', 312 ≤ c' → N' c' = N c') : Iv c M' N' := by
  obtain ⟨W, P, A, S, F, T, h1, h2, h3, h4, h5⟩ := h
  have e3 : ∀ j, N' 312 j = N 312 j := fun j => by rw [e2 312 (by omega)]
  exact ⟨W, P, A, S, F, T, Wo_cg h1 (fun c' hc => e1 c' (by unfold inW at hc; omega)) (fun j _ => by rw [e1 0 (by omega)]) (fun c' hc => e2 c' (by omega)) (fun j _ => e3 j), To_cg h2 (fun c' a b d => e1 c' (by omega)) (fun c' hc => e2 c' (by omega)) (fun j _ => e3 j),
    Im_cg h3 (by rw [e1 0 (by omega)]) (fun c' hc => e1 c' (by unfold inW at hc; omega)) (e3 53) (e2 343 (by omega)), Dr_cg h4 (e1 113 (by omega)), Tp_cg h5 (e1 100 (by omega)) (e1 101 (by omega)) (fun j _ => e3 j) (e2 317 (by omega)) (e2 318 (by omega))⟩
theorem Iv_mono {c' : Nat} (h : Iv c M N) (hc : c ≤ c') : Iv c' M N := by
  obtain ⟨W, P, A, S, F, T, h1, h2, h3, h4, h5⟩ := h
  exact ⟨W, P, A, S, F, T, ⟨IA_mono h1.1 hc, h1.2⟩, h2, Im_mono h3 hc, h4, h5⟩
/-- a call is right: from all that stands well -/
def CallOK {B : Type} (f : mM → Option (B × mM)) (g : mM → Option (B × mM)) : Prop := ∀ c M N, c + 1000 < 2147483648 → Iv c M N → ∃ v M' N', f M = some (v, M') ∧ g N = some (v, N') ∧ Iv (c + 1000) M' N' ∧ (∀ c', 312 ≤ c' → M' c' = M c') ∧ ∀ c', c' < 312 → N' c' = N c'
/-- .. then in one memory, one behind the other -/
theorem call_one {B : Type} {f g : mM → Option (B × mM)} (h : CallOK f g) (hc : c + 1000 < 2147483648) (hI : Iv c M M) : ∃ v M1 M2, f M = some (v, M1) ∧ g M1 = some (v, M2) ∧ Iv (c + 1000) M2 M2 := by
  obtain ⟨v, M1, N1, a1, -, -, a4, -⟩ := h c M M hc hI
  obtain ⟨v', M1', M2, b1, b2, b3, -, b5⟩ := h c M M1 hc (Iv_cg hI (fun _ _ => rfl) (fun c' hc' => a4 c' hc'))
  rw [a1] at b1
  cases b1
  exact ⟨v, M1, M2, a1, b2, Iv_cg b3 (fun c' hc' => b5 c' hc') (fun _ _ => rfl)⟩
/-- calls that only use rows of their own -/
theorem Iv_scr (h : Iv c M N) (e1 : ∀ c', c' < 312 → c' ≠ 33 → ¬ (114 ≤ c' ∧ c' ≤ 149) → ¬ (109 ≤ c' ∧ c' ≤ 112) → M' c' = M c') (hd : Dr M') (e2 : ∀ c', 312 ≤ c' → c' ∉ [330, 331, 332, 334, 340, 341, 342] → N' c' = N c') : Iv c M' N' := by
  obtain ⟨W, P, A, S, F, T, h1, h2, h3, h4, h5⟩ := h
  have n2 : ∀ c', 312 ≤ c' → (c' < 330 ∨ c' = 333 ∨ (335 ≤ c' ∧ c' ≤ 339) ∨ 343 ≤ c') → N' c' = N c' := fun c' a b => e2 c' a (by simp only [List.mem_cons, List.not_mem_nil, or_false]; omega)
  have e3 : ∀ j, N' 312 j = N 312 j := fun j => by rw [n2 312 (by omega) (by omega)]
  exact ⟨W, P, A, S, F, T, Wo_cg h1 (fun c' hc => e1 c' (by unfold inW at hc; omega) (by unfold inW at hc; omega) (by unfold inW at hc; omega) (by unfold inW at hc; omega)) (fun j _ => by rw [e1 0 (by omega) (by omega) (by omega) (by omega)]) (fun c' hc => n2 c' (by omega) (by omega)) (fun j _ => e3 j), To_cg h2 (fun c' a b d => e1 c' (by omega) (by omega) (by omega) (by omega)) (fun c' hc => n2 c' (by omega) (by omega)) (fun j _ => e3 j),
    Im_cg h3 (by rw [e1 0 (by omega) (by omega) (by omega) (by omega)]) (fun c' hc => e1 c' (by unfold inW at hc; omega) (by unfold inW at hc; omega) (by unfold inW at hc; omega) (by unfold inW at hc; omega)) (e3 53) (n2 343 (by omega) (by omega)), hd, Tp_cg h5 (e1 100 (by omega) (by omega) (by omega) (by omega)) (e1 101 (by omega) (by omega) (by omega) (by omega)) (fun j _ => e3 j) (n2 317 (by omega) (by omega)) (n2 318 (by omega) (by omega))⟩
end S91
