/-! ===== what is held, carried over by the image's places ===== -/
section S89
variable {z : Nat} {N V R : mM} {t : Bool} {W : Wd} {A : LA} {S F : Rw} {T : Tx} {c : Nat}
def AG (R V : mM) : Prop := ∀ p, p < 1943 → R (slC p) (slI p) = V (slC p) (slI p)
theorem ag_313 (h : AG R V) {k : Nat} (hk : k < 270) : R 313 k = V 313 k := by
  have c0 : slC (k) = 313 := by unfold slC; (repeat (first | rw [if_pos (by omega)] | rw [if_neg (by omega)])); (try omega)
  have i0 : slI (k) = k := by unfold slI; (repeat (first | rw [if_pos (by omega)] | rw [if_neg (by omega)])); (try omega)
  have := h (k) (by omega)
  rwa [c0, i0] at this
theorem ag_333 (h : AG R V) {k : Nat} (hk : k < 8) : R 333 k = V 333 k := by
  have c0 : slC (278 + 2 * k) = 333 := by unfold slC; (repeat (first | rw [if_pos (by omega)] | rw [if_neg (by omega)])); (try omega)
  have i0 : slI (278 + 2 * k) = k := by unfold slI; (repeat (first | rw [if_pos (by omega)] | rw [if_neg (by omega)])); (try omega)
  have := h (278 + 2 * k) (by omega)
  rwa [c0, i0] at this
theorem ag_337 (h : AG R V) {k : Nat} (hk : k < 8) : R 337 k = V 337 k := by
  have c0 : slC (278 + 2 * k + 1) = 337 := by unfold slC; (repeat (first | rw [if_pos (by omega)] | rw [if_neg (by omega)])); (try omega)
  have i0 : slI (278 + 2 * k + 1) = k := by unfold slI; (repeat (first | rw [if_pos (by omega)] | rw [if_neg (by omega)])); (try omega)
  have := h (278 + 2 * k + 1) (by omega)
  rwa [c0, i0] at this
theorem ag_335 (h : AG R V) {k : Nat} (hk : k < 6) : R 335 k = V 335 k := by
  have c0 : slC (294 + 2 * k) = 335 := by unfold slC; (repeat (first | rw [if_pos (by omega)] | rw [if_neg (by omega)])); (try omega)
  have i0 : slI (294 + 2 * k) = k := by unfold slI; (repeat (first | rw [if_pos (by omega)] | rw [if_neg (by omega)])); (try omega)
  have := h (294 + 2 * k) (by omega)
  rwa [c0, i0] at this
theorem ag_336 (h : AG R V) {k : Nat} (hk : k < 6) : R 336 k = V 336 k := by
  have c0 : slC (294 + 2 * k + 1) = 336 := by unfold slC; (repeat (first | rw [if_pos (by omega)] | rw [if_neg (by omega)])); (try omega)
  have i0 : slI (294 + 2 * k + 1) = k := by unfold slI; (repeat (first | rw [if_pos (by omega)] | rw [if_neg (by omega)])); (try omega)
  have := h (294 + 2 * k + 1) (by omega)
  rwa [c0, i0] at this
theorem ag_339 (h : AG R V) {k : Nat} (hk : k < 16) : R 339 k = V 339 k := by
  have c0 : slC (306 + k) = 339 := by unfold slC; (repeat (first | rw [if_pos (by omega)] | rw [if_neg (by omega)])); (try omega)
  have i0 : slI (306 + k) = k := by unfold slI; (repeat (first | rw [if_pos (by omega)] | rw [if_neg (by omega)])); (try omega)
  have := h (306 + k) (by omega)
  rwa [c0, i0] at this
theorem ag_329 (h : AG R V) {k : Nat} (hk : k < 12) : R 329 k = V 329 k := by
  have c0 : slC (322 + k) = 329 := by unfold slC; (repeat (first | rw [if_pos (by omega)] | rw [if_neg (by omega)])); (try omega)
  have i0 : slI (322 + k) = k := by unfold slI; (repeat (first | rw [if_pos (by omega)] | rw [if_neg (by omega)])); (try omega)
  have := h (322 + k) (by omega)
  rwa [c0, i0] at this
theorem ag_327 (h : AG R V) {k : Nat} (hk : k < 80) : R 327 k = V 327 k := by
  have c0 : slC (334 + k) = 327 := by unfold slC; (repeat (first | rw [if_pos (by omega)] | rw [if_neg (by omega)])); (try omega)
  have i0 : slI (334 + k) = k := by unfold slI; (repeat (first | rw [if_pos (by omega)] | rw [if_neg (by omega)])); (try omega)
  have := h (334 + k) (by omega)
  rwa [c0, i0] at this
theorem ag_328 (h : AG R V) {k : Nat} (hk : k < 64) : R 328 k = V 328 k := by
  have c0 : slC (414 + k) = 328 := by unfold slC; (repeat (first | rw [if_pos (by omega)] | rw [if_neg (by omega)])); (try omega)
  have i0 : slI (414 + k) = k := by unfold slI; (repeat (first | rw [if_pos (by omega)] | rw [if_neg (by omega)])); (try omega)
  have := h (414 + k) (by omega)
  rwa [c0, i0] at this
theorem ag_316 (h : AG R V) {k : Nat} (hk : k < 600) : R 316 k = V 316 k := by
  have c0 : slC (478 + k) = 316 := by unfold slC; (repeat (first | rw [if_pos (by omega)] | rw [if_neg (by omega)])); (try omega)
  have i0 : slI (478 + k) = k := by unfold slI; (repeat (first | rw [if_pos (by omega)] | rw [if_neg (by omega)])); (try omega)
  have := h (478 + k) (by omega)
  rwa [c0, i0] at this
theorem ag_320 (h : AG R V) {k : Nat} (hk : k < 16) : R 320 k = V 320 k := by
  have c0 : slC (1079 + 4 * k) = 320 := by unfold slC; (repeat (first | rw [if_pos (by omega)] | rw [if_neg (by omega)])); (try omega)
  have i0 : slI (1079 + 4 * k) = k := by unfold slI; (repeat (first | rw [if_pos (by omega)] | rw [if_neg (by omega)])); (try omega)
  have := h (1079 + 4 * k) (by omega)
  rwa [c0, i0] at this
theorem ag_321 (h : AG R V) {k : Nat} (hk : k < 16) : R 321 k = V 321 k := by
  have c0 : slC (1079 + 4 * k + 1) = 321 := by unfold slC; (repeat (first | rw [if_pos (by omega)] | rw [if_neg (by omega)])); (try omega)
  have i0 : slI (1079 + 4 * k + 1) = k := by unfold slI; (repeat (first | rw [if_pos (by omega)] | rw [if_neg (by omega)])); (try omega)
  have := h (1079 + 4 * k + 1) (by omega)
  rwa [c0, i0] at this
theorem ag_322 (h : AG R V) {k : Nat} (hk : k < 16) : R 322 k = V 322 k := by
  have c0 : slC (1079 + 4 * k + 2) = 322 := by unfold slC; (repeat (first | rw [if_pos (by omega)] | rw [if_neg (by omega)])); (try omega)
  have i0 : slI (1079 + 4 * k + 2) = k := by unfold slI; (repeat (first | rw [if_pos (by omega)] | rw [if_neg (by omega)])); (try omega)
  have := h (1079 + 4 * k + 2) (by omega)
  rwa [c0, i0] at this
theorem ag_323 (h : AG R V) {k : Nat} (hk : k < 16) : R 323 k = V 323 k := by
  have c0 : slC (1079 + 4 * k + 3) = 323 := by unfold slC; (repeat (first | rw [if_pos (by omega)] | rw [if_neg (by omega)])); (try omega)
  have i0 : slI (1079 + 4 * k + 3) = k := by unfold slI; (repeat (first | rw [if_pos (by omega)] | rw [if_neg (by omega)])); (try omega)
  have := h (1079 + 4 * k + 3) (by omega)
  rwa [c0, i0] at this
theorem ag_324 (h : AG R V) {k : Nat} (hk : k < 400) : R 324 k = V 324 k := by
  have c0 : slC (1143 + 2 * k) = 324 := by unfold slC; (repeat (first | rw [if_pos (by omega)] | rw [if_neg (by omega)])); (try omega)
  have i0 : slI (1143 + 2 * k) = k := by unfold slI; (repeat (first | rw [if_pos (by omega)] | rw [if_neg (by omega)])); (try omega)
  have := h (1143 + 2 * k) (by omega)
  rwa [c0, i0] at this
theorem ag_325 (h : AG R V) {k : Nat} (hk : k < 400) : R 325 k = V 325 k := by
  have c0 : slC (1143 + 2 * k + 1) = 325 := by unfold slC; (repeat (first | rw [if_pos (by omega)] | rw [if_neg (by omega)])); (try omega)
  have i0 : slI (1143 + 2 * k + 1) = k := by unfold slI; (repeat (first | rw [if_pos (by omega)] | rw [if_neg (by omega)])); (try omega)
  have := h (1143 + 2 * k + 1) (by omega)
  rwa [c0, i0] at this
theorem ag_338 (h : AG R V) {k : Nat} (hk : k < 2) : R 338 k = V 338 k := by
  have c0 : slC (276 + k) = 338 := by unfold slC; (repeat (first | rw [if_pos (by omega)] | rw [if_neg (by omega)])); (try omega)
  have i0 : slI (276 + k) = k := by unfold slI; (repeat (first | rw [if_pos (by omega)] | rw [if_neg (by omega)])); (try omega)
  have := h (276 + k) (by omega)
  rwa [c0, i0] at this
theorem ag_f30 (h : AG R V) : R 312 30 = V 312 30 := h 270 (by omega)
theorem ag_f32 (h : AG R V) : R 312 32 = V 312 32 := h 271 (by omega)
theorem ag_f34 (h : AG R V) : R 312 34 = V 312 34 := h 272 (by omega)
theorem ag_f39 (h : AG R V) : R 312 39 = V 312 39 := h 273 (by omega)
theorem ag_f42 (h : AG R V) : R 312 42 = V 312 42 := h 274 (by omega)
theorem ag_f45 (h : AG R V) : R 312 45 = V 312 45 := h 275 (by omega)
theorem ag_319 (h : AG R V) : R 319 0 = V 319 0 := h 1078 (by omega)
theorem mev_cg {env : En} {O K O' K' : Nat → Int32} : ∀ (m i : Nat) (st : List Int32), (∀ j, i ≤ j → j < i + m → O' j = O j ∧ K' j = K j) → mev env O' K' m i st = mev env O K m i st := by
  intro m
  induction m with
  | zero => intro i st _; rfl
  | succ m ih =>
    intro i st h
    obtain ⟨h1, h2⟩ := h i (Nat.le_refl _) (by omega)
    rw [mev, mev, h1, h2]
    congr 1
    funext st'
    exact ih (i + 1) st' (fun j a b => h j (by omega) (by omega))
theorem DenM_cg {O K O' K' : Nat → Int32} {b e : Nat} {f : En → Int32} (h : DenM O K b e f) (hc : ∀ j, j < e → O' j = O j ∧ K' j = K j) : DenM O' K' b e f :=
  ⟨h.1, fun env => by rw [mev_cg (e - b) b [] (fun j a d => hc j (by have := h.1; omega))]; exact h.2 env⟩
theorem cev_cg {env : En} {K K' : Nat → Int32} : ∀ (m i : Nat) (st : List Int32), (∀ j, i ≤ j → j < i + m → K' j = K j) → cev env K' m i st = cev env K m i st := by
  intro m
  induction m with
  | zero => intro i st _; rfl
  | succ m ih =>
    intro i st h
    rw [cev, cev, h i (Nat.le_refl _) (by omega)]
    congr 1
    funext st'
    exact ih (i + 1) st' (fun j a b => h j (by omega) (by omega))
theorem Den_cg {K K' : Nat → Int32} {b e : Nat} {f : En → Int32} (h : Den K b e f) (hc : ∀ j, j < e → K' j = K j) : Den K' b e f :=
  ⟨h.1, fun env => by rw [cev_cg (e - b) b [] (fun j a d => hc j (by have := h.1; omega))]; exact h.2 env⟩
theorem RM_ag (h : AG R V) (hV : RM V W) (h20 : wN W ≤ 20) (h150 : wb W ≤ 150) : RM R W :=
  RM_RR.mpr (RR_cg (RM_RR.mp hV) h20 (fun j hj => ag_313 h hj) (fun j k hj hk => ag_316 h (by omega)))
theorem ML_ag (h : AG R V) (hV : ML V A) : ML R A := by
  obtain ⟨h1, h2, h3⟩ := hV
  refine ⟨h1, by rw [ag_319 h]; exact h2, fun i hi => ?_⟩
  obtain ⟨b, e, e2, x1, x2, x3, x4, x5, x6, x7, x8⟩ := h3 i hi
  refine ⟨b, e, e2, by rw [ag_320 h (by omega)]; exact x1, by rw [ag_321 h (by omega)]; exact x2, by rw [ag_322 h (by omega)]; exact x3, by rw [ag_323 h (by omega)]; exact x4, x5, x6, DenM_cg x7 (fun j hj => ⟨ag_324 h (by omega), ag_325 h (by omega)⟩), ?_⟩
  cases hg : aG A i with
  | none => rw [hg] at x8; exact x8
  | some g =>
    rw [hg] at x8
    exact ⟨x8.1, DenM_cg x8.2 (fun j hj => ⟨ag_324 h (by omega), ag_325 h (by omega)⟩)⟩
theorem RMs_ag (h : AG R V) (hV : RMs V S) (h16 : S.1 ≤ 16) : RMs R S :=
  ⟨by rw [ag_f32 h]; exact hV.1, fun j k hj hk h3 => by rw [ag_328 h (by omega)]; exact hV.2 j k hj hk h3⟩
theorem RMf_ag (h : AG R V) (hV : RMf V F) (h16 : F.1 ≤ 16) : RMf R F :=
  ⟨by rw [ag_f30 h]; exact hV.1, fun j k hj hk => by rw [ag_327 h (by omega)]; exact hV.2 j k hj hk⟩
theorem MT_ag (h : AG R V) (hV : MT V T) (hT : okT T) : MT R T := by
  obtain ⟨m1, m2, m3, m4, m5, m6⟩ := hV
  have k2 := hT.2.1.1
  have k3 := hT.2.2.1.1
  have k4 := hT.2.2.2.1.1
  refine ⟨⟨by rw [ag_f34 h]; exact m1.1, fun s hs => by rw [ag_329 h hs]; exact m1.2 s hs⟩, ⟨by rw [ag_f39 h]; exact m2.1, fun j hj => by rw [ag_333 h (by omega)]; exact m2.2 j hj⟩,
    ⟨by rw [ag_f42 h]; exact m3.1, fun j hj => by rw [ag_335 h (by omega), ag_336 h (by omega)]; exact m3.2 j hj⟩, ⟨by rw [ag_f45 h]; exact m4.1, fun j hj => by rw [ag_337 h (by omega)]; exact m4.2 j hj⟩,
    ⟨by rw [ag_338 h (by omega)]; exact m5.1, fun s hs => by rw [ag_339 h (by omega)]; exact m5.2 s hs⟩, by rw [ag_338 h (by omega)]; exact m6.1, fun s hs => by rw [ag_339 h (by omega)]; exact m6.2 s hs⟩
end S89
