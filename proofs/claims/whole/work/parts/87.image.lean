/-! ===== the model's image: what is kept where ===== -/
/-- the place whose number stands at p in the image -/
def slC (p : Nat) : Nat := if p < 270 then 313 else if p < 276 then 312 else if p < 278 then 338 else if p < 294 then (if p % 2 = 0 then 333 else 337) else if p < 306 then (if p % 2 = 0 then 335 else 336) else if p < 322 then 339 else if p < 334 then 329 else if p < 414 then 327 else if p < 478 then 328 else if p < 1078 then 316 else if p < 1079 then 319 else if p < 1143 then 320 + (p - 1079) % 4 else if p % 2 = 1 then 324 else 325
def slI (p : Nat) : Nat := if p < 270 then p else if p < 276 then (if p = 270 then 30 else if p = 271 then 32 else if p = 272 then 34 else if p = 273 then 39 else if p = 274 then 42 else 45) else if p < 278 then p - 276 else if p < 294 then (p - 278) / 2 else if p < 306 then (p - 294) / 2 else if p < 322 then p - 306 else if p < 334 then p - 322 else if p < 414 then p - 334 else if p < 478 then p - 414 else if p < 1078 then p - 478 else if p < 1079 then 0 else if p < 1143 then (p - 1079) / 4 else (p - 1143) / 2
section S87
variable {z : Nat} {N V : mM} {t : Bool}
def kS (t : Bool) (c i p : Nat) (N : mM) : mM := if t = true then up (up (up N 312 54 (nI (p + 1))) 343 p (N c i)) c i (N c i) else up (up N 312 54 (nI (p + 1))) c i (N 343 p)
def kR (t : Bool) : Nat → Nat → mM → mM
  | 0, _, N => N
  | m + 1, p, N => kR t m (p + 1) (kS t (slC p) (slI p) p N)
theorem kR_add : ∀ (m n p : Nat) (N : mM), kR t (m + n) p N = kR t n (p + m) (kR t m p N) := by
  intro m
  induction m with
  | zero => intro n p N; rw [Nat.zero_add, Nat.add_zero]; rfl
  | succ m ih =>
    intro n p N
    rw [show m + 1 + n = m + n + 1 by omega, kR, ih, kR, show p + 1 + m = p + (m + 1) by omega]
/-- at p -/
def AT (t : Bool) (p : Nat) (N : mM) : Prop := N 312 54 = nI p ∧ N 312 52 = bI t
theorem kS_AT {c i p : Nat} (h : AT t p N) (hc : c ≠ 312 ∨ (i ≠ 54 ∧ i ≠ 52)) : AT t (p + 1) (kS t c i p N) := by
  unfold kS AT
  have e1 : ∀ (N' : mM) (x : Int32), up N' c i x 312 54 = N' 312 54 := fun N' x => by
    by_cases e : (312 : Nat) = c
    · subst e
      exact up_neJ _ _ _ (by omega)
    · exact up_neC _ _ _ _ e
  have e2 : ∀ (N' : mM) (x : Int32), up N' c i x 312 52 = N' 312 52 := fun N' x => by
    by_cases e : (312 : Nat) = c
    · subst e
      exact up_neJ _ _ _ (by omega)
    · exact up_neC _ _ _ _ e
  cases t with
  | true =>
    rw [if_pos rfl]
    refine ⟨?_, ?_⟩
    · rw [e1, up_neC _ _ _ _ (show (312 : Nat) ≠ 343 by omega), up_same]
    · rw [e2, up_neC _ _ _ _ (show (312 : Nat) ≠ 343 by omega), up_neJ _ _ _ (show 52 ≠ 54 by omega)]
      exact h.2
  | false =>
    rw [if_neg Bool.false_ne_true, e1, e2, up_same, up_neJ _ _ _ (by omega)]
    exact ⟨rfl, h.2⟩
theorem keeps_ok {p : Nat} (hp : p < 2400) (h : AT t p N) (v : Int32) : F_Mod_keeps v N = some (if t = true then (v, up (up N 312 54 (nI (p + 1))) 343 p v) else (N 343 p, up N 312 54 (nI (p + 1)))) := by
  unfold F_Mod_keeps
  rw [h.1, nadd, ob1_ok, up_same, up_neJ _ _ _ (show 52 ≠ 54 by omega), h.2, nsb (by omega), Nat.add_sub_cancel]
  cases t with
  | true =>
    rw [if_neg (show ¬ ¬ ¬ bI true = nI 0 from fun h => h (by decide)), wa_ok hp (by omega), ob1_ok, if_pos rfl]
  | false =>
    rw [if_pos (show ¬ ¬ bI false = nI 0 from fun h => h (by decide)), ra_ok hp (by omega), ob1_ok, if_neg Bool.false_ne_true, up_neC _ _ _ _ (by omega)]
theorem keep_at {A : Type} {c n i p : Nat} (hp : p < 2400) (h : AT t p N) (hi : i < n) (hn : n ≤ 5000) (K : mM → Option A) : (ob1 (ra N c n (nI i)) fun v => ob2 (F_Mod_keeps v N) fun w N1 => ob1 (wa N1 c n (nI i) w) fun N2 => K N2) = K (kS t c i p N) := by
  rw [ra_ok hi hn, ob1_ok, keeps_ok hp h]
  unfold kS
  cases t with
  | true => rw [if_pos rfl, if_pos rfl, ob2_ok, wa_ok hi hn, ob1_ok]
  | false => rw [if_neg Bool.false_ne_true, if_neg Bool.false_ne_true, ob2_ok, wa_ok hi hn, ob1_ok]
theorem keep_f {A : Type} {i p : Nat} (hp : p < 2400) (h : AT t p N) (K : mM → Option A) : (ob2 (F_Mod_keeps (N 312 i) N) fun w N1 => ob1 (some (up N1 312 i w)) fun N2 => K N2) = K (kS t 312 i p N) := by
  rw [keeps_ok hp h]
  unfold kS
  cases t with
  | true => rw [if_pos rfl, if_pos rfl, ob2_ok, ob1_ok]
  | false => rw [if_neg Bool.false_ne_true, if_neg Bool.false_ne_true, ob2_ok, ob1_ok]
theorem k_image_1 : ∀ (m k n : Nat) (N : mM), k + m = 270 → m < n → AT t (0 + 1 * k) N → L_Mod_image_1 z n (nI k) N = some (kR t (1 * m) (0 + 1 * k) N) ∧ AT t (0 + 1 * 270) (kR t (1 * m) (0 + 1 * k) N) := by
  intro m
  induction m with
  | zero =>
    intro k n N hk hn h
    obtain ⟨n, rfl⟩ : ∃ k, n = k + 1 := ⟨n - 1, by omega⟩
    have ek : k = 270 := by omega
    subst ek
    rw [L_Mod_image_1, if_neg (lF (by omega) (by omega))]
    exact ⟨rfl, h⟩
  | succ m ih =>
    intro k n N hk hn h
    obtain ⟨n, rfl⟩ : ∃ k, n = k + 1 := ⟨n - 1, by omega⟩
    have c0 : slC (0 + 1 * k) = 313 := by unfold slC; (repeat (first | rw [if_pos (by omega)] | rw [if_neg (by omega)])); (try omega)
    have i0 : slI (0 + 1 * k) = k := by unfold slI; (repeat (first | rw [if_pos (by omega)] | rw [if_neg (by omega)])); (try omega)
    have h1 : AT t (0 + 1 * k + 1) (kS t 313 k (0 + 1 * k) N) := kS_AT h (by omega)
    obtain ⟨g1, g2⟩ := ih (k + 1) n (kS t 313 k (0 + 1 * k) N) (by omega) (by omega) (by rw [show 0 + 1 * (k + 1) = 0 + 1 * k + 1 by omega]; exact h1)
    have e : kR t (1 * (m + 1)) (0 + 1 * k) N = kR t (1 * m) (0 + 1 * (k + 1)) (kS t 313 k (0 + 1 * k) N) := by
      rw [show 1 * (m + 1) = 1 * m + 1 by omega, kR, c0, i0, show 0 + 1 * (k + 1) = 0 + 1 * k + 1 by omega]
    rw [e]
    refine ⟨?_, g2⟩
    rw [← g1, L_Mod_image_1, if_pos (lT (by omega) (by omega)), keep_at (p := 0 + 1 * k) (by omega) h (by omega) (by omega), nadd]
theorem k_keepsTold_1 : ∀ (m k n : Nat) (N : mM), k + m = 8 → m < n → AT t (278 + 2 * k) N → L_Mod_keepsTold_1 z n (nI k) N = some (kR t (2 * m) (278 + 2 * k) N) ∧ AT t (278 + 2 * 8) (kR t (2 * m) (278 + 2 * k) N) := by
  intro m
  induction m with
  | zero =>
    intro k n N hk hn h
    obtain ⟨n, rfl⟩ : ∃ k, n = k + 1 := ⟨n - 1, by omega⟩
    have ek : k = 8 := by omega
    subst ek
    rw [L_Mod_keepsTold_1, if_neg (lF (by omega) (by omega))]
    exact ⟨rfl, h⟩
  | succ m ih =>
    intro k n N hk hn h
    obtain ⟨n, rfl⟩ : ∃ k, n = k + 1 := ⟨n - 1, by omega⟩
    have c0 : slC (278 + 2 * k) = 333 := by unfold slC; (repeat (first | rw [if_pos (by omega)] | rw [if_neg (by omega)])); (try omega)
    have i0 : slI (278 + 2 * k) = k := by unfold slI; (repeat (first | rw [if_pos (by omega)] | rw [if_neg (by omega)])); (try omega)
    have h1 : AT t (278 + 2 * k + 1) (kS t 333 k (278 + 2 * k) N) := kS_AT h (by omega)
    have c1 : slC (278 + 2 * k + 1) = 337 := by unfold slC; (repeat (first | rw [if_pos (by omega)] | rw [if_neg (by omega)])); (try omega)
    have i1 : slI (278 + 2 * k + 1) = k := by unfold slI; (repeat (first | rw [if_pos (by omega)] | rw [if_neg (by omega)])); (try omega)
    have h2 : AT t (278 + 2 * k + 1 + 1) (kS t 337 k (278 + 2 * k + 1) (kS t 333 k (278 + 2 * k) N)) := kS_AT h1 (by omega)
    obtain ⟨g1, g2⟩ := ih (k + 1) n (kS t 337 k (278 + 2 * k + 1) (kS t 333 k (278 + 2 * k) N)) (by omega) (by omega) (by rw [show 278 + 2 * (k + 1) = 278 + 2 * k + 2 by omega]; exact h2)
    have e : kR t (2 * (m + 1)) (278 + 2 * k) N = kR t (2 * m) (278 + 2 * (k + 1)) (kS t 337 k (278 + 2 * k + 1) (kS t 333 k (278 + 2 * k) N)) := by
      rw [show 2 * (m + 1) = 2 * m + 2 by omega, kR, c0, i0, kR, c1, i1, show 278 + 2 * (k + 1) = 278 + 2 * k + 2 by omega]
    rw [e]
    refine ⟨?_, g2⟩
    rw [← g1, L_Mod_keepsTold_1, if_pos (lT (by omega) (by omega)), keep_at (p := 278 + 2 * k) (by omega) h (by omega) (by omega), keep_at (p := 278 + 2 * k + 1) (by omega) h1 (by omega) (by omega), nadd]
theorem k_keepsTold_2 : ∀ (m k n : Nat) (N : mM), k + m = 6 → m < n → AT t (294 + 2 * k) N → L_Mod_keepsTold_2 z n (nI k) N = some (kR t (2 * m) (294 + 2 * k) N) ∧ AT t (294 + 2 * 6) (kR t (2 * m) (294 + 2 * k) N) := by
  intro m
  induction m with
  | zero =>
    intro k n N hk hn h
    obtain ⟨n, rfl⟩ : ∃ k, n = k + 1 := ⟨n - 1, by omega⟩
    have ek : k = 6 := by omega
    subst ek
    rw [L_Mod_keepsTold_2, if_neg (lF (by omega) (by omega))]
    exact ⟨rfl, h⟩
  | succ m ih =>
    intro k n N hk hn h
    obtain ⟨n, rfl⟩ : ∃ k, n = k + 1 := ⟨n - 1, by omega⟩
    have c0 : slC (294 + 2 * k) = 335 := by unfold slC; (repeat (first | rw [if_pos (by omega)] | rw [if_neg (by omega)])); (try omega)
    have i0 : slI (294 + 2 * k) = k := by unfold slI; (repeat (first | rw [if_pos (by omega)] | rw [if_neg (by omega)])); (try omega)
    have h1 : AT t (294 + 2 * k + 1) (kS t 335 k (294 + 2 * k) N) := kS_AT h (by omega)
    have c1 : slC (294 + 2 * k + 1) = 336 := by unfold slC; (repeat (first | rw [if_pos (by omega)] | rw [if_neg (by omega)])); (try omega)
    have i1 : slI (294 + 2 * k + 1) = k := by unfold slI; (repeat (first | rw [if_pos (by omega)] | rw [if_neg (by omega)])); (try omega)
    have h2 : AT t (294 + 2 * k + 1 + 1) (kS t 336 k (294 + 2 * k + 1) (kS t 335 k (294 + 2 * k) N)) := kS_AT h1 (by omega)
    obtain ⟨g1, g2⟩ := ih (k + 1) n (kS t 336 k (294 + 2 * k + 1) (kS t 335 k (294 + 2 * k) N)) (by omega) (by omega) (by rw [show 294 + 2 * (k + 1) = 294 + 2 * k + 2 by omega]; exact h2)
    have e : kR t (2 * (m + 1)) (294 + 2 * k) N = kR t (2 * m) (294 + 2 * (k + 1)) (kS t 336 k (294 + 2 * k + 1) (kS t 335 k (294 + 2 * k) N)) := by
      rw [show 2 * (m + 1) = 2 * m + 2 by omega, kR, c0, i0, kR, c1, i1, show 294 + 2 * (k + 1) = 294 + 2 * k + 2 by omega]
    rw [e]
    refine ⟨?_, g2⟩
    rw [← g1, L_Mod_keepsTold_2, if_pos (lT (by omega) (by omega)), keep_at (p := 294 + 2 * k) (by omega) h (by omega) (by omega), keep_at (p := 294 + 2 * k + 1) (by omega) h1 (by omega) (by omega), nadd]
theorem k_keepsTold_3 : ∀ (m k n : Nat) (N : mM), k + m = 16 → m < n → AT t (306 + 1 * k) N → L_Mod_keepsTold_3 z n (nI k) N = some (kR t (1 * m) (306 + 1 * k) N) ∧ AT t (306 + 1 * 16) (kR t (1 * m) (306 + 1 * k) N) := by
  intro m
  induction m with
  | zero =>
    intro k n N hk hn h
    obtain ⟨n, rfl⟩ : ∃ k, n = k + 1 := ⟨n - 1, by omega⟩
    have ek : k = 16 := by omega
    subst ek
    rw [L_Mod_keepsTold_3, if_neg (lF (by omega) (by omega))]
    exact ⟨rfl, h⟩
  | succ m ih =>
    intro k n N hk hn h
    obtain ⟨n, rfl⟩ : ∃ k, n = k + 1 := ⟨n - 1, by omega⟩
    have c0 : slC (306 + 1 * k) = 339 := by unfold slC; (repeat (first | rw [if_pos (by omega)] | rw [if_neg (by omega)])); (try omega)
    have i0 : slI (306 + 1 * k) = k := by unfold slI; (repeat (first | rw [if_pos (by omega)] | rw [if_neg (by omega)])); (try omega)
    have h1 : AT t (306 + 1 * k + 1) (kS t 339 k (306 + 1 * k) N) := kS_AT h (by omega)
    obtain ⟨g1, g2⟩ := ih (k + 1) n (kS t 339 k (306 + 1 * k) N) (by omega) (by omega) (by rw [show 306 + 1 * (k + 1) = 306 + 1 * k + 1 by omega]; exact h1)
    have e : kR t (1 * (m + 1)) (306 + 1 * k) N = kR t (1 * m) (306 + 1 * (k + 1)) (kS t 339 k (306 + 1 * k) N) := by
      rw [show 1 * (m + 1) = 1 * m + 1 by omega, kR, c0, i0, show 306 + 1 * (k + 1) = 306 + 1 * k + 1 by omega]
    rw [e]
    refine ⟨?_, g2⟩
    rw [← g1, L_Mod_keepsTold_3, if_pos (lT (by omega) (by omega)), keep_at (p := 306 + 1 * k) (by omega) h (by omega) (by omega), nadd]
theorem k_keepsTold_4 : ∀ (m k n : Nat) (N : mM), k + m = 12 → m < n → AT t (322 + 1 * k) N → L_Mod_keepsTold_4 z n (nI k) N = some (kR t (1 * m) (322 + 1 * k) N) ∧ AT t (322 + 1 * 12) (kR t (1 * m) (322 + 1 * k) N) := by
  intro m
  induction m with
  | zero =>
    intro k n N hk hn h
    obtain ⟨n, rfl⟩ : ∃ k, n = k + 1 := ⟨n - 1, by omega⟩
    have ek : k = 12 := by omega
    subst ek
    rw [L_Mod_keepsTold_4, if_neg (lF (by omega) (by omega))]
    exact ⟨rfl, h⟩
  | succ m ih =>
    intro k n N hk hn h
    obtain ⟨n, rfl⟩ : ∃ k, n = k + 1 := ⟨n - 1, by omega⟩
    have c0 : slC (322 + 1 * k) = 329 := by unfold slC; (repeat (first | rw [if_pos (by omega)] | rw [if_neg (by omega)])); (try omega)
    have i0 : slI (322 + 1 * k) = k := by unfold slI; (repeat (first | rw [if_pos (by omega)] | rw [if_neg (by omega)])); (try omega)
    have h1 : AT t (322 + 1 * k + 1) (kS t 329 k (322 + 1 * k) N) := kS_AT h (by omega)
    obtain ⟨g1, g2⟩ := ih (k + 1) n (kS t 329 k (322 + 1 * k) N) (by omega) (by omega) (by rw [show 322 + 1 * (k + 1) = 322 + 1 * k + 1 by omega]; exact h1)
    have e : kR t (1 * (m + 1)) (322 + 1 * k) N = kR t (1 * m) (322 + 1 * (k + 1)) (kS t 329 k (322 + 1 * k) N) := by
      rw [show 1 * (m + 1) = 1 * m + 1 by omega, kR, c0, i0, show 322 + 1 * (k + 1) = 322 + 1 * k + 1 by omega]
    rw [e]
    refine ⟨?_, g2⟩
    rw [← g1, L_Mod_keepsTold_4, if_pos (lT (by omega) (by omega)), keep_at (p := 322 + 1 * k) (by omega) h (by omega) (by omega), nadd]
theorem k_keepsTold_5 : ∀ (m k n : Nat) (N : mM), k + m = 80 → m < n → AT t (334 + 1 * k) N → L_Mod_keepsTold_5 z n (nI k) N = some (kR t (1 * m) (334 + 1 * k) N) ∧ AT t (334 + 1 * 80) (kR t (1 * m) (334 + 1 * k) N) := by
  intro m
  induction m with
  | zero =>
    intro k n N hk hn h
    obtain ⟨n, rfl⟩ : ∃ k, n = k + 1 := ⟨n - 1, by omega⟩
    have ek : k = 80 := by omega
    subst ek
    rw [L_Mod_keepsTold_5, if_neg (lF (by omega) (by omega))]
    exact ⟨rfl, h⟩
  | succ m ih =>
    intro k n N hk hn h
    obtain ⟨n, rfl⟩ : ∃ k, n = k + 1 := ⟨n - 1, by omega⟩
    have c0 : slC (334 + 1 * k) = 327 := by unfold slC; (repeat (first | rw [if_pos (by omega)] | rw [if_neg (by omega)])); (try omega)
    have i0 : slI (334 + 1 * k) = k := by unfold slI; (repeat (first | rw [if_pos (by omega)] | rw [if_neg (by omega)])); (try omega)
    have h1 : AT t (334 + 1 * k + 1) (kS t 327 k (334 + 1 * k) N) := kS_AT h (by omega)
    obtain ⟨g1, g2⟩ := ih (k + 1) n (kS t 327 k (334 + 1 * k) N) (by omega) (by omega) (by rw [show 334 + 1 * (k + 1) = 334 + 1 * k + 1 by omega]; exact h1)
    have e : kR t (1 * (m + 1)) (334 + 1 * k) N = kR t (1 * m) (334 + 1 * (k + 1)) (kS t 327 k (334 + 1 * k) N) := by
      rw [show 1 * (m + 1) = 1 * m + 1 by omega, kR, c0, i0, show 334 + 1 * (k + 1) = 334 + 1 * k + 1 by omega]
    rw [e]
    refine ⟨?_, g2⟩
    rw [← g1, L_Mod_keepsTold_5, if_pos (lT (by omega) (by omega)), keep_at (p := 334 + 1 * k) (by omega) h (by omega) (by omega), nadd]
theorem k_keepsTold_6 : ∀ (m k n : Nat) (N : mM), k + m = 64 → m < n → AT t (414 + 1 * k) N → L_Mod_keepsTold_6 z n (nI k) N = some (kR t (1 * m) (414 + 1 * k) N) ∧ AT t (414 + 1 * 64) (kR t (1 * m) (414 + 1 * k) N) := by
  intro m
  induction m with
  | zero =>
    intro k n N hk hn h
    obtain ⟨n, rfl⟩ : ∃ k, n = k + 1 := ⟨n - 1, by omega⟩
    have ek : k = 64 := by omega
    subst ek
    rw [L_Mod_keepsTold_6, if_neg (lF (by omega) (by omega))]
    exact ⟨rfl, h⟩
  | succ m ih =>
    intro k n N hk hn h
    obtain ⟨n, rfl⟩ : ∃ k, n = k + 1 := ⟨n - 1, by omega⟩
    have c0 : slC (414 + 1 * k) = 328 := by unfold slC; (repeat (first | rw [if_pos (by omega)] | rw [if_neg (by omega)])); (try omega)
    have i0 : slI (414 + 1 * k) = k := by unfold slI; (repeat (first | rw [if_pos (by omega)] | rw [if_neg (by omega)])); (try omega)
    have h1 : AT t (414 + 1 * k + 1) (kS t 328 k (414 + 1 * k) N) := kS_AT h (by omega)
    obtain ⟨g1, g2⟩ := ih (k + 1) n (kS t 328 k (414 + 1 * k) N) (by omega) (by omega) (by rw [show 414 + 1 * (k + 1) = 414 + 1 * k + 1 by omega]; exact h1)
    have e : kR t (1 * (m + 1)) (414 + 1 * k) N = kR t (1 * m) (414 + 1 * (k + 1)) (kS t 328 k (414 + 1 * k) N) := by
      rw [show 1 * (m + 1) = 1 * m + 1 by omega, kR, c0, i0, show 414 + 1 * (k + 1) = 414 + 1 * k + 1 by omega]
    rw [e]
    refine ⟨?_, g2⟩
    rw [← g1, L_Mod_keepsTold_6, if_pos (lT (by omega) (by omega)), keep_at (p := 414 + 1 * k) (by omega) h (by omega) (by omega), nadd]
theorem k_image_2 : ∀ (m k n : Nat) (N : mM), k + m = 600 → m < n → AT t (478 + 1 * k) N → L_Mod_image_2 z n (nI k) N = some (kR t (1 * m) (478 + 1 * k) N) ∧ AT t (478 + 1 * 600) (kR t (1 * m) (478 + 1 * k) N) := by
  intro m
  induction m with
  | zero =>
    intro k n N hk hn h
    obtain ⟨n, rfl⟩ : ∃ k, n = k + 1 := ⟨n - 1, by omega⟩
    have ek : k = 600 := by omega
    subst ek
    rw [L_Mod_image_2, if_neg (lF (by omega) (by omega))]
    exact ⟨rfl, h⟩
  | succ m ih =>
    intro k n N hk hn h
    obtain ⟨n, rfl⟩ : ∃ k, n = k + 1 := ⟨n - 1, by omega⟩
    have c0 : slC (478 + 1 * k) = 316 := by unfold slC; (repeat (first | rw [if_pos (by omega)] | rw [if_neg (by omega)])); (try omega)
    have i0 : slI (478 + 1 * k) = k := by unfold slI; (repeat (first | rw [if_pos (by omega)] | rw [if_neg (by omega)])); (try omega)
    have h1 : AT t (478 + 1 * k + 1) (kS t 316 k (478 + 1 * k) N) := kS_AT h (by omega)
    obtain ⟨g1, g2⟩ := ih (k + 1) n (kS t 316 k (478 + 1 * k) N) (by omega) (by omega) (by rw [show 478 + 1 * (k + 1) = 478 + 1 * k + 1 by omega]; exact h1)
    have e : kR t (1 * (m + 1)) (478 + 1 * k) N = kR t (1 * m) (478 + 1 * (k + 1)) (kS t 316 k (478 + 1 * k) N) := by
      rw [show 1 * (m + 1) = 1 * m + 1 by omega, kR, c0, i0, show 478 + 1 * (k + 1) = 478 + 1 * k + 1 by omega]
    rw [e]
    refine ⟨?_, g2⟩
    rw [← g1, L_Mod_image_2, if_pos (lT (by omega) (by omega)), keep_at (p := 478 + 1 * k) (by omega) h (by omega) (by omega), nadd]
theorem k_keepsLaw_1 : ∀ (m k n : Nat) (N : mM), k + m = 16 → m < n → AT t (1079 + 4 * k) N → L_Mod_keepsLaw_1 z n (nI k) N = some (kR t (4 * m) (1079 + 4 * k) N) ∧ AT t (1079 + 4 * 16) (kR t (4 * m) (1079 + 4 * k) N) := by
  intro m
  induction m with
  | zero =>
    intro k n N hk hn h
    obtain ⟨n, rfl⟩ : ∃ k, n = k + 1 := ⟨n - 1, by omega⟩
    have ek : k = 16 := by omega
    subst ek
    rw [L_Mod_keepsLaw_1, if_neg (lF (by omega) (by omega))]
    exact ⟨rfl, h⟩
  | succ m ih =>
    intro k n N hk hn h
    obtain ⟨n, rfl⟩ : ∃ k, n = k + 1 := ⟨n - 1, by omega⟩
    have c0 : slC (1079 + 4 * k) = 320 := by unfold slC; (repeat (first | rw [if_pos (by omega)] | rw [if_neg (by omega)])); (try omega)
    have i0 : slI (1079 + 4 * k) = k := by unfold slI; (repeat (first | rw [if_pos (by omega)] | rw [if_neg (by omega)])); (try omega)
    have h1 : AT t (1079 + 4 * k + 1) (kS t 320 k (1079 + 4 * k) N) := kS_AT h (by omega)
    have c1 : slC (1079 + 4 * k + 1) = 321 := by unfold slC; (repeat (first | rw [if_pos (by omega)] | rw [if_neg (by omega)])); (try omega)
    have i1 : slI (1079 + 4 * k + 1) = k := by unfold slI; (repeat (first | rw [if_pos (by omega)] | rw [if_neg (by omega)])); (try omega)
    have h2 : AT t (1079 + 4 * k + 1 + 1) (kS t 321 k (1079 + 4 * k + 1) (kS t 320 k (1079 + 4 * k) N)) := kS_AT h1 (by omega)
    have c2 : slC (1079 + 4 * k + 2) = 322 := by unfold slC; (repeat (first | rw [if_pos (by omega)] | rw [if_neg (by omega)])); (try omega)
    have i2 : slI (1079 + 4 * k + 2) = k := by unfold slI; (repeat (first | rw [if_pos (by omega)] | rw [if_neg (by omega)])); (try omega)
    have h3 : AT t (1079 + 4 * k + 2 + 1) (kS t 322 k (1079 + 4 * k + 2) (kS t 321 k (1079 + 4 * k + 1) (kS t 320 k (1079 + 4 * k) N))) := kS_AT h2 (by omega)
    have c3 : slC (1079 + 4 * k + 3) = 323 := by unfold slC; (repeat (first | rw [if_pos (by omega)] | rw [if_neg (by omega)])); (try omega)
    have i3 : slI (1079 + 4 * k + 3) = k := by unfold slI; (repeat (first | rw [if_pos (by omega)] | rw [if_neg (by omega)])); (try omega)
    have h4 : AT t (1079 + 4 * k + 3 + 1) (kS t 323 k (1079 + 4 * k + 3) (kS t 322 k (1079 + 4 * k + 2) (kS t 321 k (1079 + 4 * k + 1) (kS t 320 k (1079 + 4 * k) N)))) := kS_AT h3 (by omega)
    obtain ⟨g1, g2⟩ := ih (k + 1) n (kS t 323 k (1079 + 4 * k + 3) (kS t 322 k (1079 + 4 * k + 2) (kS t 321 k (1079 + 4 * k + 1) (kS t 320 k (1079 + 4 * k) N)))) (by omega) (by omega) (by rw [show 1079 + 4 * (k + 1) = 1079 + 4 * k + 4 by omega]; exact h4)
    have e : kR t (4 * (m + 1)) (1079 + 4 * k) N = kR t (4 * m) (1079 + 4 * (k + 1)) (kS t 323 k (1079 + 4 * k + 3) (kS t 322 k (1079 + 4 * k + 2) (kS t 321 k (1079 + 4 * k + 1) (kS t 320 k (1079 + 4 * k) N)))) := by
      rw [show 4 * (m + 1) = 4 * m + 4 by omega, kR, c0, i0, kR, c1, i1, kR, c2, i2, kR, c3, i3, show 1079 + 4 * (k + 1) = 1079 + 4 * k + 4 by omega]
    rw [e]
    refine ⟨?_, g2⟩
    rw [← g1, L_Mod_keepsLaw_1, if_pos (lT (by omega) (by omega)), keep_at (p := 1079 + 4 * k) (by omega) h (by omega) (by omega), keep_at (p := 1079 + 4 * k + 1) (by omega) h1 (by omega) (by omega), keep_at (p := 1079 + 4 * k + 2) (by omega) h2 (by omega) (by omega), keep_at (p := 1079 + 4 * k + 3) (by omega) h3 (by omega) (by omega), nadd]
theorem k_keepsLaw_2 : ∀ (m k n : Nat) (N : mM), k + m = 400 → m < n → AT t (1143 + 2 * k) N → L_Mod_keepsLaw_2 z n (nI k) N = some (kR t (2 * m) (1143 + 2 * k) N) ∧ AT t (1143 + 2 * 400) (kR t (2 * m) (1143 + 2 * k) N) := by
  intro m
  induction m with
  | zero =>
    intro k n N hk hn h
    obtain ⟨n, rfl⟩ : ∃ k, n = k + 1 := ⟨n - 1, by omega⟩
    have ek : k = 400 := by omega
    subst ek
    rw [L_Mod_keepsLaw_2, if_neg (lF (by omega) (by omega))]
    exact ⟨rfl, h⟩
  | succ m ih =>
    intro k n N hk hn h
    obtain ⟨n, rfl⟩ : ∃ k, n = k + 1 := ⟨n - 1, by omega⟩
    have c0 : slC (1143 + 2 * k) = 324 := by unfold slC; (repeat (first | rw [if_pos (by omega)] | rw [if_neg (by omega)])); (try omega)
    have i0 : slI (1143 + 2 * k) = k := by unfold slI; (repeat (first | rw [if_pos (by omega)] | rw [if_neg (by omega)])); (try omega)
    have h1 : AT t (1143 + 2 * k + 1) (kS t 324 k (1143 + 2 * k) N) := kS_AT h (by omega)
    have c1 : slC (1143 + 2 * k + 1) = 325 := by unfold slC; (repeat (first | rw [if_pos (by omega)] | rw [if_neg (by omega)])); (try omega)
    have i1 : slI (1143 + 2 * k + 1) = k := by unfold slI; (repeat (first | rw [if_pos (by omega)] | rw [if_neg (by omega)])); (try omega)
    have h2 : AT t (1143 + 2 * k + 1 + 1) (kS t 325 k (1143 + 2 * k + 1) (kS t 324 k (1143 + 2 * k) N)) := kS_AT h1 (by omega)
    obtain ⟨g1, g2⟩ := ih (k + 1) n (kS t 325 k (1143 + 2 * k + 1) (kS t 324 k (1143 + 2 * k) N)) (by omega) (by omega) (by rw [show 1143 + 2 * (k + 1) = 1143 + 2 * k + 2 by omega]; exact h2)
    have e : kR t (2 * (m + 1)) (1143 + 2 * k) N = kR t (2 * m) (1143 + 2 * (k + 1)) (kS t 325 k (1143 + 2 * k + 1) (kS t 324 k (1143 + 2 * k) N)) := by
      rw [show 2 * (m + 1) = 2 * m + 2 by omega, kR, c0, i0, kR, c1, i1, show 1143 + 2 * (k + 1) = 1143 + 2 * k + 2 by omega]
    rw [e]
    refine ⟨?_, g2⟩
    rw [← g1, L_Mod_keepsLaw_2, if_pos (lT (by omega) (by omega)), keep_at (p := 1143 + 2 * k) (by omega) h (by omega) (by omega), keep_at (p := 1143 + 2 * k + 1) (by omega) h1 (by omega) (by omega), nadd]
end S87
