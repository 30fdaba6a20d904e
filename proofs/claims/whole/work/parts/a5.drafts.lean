/-! ===== a line of a sky, both ways ===== -/
section SA5
variable {z n t i : Nat} {M N M' N' : mM} {tp : Nat → Nat}
/-- what the model's reading of a line may change, when it drafts into c0 from a on -/
def FrDr (c0 a : Nat) (N N' : mM) : Prop := (∀ c', c' ≠ 312 → c' ≠ c0 → N' c' = N c') ∧ (∀ j, ¬ (9 ≤ j ∧ j ≤ 12) → j ≠ 26 → j ≠ 27 → N' 312 j = N 312 j) ∧ ∀ j, j < a → N' c0 j = N c0 j
theorem FrDr_tr {c0 a : Nat} {N1 : mM} (h : FrDr c0 a N N1) (h' : FrDr c0 a N1 N') : FrDr c0 a N N' := ⟨fun c' p q => (h'.1 c' p q).trans (h.1 c' p q), fun j a b d => (h'.2.1 j a b d).trans (h.2.1 j a b d), fun j p => (h'.2.2 j p).trans (h.2.2 j p)⟩
theorem FrDr_E {c0 a : Nat} (hc : c0 ≠ 312) (h : FrE N N') : FrDr c0 a N N' := ⟨fun c' p _ => h.1 c' p, h.2, fun j _ => by rw [h.1 c0 hc]⟩
theorem FrDr_up {c0 a k : Nat} {x : Int32} (hc : c0 ≠ 312) (h : a ≤ k) : FrDr c0 a N (up N c0 k x) := ⟨fun c' _ q => upC q, fun j _ _ _ => up_neC _ _ _ _ (fun e => hc e.symm), fun j hj => up_neJ _ _ _ (by omega)⟩
theorem PZ_dr {c0 k : Nat} {x : Int32} (h : PZ tp n t i M N) (hc : c0 < 312 ∨ 318 < c0) : PZ tp n t i M (up N c0 k x) := PZ_cg h (fun _ _ => rfl) (fun _ _ => rfl) (fun c' hc' => upC (by omega)) (fun j _ _ => up_neC _ _ _ _ (by omega))
theorem nI_nm {v : Nat} (hv : v < 2147483648) : nI v ≠ -1 := by
  intro h
  have e := congrArg Int32.toInt h
  rw [nI_toInt hv] at e
  have : (-1 : Int32).toInt = -1 := by decide
  omega
theorem PZ_l {j : Nat} {x : Int32} (h : PZ tp n t i M N) : PZ tp n t i (up M 108 j x) N := PZ_cg h (fun c' hc => upC (by omega)) (fun j hj => up_neC _ _ _ _ (by omega)) (fun _ _ => rfl) (fun _ _ _ => rfl)
/-- the model drafts what it read; -1 ends the line -/
theorem drf_fail {c0 n0 k : Nat} (hk : k < n0) (hn : n0 ≤ 5000) {X : Option (Int32 × mM)} (hX : X = some (-1, N')) (R : mM → Option (Int32 × mM)) : (ob2 X fun v M2 => ob1 (wa M2 c0 n0 (nI k) v) fun M5 => ob1 (ob1 (ra M5 c0 n0 (nI k)) fun v83 => some (decide (v83 = (-1)))) fun x6 => if x6 = true then some ((-1), M5) else R M5) = some (-1, up N' c0 k (-1)) := by
  rw [hX, ob2_ok, wa_ok hk hn, ob1_ok, ra_ok hk hn, ob1_ok, ob1_ok, up_same, if_pos (decide_eq_true rfl)]
theorem drf_ok {c0 n0 k v : Nat} (hk : k < n0) (hn : n0 ≤ 5000) (hv : v < 2147483648) {X : Option (Int32 × mM)} (hX : X = some (nI v, N')) (R : mM → Option (Int32 × mM)) : (ob2 X fun v M2 => ob1 (wa M2 c0 n0 (nI k) v) fun M5 => ob1 (ob1 (ra M5 c0 n0 (nI k)) fun v83 => some (decide (v83 = (-1)))) fun x6 => if x6 = true then some ((-1), M5) else R M5) = R (up N' c0 k (nI v)) := by
  rw [hX, ob2_ok, wa_ok hk hn, ob1_ok, ra_ok hk hn, ob1_ok, ob1_ok, up_same, decide_eq_false (nI_nm hv), if_neg Bool.false_ne_true]
/-- the end of a deed's draft: the mark -/
theorem drf_end_fail {c0 n0 k : Nat} (hk : k < n0) (hn : n0 ≤ 5000) {X : Option (Int32 × mM)} (hX : X = some (-1, N')) (R : mM → Option (Int32 × mM)) : (ob2 X fun v38 M40 => ob1 (wa M40 c0 n0 (nI k) v38) fun M42 => ob2 (ob1 (ob1 (ra M42 c0 n0 (nI k)) fun v72 => some (decide (v72 = (-1)))) fun x60 => if x60 = true then some ((-1), M42) else ob2 (R M42) fun v68 M69 => some (v68, M69)) fun v57 M59 => some (v57, M59)) = some (-1, up N' c0 k (-1)) := by
  rw [hX, ob2_ok, wa_ok hk hn, ob1_ok, ra_ok hk hn, ob1_ok, ob1_ok, up_same, if_pos (decide_eq_true rfl), ob2_ok]
theorem drf_end_ok {c0 n0 k v : Nat} {r : Int32} (hk : k < n0) (hn : n0 ≤ 5000) (hv : v < 2147483648) {X : Option (Int32 × mM)} (hX : X = some (nI v, N)) (R : mM → Option (Int32 × mM)) (hR : R (up N c0 k (nI v)) = some (r, N')) : (ob2 X fun v38 M40 => ob1 (wa M40 c0 n0 (nI k) v38) fun M42 => ob2 (ob1 (ob1 (ra M42 c0 n0 (nI k)) fun v72 => some (decide (v72 = (-1)))) fun x60 => if x60 = true then some ((-1), M42) else ob2 (R M42) fun v68 M69 => some (v68, M69)) fun v57 M59 => some (v57, M59)) = some (r, N') := by
  rw [hX, ob2_ok, wa_ok hk hn, ob1_ok, ra_ok hk hn, ob1_ok, ob1_ok, up_same, decide_eq_false (nI_nm hv), if_neg Bool.false_ne_true, hR, ob2_ok, ob2_ok]
end SA5
