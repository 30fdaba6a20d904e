/-! ===== numberings under which two wings are alike: what they keep ===== -/
theorem cnt_snoc {f : Nat → Bool} : ∀ (n t a : Nat), cnt f (n + 1) t a = cnt f n t a + (f (t + n)).toNat := by
  intro n
  induction n with
  | zero => intro t a; rfl
  | succ n ih =>
    intro t a
    rw [cnt, ih (t + 1), cnt, show t + 1 + n = t + (n + 1) by omega]
theorem cnt_drop {f : Nat → Bool} {s : Nat} {m t a : Nat} (h1 : t ≤ s) (h2 : s < t + m) (hf : f s = true) : cnt f m t a = cnt (fun y => if y = s then false else f y) m t a + 1 := by
  have h := cnt_set (f := fun y => if y = s then false else f y) m t a h1 h2 (if_pos rfl)
  rw [← h]
  refine cnt_cg m t a (fun i _ _ => ?_)
  show f i = if i = s then true else if i = s then false else f i
  by_cases e : i = s
  · rw [if_pos e, e, hf]
  · rw [if_neg e, if_neg e]
/-- an injective row has no more -/
theorem cnt_inj {m : Nat} {g : Nat → Nat} : ∀ (n : Nat) (f : Nat → Bool), (∀ i j, i < n → j < n → g i = g j → i = j) → (∀ i, i < n → g i < m) → cnt (fun i => f (g i)) n 0 0 ≤ cnt f m 0 0 := by
  intro n
  induction n with
  | zero => intro f _ _; exact Nat.zero_le _
  | succ n ih =>
    intro f hi hm
    rw [cnt_snoc, Nat.zero_add]
    cases h : f (g n) with
    | false =>
      have := ih f (fun i j h1 h2 => hi i j (by omega) (by omega)) (fun i h1 => hm i (by omega))
      exact this
    | true =>
      have h1 := ih (fun y => if y = g n then false else f y) (fun i j h1 h2 => hi i j (by omega) (by omega)) (fun i h1 => hm i (by omega))
      have h2 := cnt_drop (f := f) (s := g n) (m := m) (t := 0) (a := 0) (Nat.zero_le _) (by have := hm n (by omega); omega) h
      have h3 : cnt (fun i => (fun y => if y = g n then false else f y) (g i)) n 0 0 = cnt (fun i => f (g i)) n 0 0 := cnt_cg n 0 0 (fun i _ h4 => by
        show (if g i = g n then false else f (g i)) = f (g i)
        rw [if_neg (fun e => by have := hi i n (by omega) (by omega) e; omega)])
      rw [h3] at h1
      show cnt (fun i => f (g i)) n 0 0 + 1 ≤ _
      omega
theorem cnt_not {f : Nat → Bool} : ∀ (n t a b : Nat), cnt f n t a + cnt (fun i => !f i) n t b = n + a + b := by
  intro n
  induction n with
  | zero => intro t a b; show a + b = 0 + a + b; omega
  | succ n ih =>
    intro t a b
    rw [cnt, cnt, ih]
    cases f t with
    | true => show n + (a + 1) + (b + 0) = _; omega
    | false => show n + (a + 0) + (b + 1) = _; omega
theorem cnt_perm {g : Nat → Nat} {n : Nat} (f : Nat → Bool) (hi : ∀ i j, i < n → j < n → g i = g j → i = j) (hm : ∀ i, i < n → g i < n) : cnt (fun i => f (g i)) n 0 0 = cnt f n 0 0 := by
  have h1 := cnt_inj (m := n) n f hi hm
  have h2 := cnt_inj (m := n) n (fun i => !f i) hi hm
  have h3 := cnt_not (f := f) n 0 0 0
  have h4 := cnt_not (f := fun i => f (g i)) n 0 0 0
  have h5 : cnt (fun i => !(fun i => f (g i)) i) n 0 0 = cnt (fun i => (fun i => !f i) (g i)) n 0 0 := rfl
  omega
def pcbOk (s : Nat) : Bool := decide (s < 256 → pcN s = cnt (fun k => s.testBit k) 8 0 0)
set_option maxRecDepth 100000 in
theorem pcb_all : allB pcbOk 8 0 = true := by decide +kernel
theorem pcb {s : Nat} (h : s < 256) : pcN s = cnt (fun k => s.testBit k) 8 0 0 := of_decide_eq_true (allB_ok 8 0 pcb_all s (by omega) (by omega)) h
theorem mask8_eq {x y : Nat} (hx : x < 256) (hy : y < 256) (h : ∀ k, k < 8 → x.testBit k = y.testBit k) : x = y := by
  apply Nat.eq_of_testBit_eq
  intro i
  by_cases hi : i < 8
  · exact h i hi
  · have h2 : 2 ^ 8 ≤ 2 ^ i := Nat.pow_le_pow_right (by omega) (by omega)
    rw [Nat.testBit_lt_two_pow (show x < 2 ^ i by omega), Nat.testBit_lt_two_pow (show y < 2 ^ i by omega)]
theorem pc_0 {s : Nat} (h : s < 256) : pcN s = 0 ↔ s = 0 := by
  rw [pcb h]
  constructor
  · intro h0
    refine mask8_eq h (by omega) (fun k hk => ?_)
    rw [Nat.zero_testBit]
    cases e : s.testBit k with
    | false => rfl
    | true =>
      have h1 := cnt_strict (f := fun _ => false) (g := fun k => s.testBit k) (s := k) 8 0 0 (fun _ _ _ h => absurd h Bool.false_ne_true) (Nat.zero_le _) (by omega) rfl e
      rw [cnt_no] at h1
      omega
  · intro h0
    subst h0
    have : cnt (fun k => (0 : Nat).testBit k) 8 0 0 = cnt (fun _ => false) 8 0 0 := cnt_cg 8 0 0 (fun i _ _ => Nat.zero_testBit i)
    rw [this, cnt_no]
/-- a wing: eight masks, each vein both ways, none from a point to itself -/
def WG (a : Nat → Nat) : Prop := (∀ i, i < 8 → a i < 256) ∧ (∀ i j, i < 8 → j < 8 → (a i).testBit j = (a j).testBit i) ∧ ∀ i, i < 8 → (a i).testBit i = false
section S83
variable {a b : Nat → Nat} {g : Nat → Nat}
theorem al_deg (hA : WG a) (hB : WG b) (hi : ∀ i j, i < 8 → j < 8 → g i = g j → i = j) (hm : ∀ i, i < 8 → g i < 8) (h : alB a b g 8 = true) {i : Nat} (hi8 : i < 8) : pcN (a i) = pcN (b (g i)) := by
  rw [pcb (hA.1 i hi8), pcb (hB.1 _ (hm i hi8)), ← cnt_perm (g := g) (fun k => (b (g i)).testBit k) hi hm]
  refine cnt_cg 8 0 0 (fun j _ hj => ?_)
  have hj8 : j < 8 := by omega
  have hb := (alB_iff 8).mp h
  show (a i).testBit j = (b (g i)).testBit (g j)
  by_cases h1 : j < i
  · exact hb i j hi8 h1
  · by_cases h2 : i < j
    · rw [hA.2.1 i j hi8 hj8, hB.2.1 _ _ (hm i hi8) (hm j hj8)]
      exact hb j i hj8 h2
    · have e : i = j := by omega
      subst e
      rw [hA.2.2 i hi8, hB.2.2 _ (hm i hi8)]
/-- the points ahead of p lie as they must -/
def GD (a b : Nat → Nat) (p c : Nat) : Prop := (∀ q, q < p → pcN (a q) = pcN (b (dig c q))) ∧ ∀ i j, i < p → j < i → (a i).testBit j = (b (dig c i)).testBit (dig c j)
def US (p u c : Nat) : Prop := (∀ t, t < 8 → (u.testBit t = true ↔ ∃ q, q < p ∧ dig c q = t)) ∧ ∀ i j, i < p → j < p → dig c i = dig c j → i = j
theorem dig_ch {c p t q : Nat} (hc : c < 8 ^ p) (ht : t < 8) : (q < p → dig (c + t * 8 ^ p) q = dig c q) ∧ dig (c + t * 8 ^ p) p = t := by
  unfold dig
  constructor
  · intro hq
    obtain ⟨r, hr⟩ : ∃ r, p = q + (r + 1) := ⟨p - q - 1, by omega⟩
    have e1 : 8 ^ p = 8 ^ q * (8 ^ r * 8) := by rw [hr, Nat.pow_add, Nat.pow_succ]
    have e2 : t * 8 ^ p = 8 ^ q * (t * 8 ^ r * 8) := by
      rw [e1, Nat.mul_left_comm, Nat.mul_assoc]
    rw [e2, Nat.add_mul_div_left _ _ (Nat.pow_pos (by omega)), Nat.add_mul_mod_self_right]
  · rw [Nat.mul_comm, Nat.add_mul_div_left _ _ (Nat.pow_pos (by omega)), Nat.div_eq_of_lt hc, Nat.zero_add, Nat.mod_eq_of_lt ht]
theorem US_ch {c p t u : Nat} (hU : US p u c) (hc : c < 8 ^ p) (ht : t < 8) (hu : u.testBit t = false) : US (p + 1) (u ||| 2 ^ t) (c + t * 8 ^ p) := by
  obtain ⟨h1, h2⟩ := hU
  have d1 := fun q => (dig_ch (q := q) hc ht).1
  have d2 := (dig_ch (q := 0) hc ht).2
  refine ⟨fun s hs => ?_, fun i j hi hj e => ?_⟩
  · rw [Nat.testBit_or, Bool.or_eq_true, h1 s hs]
    constructor
    · rintro (⟨q, hq, e⟩ | h)
      · exact ⟨q, by omega, by rw [d1 q hq]; exact e⟩
      · refine ⟨p, by omega, ?_⟩
        rw [d2]
        by_cases e : t = s
        · exact e
        · rw [Nat.testBit_two_pow_of_ne e] at h; cases h
    · rintro ⟨q, hq, e⟩
      by_cases eq : q = p
      · right
        rw [eq, d2] at e
        rw [← e, Nat.testBit_two_pow_self]
      · left
        exact ⟨q, by omega, by rw [d1 q (by omega)] at e; exact e⟩
  · have key : ∀ q, q < p → dig (c + t * 8 ^ p) q ≠ t := fun q hq e => by
      rw [d1 q hq] at e
      rw [(h1 t ht).mpr ⟨q, hq, e⟩] at hu
      cases hu
    by_cases ei : i = p
    · by_cases ej : j = p
      · omega
      · rw [ei, d2] at e
        exact absurd e.symm (key j (by omega))
    · by_cases ej : j = p
      · rw [ej, d2] at e
        exact absurd e (key i (by omega))
      · rw [d1 i (by omega), d1 j (by omega)] at e
        exact h2 i j (by omega) (by omega) e
theorem sFr_0 {h : Nat → Nat} : ∀ (n t : Nat), (∀ s, t ≤ s → s < t + n → h s = 0) → sFr h n t = 0 := by
  intro n
  induction n with
  | zero => intro t _; rfl
  | succ n ih =>
    intro t hh
    rw [sFr, hh t (Nat.le_refl _) (by omega), ih (t + 1) (fun s h1 h2 => hh s (by omega) (by omega))]
theorem GD_dn {c p t : Nat} (hc : c < 8 ^ p) (ht : t < 8) (h : GD a b (p + 1) (c + t * 8 ^ p)) : GD a b p c := by
  have d1 := fun q => (dig_ch (q := q) hc ht).1
  refine ⟨fun q hq => ?_, fun i j hi hj => ?_⟩
  · have := h.1 q (by omega)
    rwa [d1 q hq] at this
  · have := h.2 i j (by omega) hj
    rwa [d1 i hi, d1 j (by omega)] at this
/-- no leaf below is alike if the points ahead don't lie as they must -/
theorem tS_bad (hA : WG a) (hB : WG b) : ∀ (m p u c : Nat), p + m = 8 → c < 8 ^ p → US p u c → ¬ GD a b p c → tS (alN a b) m p u c = 0 := by
  intro m
  induction m with
  | zero =>
    intro p u c hp hc hU hG
    have ep : p = 8 := by omega
    subst ep
    show (if alB a b (dig c) 8 = true then 1 else 0) = 0
    by_cases h : alB a b (dig c) 8 = true
    · exact absurd ⟨fun q hq => al_deg hA hB hU.2 (fun i _ => dig_8 c i) h hq, (alB_iff 8).mp h⟩ hG
    · rw [if_neg h]
  | succ m ih =>
    intro p u c hp hc hU hG
    rw [tS]
    refine sFr_0 8 0 (fun t _ ht => ?_)
    show (bif Nat.testBit u t then 0 else tS (alN a b) m (p + 1) (u ||| 2 ^ t) (c + t * 8 ^ p)) = 0
    cases hu : Nat.testBit u t with
    | true => rfl
    | false =>
      show tS (alN a b) m (p + 1) (u ||| 2 ^ t) (c + t * 8 ^ p) = 0
      exact ih (p + 1) _ _ (by omega) (code_lt hc (by omega)) (US_ch hU hc (by omega) hu) (fun h => hG (GD_dn hc (by omega) h))
end S83
