/-! ===== how many numberings: bare points are counted, not tried ===== -/
def ftR (a b g : Nat → Nat) (p t : Nat) : Nat → Bool
  | 0 => true
  | q + 1 => ftR a b g p t q && (Nat.beq (a q) 0 || ((a p).testBit q == (b t).testBit (g q)))
def ftB (a b g : Nat → Nat) (p t : Nat) : Bool := Nat.beq (pcN (a p)) (pcN (b t)) && ftR a b g p t p
def trS (a b : Nat → Nat) : Nat → Nat → Nat → (Nat → Nat) → Nat
  | 0, _, _, _ => 1
  | m + 1, p, v, g => bif Nat.beq (a p) 0 then trS a b m (p + 1) v g else sFr (fun t => bif !v.testBit t && ftB a b g p t then trS a b m (p + 1) (v ||| 2 ^ t) (updN g p t) else 0) 8 0
def fcN : Nat → Nat
  | 0 => 1
  | n + 1 => (n + 1) * fcN n
theorem sFr_cg {h h' : Nat → Nat} : ∀ (n t : Nat), (∀ s, t ≤ s → s < t + n → h s = h' s) → sFr h n t = sFr h' n t := by
  intro n
  induction n with
  | zero => intro t _; rfl
  | succ n ih =>
    intro t hh
    rw [sFr, sFr, hh t (Nat.le_refl _) (by omega), ih (t + 1) (fun s h1 h2 => hh s (by omega) (by omega))]
theorem sFr_mul {h : Nat → Nat} {x : Nat} : ∀ (n t : Nat), sFr (fun s => h s * x) n t = sFr h n t * x := by
  intro n
  induction n with
  | zero => intro t; exact (Nat.zero_mul x).symm
  | succ n ih =>
    intro t
    rw [sFr, sFr, ih (t + 1), Nat.add_mul]
theorem sFr_cnt {q : Nat → Bool} {x : Nat} : ∀ (n t : Nat), sFr (fun s => bif q s then x else 0) n t = cnt q n t 0 * x := by
  intro n
  induction n with
  | zero => intro t; exact (Nat.zero_mul x).symm
  | succ n ih =>
    intro t
    rw [sFr, cnt, ih (t + 1), cnt_add (f := q) n (t + 1) 0 (q t).toNat, Nat.add_mul]
    cases q t with
    | true =>
      show x + _ = _ + 1 * x
      rw [Nat.one_mul, Nat.add_comm]
    | false =>
      show 0 + _ = _ + 0 * x
      rw [Nat.zero_mul, Nat.add_comm]
section S84
variable {a b : Nat → Nat} {g : Nat → Nat}
theorem ftR_iff {p t : Nat} : ∀ n, ftR a b g p t n = true ↔ ∀ q, q < n → a q ≠ 0 → (a p).testBit q = (b t).testBit (g q) := by
  intro n
  induction n with
  | zero => exact ⟨fun _ q hq => absurd hq (Nat.not_lt_zero q), fun _ => rfl⟩
  | succ n ih =>
    rw [ftR, Bool.and_eq_true, ih, Bool.or_eq_true, beq_iff_eq, Nat.beq_eq]
    constructor
    · intro h q hq h0
      by_cases e : q = n
      · rw [e] at h0 ⊢
        exact h.2.resolve_left h0
      · exact h.1 q (by omega) h0
    · intro h
      refine ⟨fun q hq h0 => h q (by omega) h0, ?_⟩
      by_cases e : a n = 0
      · exact Or.inl e
      · exact Or.inr (h n (by omega) e)
theorem ftB_iff {p t : Nat} : ftB a b g p t = true ↔ pcN (a p) = pcN (b t) ∧ ∀ q, q < p → a q ≠ 0 → (a p).testBit q = (b t).testBit (g q) := by
  unfold ftB
  rw [Bool.and_eq_true, Nat.beq_eq, ftR_iff]
theorem ftB_cg {g' : Nat → Nat} {p t : Nat} (h : ∀ q, q < p → a q ≠ 0 → g q = g' q) : ftB a b g p t = ftB a b g' p t := by
  have h1 := ftB_iff (a := a) (b := b) (g := g) (p := p) (t := t)
  have h2 := ftB_iff (a := a) (b := b) (g := g') (p := p) (t := t)
  cases e : ftB a b g p t with
  | true =>
    obtain ⟨x, y⟩ := h1.mp e
    exact (h2.mpr ⟨x, fun q hq h0 => by rw [← h q hq h0]; exact y q hq h0⟩).symm
  | false =>
    cases e' : ftB a b g' p t with
    | false => rfl
    | true =>
      obtain ⟨x, y⟩ := h2.mp e'
      rw [h1.mpr ⟨x, fun q hq h0 => by rw [h q hq h0]; exact y q hq h0⟩] at e
      cases e
theorem trS_cg : ∀ (m p v : Nat) (g g' : Nat → Nat), (∀ q, q < p → a q ≠ 0 → g q = g' q) → trS a b m p v g = trS a b m p v g' := by
  intro m
  induction m with
  | zero => intro p v g g' _; rfl
  | succ m ih =>
    intro p v g g' h
    rw [trS, trS, bcond, bcond]
    by_cases h0 : Nat.beq (a p) 0 = true
    · rw [if_pos h0, if_pos h0]
      exact ih (p + 1) v g g' (fun q hq hq0 => h q (by
        have : q ≠ p := fun e => hq0 (by rw [e]; exact beq_iff.mp h0)
        omega) hq0)
    · rw [if_neg h0, if_neg h0]
      refine sFr_cg 8 0 (fun t _ _ => ?_)
      show (bif !v.testBit t && ftB a b g p t then trS a b m (p + 1) (v ||| 2 ^ t) (updN g p t) else 0) = (bif !v.testBit t && ftB a b g' p t then trS a b m (p + 1) (v ||| 2 ^ t) (updN g' p t) else 0)
      rw [ftB_cg h, ih (p + 1) (v ||| 2 ^ t) (updN g p t) (updN g' p t) (fun q hq hq0 => by
        unfold updN
        by_cases e : q = p
        · rw [if_pos e, if_pos e]
        · rw [if_neg e, if_neg e]
          exact h q (by omega) hq0)]
theorem tS_eq (hA : WG a) (hB : WG b) : ∀ (m p u c v : Nat), p + m = 8 → c < 8 ^ p → US p u c → GD a b p c → (∀ t, t < 8 → (v.testBit t = true ↔ ∃ q, q < p ∧ a q ≠ 0 ∧ dig c q = t)) → cnt (fun t => !u.testBit t && Nat.beq (b t) 0) 8 0 0 = cnt (fun i => Nat.beq (a i) 0) m p 0 →
    tS (alN a b) m p u c = trS a b m p v (dig c) * fcN (cnt (fun i => Nat.beq (a i) 0) m p 0) := by
  intro m
  induction m with
  | zero =>
    intro p u c v hp hc hU hG hV hR
    have ep : p = 8 := by omega
    subst ep
    show (if alB a b (dig c) 8 = true then 1 else 0) = 1 * 1
    rw [if_pos ((alB_iff 8).mpr hG.2)]
  | succ m ih =>
    intro p u c v hp hc hU hG hV hR
    have hp8 : p < 8 := by omega
    obtain ⟨r', hr'⟩ : ∃ r', r' = cnt (fun i => Nat.beq (a i) 0) m (p + 1) 0 := ⟨_, rfl⟩
    have hr : cnt (fun i => Nat.beq (a i) 0) (m + 1) p 0 = r' + (Nat.beq (a p) 0).toNat := by
      rw [cnt, cnt_add (f := fun i => Nat.beq (a i) 0) m (p + 1) 0 _, ← hr']
    have d1 := fun (t q : Nat) (ht : t < 8) => (dig_ch (q := q) hc ht).1
    have d2 := fun (t : Nat) (ht : t < 8) => (dig_ch (q := 0) hc ht).2
    rw [tS, trS, bcond]
    by_cases h0 : a p = 0
    · have h0b : Nat.beq (a p) 0 = true := beq_iff.mpr h0
      rw [h0b] at hr
      have hr1 : cnt (fun i => Nat.beq (a i) 0) (m + 1) p 0 = r' + 1 := hr
      rw [if_pos h0b, hr1]
      have hterm : ∀ t, 0 ≤ t → t < 0 + 8 → (bif Nat.testBit u t then 0 else tS (alN a b) m (p + 1) (u ||| 2 ^ t) (c + t * 8 ^ p)) = (bif (!u.testBit t && Nat.beq (b t) 0) then trS a b m (p + 1) v (dig c) * fcN r' else 0) := fun t _ ht => by
        have ht8 : t < 8 := by omega
        cases hu : Nat.testBit u t with
        | true => rfl
        | false =>
          show tS (alN a b) m (p + 1) (u ||| 2 ^ t) (c + t * 8 ^ p) = (bif Nat.beq (b t) 0 then trS a b m (p + 1) v (dig c) * fcN r' else 0)
          have hUc := US_ch hU hc ht8 hu
          by_cases hb : b t = 0
          · rw [beq_iff.mpr hb]
            show _ = trS a b m (p + 1) v (dig c) * fcN r'
            have hGc : GD a b (p + 1) (c + t * 8 ^ p) := by
              refine ⟨fun q hq => ?_, fun i j hi hj => ?_⟩
              · by_cases e : q = p
                · rw [e, d2 t ht8, h0, hb]
                · rw [d1 t q ht8 (by omega)]
                  exact hG.1 q (by omega)
              · by_cases e : i = p
                · rw [e, d2 t ht8, h0, hb, Nat.zero_testBit, Nat.zero_testBit]
                · rw [d1 t i ht8 (by omega), d1 t j ht8 (by omega)]
                  exact hG.2 i j (by omega) hj
            have hVc : ∀ s, s < 8 → (v.testBit s = true ↔ ∃ q, q < p + 1 ∧ a q ≠ 0 ∧ dig (c + t * 8 ^ p) q = s) := fun s hs => by
              rw [hV s hs]
              constructor
              · rintro ⟨q, h1, h2, h3⟩
                exact ⟨q, by omega, h2, by rw [d1 t q ht8 h1]; exact h3⟩
              · rintro ⟨q, h1, h2, h3⟩
                have hqp : q ≠ p := fun e => h2 (by rw [e]; exact h0)
                exact ⟨q, by omega, h2, by rw [d1 t q ht8 (by omega)] at h3; exact h3⟩
            have hRc : cnt (fun s => !(u ||| 2 ^ t).testBit s && Nat.beq (b s) 0) 8 0 0 = cnt (fun i => Nat.beq (a i) 0) m (p + 1) 0 := by
              have h1 := cnt_drop (f := fun s => !u.testBit s && Nat.beq (b s) 0) (s := t) (m := 8) (t := 0) (a := 0) (Nat.zero_le _) (by omega) (by
                show (!u.testBit t && Nat.beq (b t) 0) = true
                rw [hu, beq_iff.mpr hb]
                rfl)
              have h2 : cnt (fun s => !(u ||| 2 ^ t).testBit s && Nat.beq (b s) 0) 8 0 0 = cnt (fun y => if y = t then false else (!u.testBit y && Nat.beq (b y) 0)) 8 0 0 := cnt_cg 8 0 0 (fun s _ _ => by
                show (!(u ||| 2 ^ t).testBit s && Nat.beq (b s) 0) = if s = t then false else (!u.testBit s && Nat.beq (b s) 0)
                rw [Nat.testBit_or]
                by_cases e : s = t
                · rw [if_pos e, e, Nat.testBit_two_pow_self, Bool.or_true]
                  rfl
                · rw [if_neg e, Nat.testBit_two_pow_of_ne (fun h => e h.symm), Bool.or_false])
              rw [hR, hr1] at h1
              rw [h2, ← hr']
              have h1' : r' + 1 = cnt (fun y => if y = t then false else (!u.testBit y && Nat.beq (b y) 0)) 8 0 0 + 1 := h1
              omega
            rw [ih (p + 1) (u ||| 2 ^ t) (c + t * 8 ^ p) v (by omega) (code_lt hc ht8) hUc hGc hVc hRc, ← hr']
            congr 1
            exact trS_cg m (p + 1) v _ _ (fun q hq hq0 => d1 t q ht8 (by
              have : q ≠ p := fun e => hq0 (by rw [e]; exact h0)
              omega))
          · rw [show Nat.beq (b t) 0 = false by
              cases e : Nat.beq (b t) 0 with
              | false => rfl
              | true => exact absurd (beq_iff.mp e) hb]
            show _ = 0
            refine tS_bad hA hB m (p + 1) _ _ (by omega) (code_lt hc ht8) hUc (fun hG' => ?_)
            have h1 := hG'.1 p (by omega)
            rw [d2 t ht8, h0, (pc_0 (by omega)).mpr rfl] at h1
            exact hb ((pc_0 (hB.1 t ht8)).mp h1.symm)
      rw [sFr_cg 8 0 hterm, sFr_cnt, hR, hr1, fcN, Nat.mul_left_comm]
    · have h0b : ¬ Nat.beq (a p) 0 = true := fun h => h0 (beq_iff.mp h)
      have h0f : Nat.beq (a p) 0 = false := by
        cases e : Nat.beq (a p) 0 with
        | false => rfl
        | true => exact absurd e h0b
      rw [h0f] at hr
      have hr1 : cnt (fun i => Nat.beq (a i) 0) (m + 1) p 0 = r' := hr
      have hap : pcN (a p) ≠ 0 := fun h => h0 ((pc_0 (hA.1 p hp8)).mp h)
      rw [if_neg h0b, hr1, ← sFr_mul]
      refine sFr_cg 8 0 (fun t _ ht => ?_)
      have ht8 : t < 8 := by omega
      show (bif Nat.testBit u t then 0 else tS (alN a b) m (p + 1) (u ||| 2 ^ t) (c + t * 8 ^ p)) = (bif !v.testBit t && ftB a b (dig c) p t then trS a b m (p + 1) (v ||| 2 ^ t) (updN (dig c) p t) else 0) * fcN r'
      cases hu : Nat.testBit u t with
      | true =>
        show 0 = _
        have : (!v.testBit t && ftB a b (dig c) p t) = false := by
          cases e : (!v.testBit t && ftB a b (dig c) p t) with
          | false => rfl
          | true =>
            rw [Bool.and_eq_true, Bool.not_eq_true'] at e
            obtain ⟨e1, e2⟩ := e
            obtain ⟨q, hq, eq⟩ := (hU.1 t ht8).mp hu
            by_cases hq0 : a q = 0
            · have h1 := hG.1 q hq
              rw [hq0, eq, (pc_0 (by omega)).mpr rfl] at h1
              have h2 := (ftB_iff.mp e2).1
              rw [← h1] at h2
              exact absurd h2 hap
            · rw [(hV t ht8).mpr ⟨q, hq, hq0, eq⟩] at e1
              cases e1
        rw [this]
        exact (Nat.zero_mul _).symm
      | false =>
        show tS (alN a b) m (p + 1) (u ||| 2 ^ t) (c + t * 8 ^ p) = _
        have hUc := US_ch hU hc ht8 hu
        have hvt : v.testBit t = false := by
          cases e : v.testBit t with
          | false => rfl
          | true =>
            obtain ⟨q, hq, -, eq⟩ := (hV t ht8).mp e
            rw [(hU.1 t ht8).mpr ⟨q, hq, eq⟩] at hu
            cases hu
        rw [hvt]
        show _ = (bif ftB a b (dig c) p t then trS a b m (p + 1) (v ||| 2 ^ t) (updN (dig c) p t) else 0) * fcN r'
        cases hft : ftB a b (dig c) p t with
        | true =>
          obtain ⟨f1, f2⟩ := ftB_iff.mp hft
          show _ = trS a b m (p + 1) (v ||| 2 ^ t) (updN (dig c) p t) * fcN r'
          have hGc : GD a b (p + 1) (c + t * 8 ^ p) := by
            refine ⟨fun q hq => ?_, fun i j hi hj => ?_⟩
            · by_cases e : q = p
              · rw [e, d2 t ht8]; exact f1
              · rw [d1 t q ht8 (by omega)]
                exact hG.1 q (by omega)
            · by_cases e : i = p
              · rw [e] at hj ⊢
                rw [d2 t ht8, d1 t j ht8 hj]
                by_cases hj0 : a j = 0
                · have h1 := hG.1 j hj
                  rw [hj0, (pc_0 (by omega)).mpr rfl] at h1
                  have h2 := (pc_0 (hB.1 _ (dig_8 c j))).mp h1.symm
                  rw [hA.2.1 p j hp8 (by omega), hj0, Nat.zero_testBit, hB.2.1 t _ ht8 (dig_8 c j), h2, Nat.zero_testBit]
                · exact f2 j hj hj0
              · rw [d1 t i ht8 (by omega), d1 t j ht8 (by omega)]
                exact hG.2 i j (by omega) hj
          have hVc : ∀ s, s < 8 → ((v ||| 2 ^ t).testBit s = true ↔ ∃ q, q < p + 1 ∧ a q ≠ 0 ∧ dig (c + t * 8 ^ p) q = s) := fun s hs => by
            rw [Nat.testBit_or, Bool.or_eq_true, hV s hs]
            constructor
            · rintro (⟨q, h1, h2, h3⟩ | h)
              · exact ⟨q, by omega, h2, by rw [d1 t q ht8 h1]; exact h3⟩
              · refine ⟨p, by omega, h0, ?_⟩
                rw [d2 t ht8]
                by_cases e : t = s
                · exact e
                · rw [Nat.testBit_two_pow_of_ne e] at h; cases h
            · rintro ⟨q, h1, h2, h3⟩
              by_cases e : q = p
              · right
                rw [e, d2 t ht8] at h3
                rw [← h3, Nat.testBit_two_pow_self]
              · left
                exact ⟨q, by omega, h2, by rw [d1 t q ht8 (by omega)] at h3; exact h3⟩
          have hbt : Nat.beq (b t) 0 = false := by
            cases e : Nat.beq (b t) 0 with
            | false => rfl
            | true =>
              rw [beq_iff.mp e, (pc_0 (by omega)).mpr rfl] at f1
              exact absurd f1 hap
          have hRc : cnt (fun s => !(u ||| 2 ^ t).testBit s && Nat.beq (b s) 0) 8 0 0 = cnt (fun i => Nat.beq (a i) 0) m (p + 1) 0 := by
            rw [← hr', ← hr1, ← hR]
            refine cnt_cg 8 0 0 (fun s _ _ => ?_)
            show (!(u ||| 2 ^ t).testBit s && Nat.beq (b s) 0) = (!u.testBit s && Nat.beq (b s) 0)
            by_cases e : s = t
            · rw [e, hbt, Bool.and_false, Bool.and_false]
            · rw [Nat.testBit_or, Nat.testBit_two_pow_of_ne (fun h => e h.symm), Bool.or_false]
          rw [ih (p + 1) (u ||| 2 ^ t) (c + t * 8 ^ p) (v ||| 2 ^ t) (by omega) (code_lt hc ht8) hUc hGc hVc hRc, ← hr']
          congr 1
          refine trS_cg m (p + 1) _ _ _ (fun q hq hq0 => ?_)
          unfold updN
          by_cases e : q = p
          · rw [if_pos e, e, d2 t ht8]
          · rw [if_neg e, d1 t q ht8 (by omega)]
        | false =>
          show _ = 0 * fcN r'
          rw [Nat.zero_mul]
          refine tS_bad hA hB m (p + 1) _ _ (by omega) (code_lt hc ht8) hUc (fun hG' => ?_)
          rw [ftB_iff.mpr ⟨by have := hG'.1 p (by omega); rwa [d2 t ht8] at this, fun q hq _ => by have := hG'.2 p q (by omega) hq; rwa [d2 t ht8, d1 t q ht8 hq] at this⟩] at hft
          cases hft
/-- no numbering if the bare points are not as many -/
theorem bare_eq (hA : WG a) (hB : WG b) (hi : ∀ i j, i < 8 → j < 8 → g i = g j → i = j) (hm : ∀ i, i < 8 → g i < 8) (h : alB a b g 8 = true) : cnt (fun i => Nat.beq (a i) 0) 8 0 0 = cnt (fun i => Nat.beq (b i) 0) 8 0 0 := by
  rw [← cnt_perm (g := g) (fun i => Nat.beq (b i) 0) hi hm]
  refine cnt_cg 8 0 0 (fun i _ hi8 => ?_)
  show Nat.beq (a i) 0 = Nat.beq (b (g i)) 0
  have hd := al_deg hA hB hi hm h (i := i) (by omega)
  have h1 := pc_0 (hA.1 i (by omega))
  have h2 := pc_0 (hB.1 _ (hm i (by omega)))
  cases e : Nat.beq (a i) 0 with
  | true =>
    have h3 := h1.mpr (beq_iff.mp e)
    rw [hd] at h3
    exact (beq_iff.mpr (h2.mp h3)).symm
  | false =>
    cases e' : Nat.beq (b (g i)) 0 with
    | false => rfl
    | true =>
      have h3 := h2.mpr (beq_iff.mp e')
      rw [← hd] at h3
      rw [beq_iff.mpr (h1.mp h3)] at e
      cases e
theorem tS_none (hA : WG a) (hB : WG b) (hne : cnt (fun i => Nat.beq (a i) 0) 8 0 0 ≠ cnt (fun i => Nat.beq (b i) 0) 8 0 0) : ∀ (m p u c : Nat), p + m = 8 → c < 8 ^ p → US p u c → tS (alN a b) m p u c = 0 := by
  intro m
  induction m with
  | zero =>
    intro p u c hp hc hU
    have ep : p = 8 := by omega
    subst ep
    show (if alB a b (dig c) 8 = true then 1 else 0) = 0
    by_cases h : alB a b (dig c) 8 = true
    · exact absurd (bare_eq hA hB hU.2 (fun i _ => dig_8 c i) h) hne
    · rw [if_neg h]
  | succ m ih =>
    intro p u c hp hc hU
    rw [tS]
    refine sFr_0 8 0 (fun t _ ht => ?_)
    show (bif Nat.testBit u t then 0 else tS (alN a b) m (p + 1) (u ||| 2 ^ t) (c + t * 8 ^ p)) = 0
    cases hu : Nat.testBit u t with
    | true => rfl
    | false => exact ih (p + 1) _ _ (by omega) (code_lt hc (by omega)) (US_ch hU hc (by omega) hu)
end S84
