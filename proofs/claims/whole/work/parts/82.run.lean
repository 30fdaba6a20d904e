/-! ===== the model goes through all numberings ===== -/
section S82
variable {z : Nat} {N : mM} {a b : Nat → Nat}
def sFr (h : Nat → Nat) : Nat → Nat → Nat
  | 0, _ => 0
  | n + 1, t => h t + sFr h n (t + 1)
/-- a number of each leaf, over the tree -/
def tS (f : Nat → Nat) : Nat → Nat → Nat → Nat → Nat
  | 0, _, _, c => f c
  | m + 1, p, u, c => sFr (fun t => bif Nat.testBit u t then 0 else tS f m (p + 1) (u ||| 2 ^ t) (c + t * 8 ^ p)) 8 0
def alN (a b : Nat → Nat) (c : Nat) : Nat := if alB a b (dig c) 8 = true then 1 else 0
def XS (x : Nat) (N : mM) (bo : Bool) : Prop := (x = 0 → bo = false) ∧ (x ≠ 0 → bo = true ∧ PMm N (dig (x - 1)))
theorem run_leaf (hz : 100 ≤ z) {x c : Nat} {bo : Bool} (hx : x = c + 1) (hX : XS x N bo) (hV : VW N a b) : ∃ N' bo', (∀ fu k, L_Mod_wings_2 z (fu + 1) (nI k) bo N = L_Mod_wings_2 z fu (nI (k + alN a b c)) bo' N') ∧ XS (nxC c) N' bo' ∧ Fr [340] N N' := by
  obtain ⟨h1, h2⟩ := hX.2 (by omega)
  rw [hx, Nat.add_sub_cancel] at h2
  obtain ⟨N', g1, g2, g3⟩ := mm_next (z := z) hz (dig_8 c) h2
  refine ⟨N', !Nat.beq (upI (dig c) 7) 0, fun fu k => ?_, ?_, g3⟩
  · rw [h1, L_Mod_wings_2, if_pos rfl, mm_alike hz hV (dig_8 c) h2, ob1_ok, ob1_ok]
    unfold alN
    by_cases h : alB a b (dig c) 8 = true
    · rw [if_pos h, if_pos h, ob1_ok, g1, ob2_ok, nadd]
    · rw [if_neg h, if_neg h, ob1_ok, g1, ob2_ok, Nat.add_zero]
  · unfold nxC
    cases e : Nat.beq (upI (dig c) 7) 0 with
    | true => exact ⟨fun _ => rfl, fun h => absurd rfl h⟩
    | false =>
      refine ⟨fun h => by have h' : enc (nxG (dig c)) + 1 = 0 := h; omega, fun _ => ⟨rfl, ?_⟩⟩
      show PMm N' (dig (enc (nxG (dig c)) + 1 - 1))
      rw [Nat.add_sub_cancel]
      have hne : upI (dig c) 7 ≠ 0 := fun h => by rw [beq_iff.mpr h] at e; cases e
      intro j hj
      rw [g2 hne j hj, dig_enc (nxG_8 (dig_8 c)) hj]
theorem foN_fix {g : Nat → Nat → Nat} {y : Nat} : ∀ (n t : Nat), (∀ s, t ≤ s → s < t + n → g s y = y) → foN g n t y = y := by
  intro n
  induction n with
  | zero => intro t _; rfl
  | succ n ih =>
    intro t h
    rw [foN, h t (Nat.le_refl _) (by omega)]
    exact ih (t + 1) (fun s h1 h2 => h s (by omega) (by omega))
theorem code_lt {c p t : Nat} (hc : c < 8 ^ p) (ht : t < 8) : c + t * 8 ^ p < 8 ^ (p + 1) := by
  have h1 : 8 ^ (p + 1) = 8 ^ p * 8 := Nat.pow_succ 8 p
  have h2 : t * 8 ^ p ≤ 7 * 8 ^ p := Nat.mul_le_mul_right _ (by omega)
  omega
theorem wk_bad : ∀ (m p u c : Nat), p + m = 8 → c < 8 ^ p → wk m p u c badC = badC := by
  intro m
  induction m with
  | zero =>
    intro p u c hp hc
    have ep : p = 8 := by omega
    subst ep
    have h8 : (8 : Nat) ^ 8 = 16777216 := by decide
    rw [wk, bcond, if_neg (fun h => by have := beq_iff.mp h; unfold badC at this; omega)]
  | succ m ih =>
    intro p u c hp hc
    rw [wk_s]
    refine foN_fix 8 0 (fun s _ h2 => ?_)
    show (bif Nat.testBit u s then badC else wk m (p + 1) (u ||| 2 ^ s) (c + s * 8 ^ p) badC) = badC
    rw [bcond]
    split
    · rfl
    · exact ih (p + 1) _ _ (by omega) (code_lt hc (by omega))
theorem VW_fr {N' : mM} (h : VW N a b) (hF : Fr [340] N N') : VW N' a b := by
  unfold VW at *
  rw [hF 339 (by simp)]
  exact h
theorem run_tree (hz : 100 ≤ z) : ∀ (m p u c x : Nat) (N : mM) (bo : Bool), p + m = 8 → c < 8 ^ p → VW N a b → XS x N bo → wk m p u c x ≠ badC →
    ∃ d N' bo', d ≤ 8 ^ m ∧ (∀ fu k, L_Mod_wings_2 z (fu + d) (nI k) bo N = L_Mod_wings_2 z fu (nI (k + tS (alN a b) m p u c)) bo' N') ∧ XS (wk m p u c x) N' bo' ∧ Fr [340] N N' := by
  intro m
  induction m with
  | zero =>
    intro p u c x N bo hp hc hV hX hw
    rw [wk, bcond] at hw ⊢
    by_cases hx : Nat.beq x (c + 1) = true
    · rw [if_pos hx]
      obtain ⟨N', bo', g1, g2, g3⟩ := run_leaf hz (beq_iff.mp hx) hX hV
      exact ⟨1, N', bo', by decide, g1, g2, g3⟩
    · rw [if_neg hx] at hw
      exact absurd rfl hw
  | succ m ih =>
    intro p u c x N bo hp hc hV hX hw
    obtain ⟨g, hg⟩ : ∃ g : Nat → Nat → Nat, g = fun t x => bif Nat.testBit u t then x else wk m (p + 1) (u ||| 2 ^ t) (c + t * 8 ^ p) x := ⟨_, rfl⟩
    obtain ⟨h, hh⟩ : ∃ h : Nat → Nat, h = fun t => bif Nat.testBit u t then 0 else tS (alN a b) m (p + 1) (u ||| 2 ^ t) (c + t * 8 ^ p) := ⟨_, rfl⟩
    have hgb : ∀ s, s < 8 → g s badC = badC := fun s hs => by
      rw [hg]
      show (bif Nat.testBit u s then badC else wk m (p + 1) (u ||| 2 ^ s) (c + s * 8 ^ p) badC) = badC
      rw [bcond]
      split
      · rfl
      · exact wk_bad m (p + 1) _ _ (by omega) (code_lt hc hs)
    have inner : ∀ (n t x : Nat) (N : mM) (bo : Bool), t + n = 8 → VW N a b → XS x N bo → foN g n t x ≠ badC → ∃ d N' bo', d ≤ n * 8 ^ m ∧ (∀ fu k, L_Mod_wings_2 z (fu + d) (nI k) bo N = L_Mod_wings_2 z fu (nI (k + sFr h n t)) bo' N') ∧ XS (foN g n t x) N' bo' ∧ Fr [340] N N' := by
      intro n
      induction n with
      | zero =>
        intro t x N bo ht hV hX hw
        exact ⟨0, N, bo, Nat.zero_le _, fun fu k => rfl, hX, Fr_rf _ _⟩
      | succ n ihn =>
        intro t x N bo ht hV hX hw
        rw [foN] at hw ⊢
        have hx1 : g t x ≠ badC := fun e => by
          rw [e] at hw
          exact hw (foN_fix n (t + 1) (fun s h1 h2 => hgb s (by omega)))
        have emul : (n + 1) * 8 ^ m = n * 8 ^ m + 8 ^ m := Nat.succ_mul n (8 ^ m)
        by_cases hb : Nat.testBit u t = true
        · have e1 : g t x = x := by
            rw [hg]
            show (bif Nat.testBit u t then x else _) = x
            rw [hb]
            rfl
          have e2 : h t = 0 := by
            rw [hh]
            show (bif Nat.testBit u t then 0 else _) = 0
            rw [hb]
            rfl
          rw [e1] at hw ⊢
          obtain ⟨d, N', bo', q1, q2, q3, q4⟩ := ihn (t + 1) x N bo (by omega) hV hX hw
          exact ⟨d, N', bo', Nat.le_trans q1 (by rw [emul]; exact Nat.le_add_right _ _), fun fu k => by rw [sFr, e2, Nat.zero_add]; exact q2 fu k, q3, q4⟩
        · have e1 : g t x = wk m (p + 1) (u ||| 2 ^ t) (c + t * 8 ^ p) x := by
            rw [hg]
            show (bif Nat.testBit u t then x else wk m (p + 1) (u ||| 2 ^ t) (c + t * 8 ^ p) x) = _
            rw [bcond, if_neg hb]
          have e2 : h t = tS (alN a b) m (p + 1) (u ||| 2 ^ t) (c + t * 8 ^ p) := by
            rw [hh]
            show (bif Nat.testBit u t then 0 else tS (alN a b) m (p + 1) (u ||| 2 ^ t) (c + t * 8 ^ p)) = _
            rw [bcond, if_neg hb]
          rw [e1] at hw hx1 ⊢
          obtain ⟨d1, N1, bo1, p1, p2, p3, p4⟩ := ih (p + 1) (u ||| 2 ^ t) (c + t * 8 ^ p) x N bo (by omega) (code_lt hc (by omega)) hV hX hx1
          obtain ⟨d2, N', bo', q1, q2, q3, q4⟩ := ihn (t + 1) _ N1 bo1 (by omega) (VW_fr hV p4) p3 hw
          refine ⟨d1 + d2, N', bo', Nat.le_trans (Nat.add_le_add p1 q1) (by rw [emul, Nat.add_comm]; exact Nat.le_refl _), fun fu k => ?_, q3, Fr_tr p4 q4⟩
          rw [show fu + (d1 + d2) = fu + d2 + d1 by omega, p2, q2, sFr, e2, Nat.add_assoc]
    have hw' : foN g 8 0 x ≠ badC := by
      rw [hg]
      rwa [wk_s] at hw
    obtain ⟨d, N', bo', q1, q2, q3, q4⟩ := inner 8 0 x N bo (by omega) hV hX hw'
    refine ⟨d, N', bo', by rw [Nat.pow_succ]; omega, fun fu k => ?_, ?_, q4⟩
    · rw [q2 fu k, tS, hh]
    · rw [wk_s, ← hg]
      exact q3
theorem l_wings1 : ∀ (m k n : Nat) (N : mM), k + m = 8 → m < n → L_Mod_wings_1 z n (nI k) N = some (fil N 340 k 8 (fun j => nI j)) := by
  intro m
  induction m with
  | zero =>
    intro k n N hk hn
    obtain ⟨n, rfl⟩ : ∃ k, n = k + 1 := ⟨n - 1, by omega⟩
    rw [L_Mod_wings_1, if_neg (lF (by omega) (by omega)), fil_end (by omega)]
  | succ m ih =>
    intro k n N hk hn
    obtain ⟨n, rfl⟩ : ∃ k, n = k + 1 := ⟨n - 1, by omega⟩
    rw [L_Mod_wings_1, if_pos (lT (by omega) (by omega)), wa_ok (by omega) (by omega), ob1_ok, nadd, ih (k + 1) n _ (by omega) (by omega)]
    exact congrArg some (fil_step (g := fun j => nI j) (g' := fun j => nI j) (by omega) (fun _ _ _ => rfl))
theorem dig_id : ∀ j, j < 8 → dig 16434824 j = j := by decide
theorem mm_wings (hz : 20000000 ≤ z) (hV : VW N a b) (what : Int32) : ∃ N', F_Mod_wings z what N = some (if ¬ F_Rec_within what (nI 0) (nI 1) = true then -1 else if what = nI 1 then nI (tS (alN a b) 8 0 0 0) else if nI 0 < nI (tS (alN a b) 8 0 0 0) then nI 1 else nI 0, N') ∧ Fr [340] N N' := by
  unfold F_Mod_wings
  rw [isIn_eq]
  by_cases hw : ¬ F_Rec_within what (nI 0) (nI 1) = true
  · rw [if_pos hw, if_pos hw]
    exact ⟨N, rfl, Fr_rf _ _⟩
  · obtain ⟨N1, dN⟩ : ∃ N1, N1 = fil N 340 0 8 (fun j => nI j) := ⟨_, rfl⟩
    have f1 : Fr [340] N N1 := by rw [dN]; exact Fr_upR (Fr_rf _ _) (by simp)
    have hX : XS 16434825 N1 true := ⟨fun h => by omega, fun _ => ⟨rfl, fun j hj => by
      rw [show 16434825 - 1 = 16434824 from rfl, dig_id j hj, dN, fil_at, if_pos ⟨Nat.zero_le _, hj⟩]⟩⟩
    obtain ⟨d, N', bo', q1, q2, q3, q4⟩ := run_tree (z := z) (by omega) 8 0 0 0 16434825 N1 true (by omega) (by decide) (VW_fr hV f1) hX (by rw [wk_all]; decide)
    rw [wk_all] at q3
    have hbo := q3.1 rfl
    have h8 : (8 : Nat) ^ 8 = 16777216 := by decide
    obtain ⟨fu, hfu⟩ : ∃ fu, z = fu + 1 + d := ⟨z - 1 - d, by omega⟩
    have q5 := q2 (fu + 1) 0
    rw [← hfu, hbo, L_Mod_wings_2, if_neg Bool.false_ne_true, Nat.zero_add] at q5
    rw [if_neg hw, if_neg hw, l_wings1 8 0 z N (by omega) (by omega), ob1_ok, ← dN, show nI 0 = nI 0 from rfl, q5, ob3_ok]
    exact ⟨N', rfl, Fr_tr f1 q4⟩
end S82
