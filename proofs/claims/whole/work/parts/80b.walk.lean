/-! ===== the walk, block by block (the kernel checks it) ===== -/
theorem wk_s (m p u c x : Nat) : wk (m + 1) p u c x = foN (fun t x => bif Nat.testBit u t then x else wk m (p + 1) (u ||| 2 ^ t) (c + t * 8 ^ p) x) 8 0 x := rfl
theorem foN_8 (g : Nat → Nat → Nat) (x : Nat) : foN g 8 0 x = g 7 (g 6 (g 5 (g 4 (g 3 (g 2 (g 1 (g 0 x))))))) := rfl
set_option maxRecDepth 1000000 in
theorem wk_b0 : wk 7 (0 + 1) (0 ||| 2 ^ 0) (0 + 0 * 8 ^ 0) 16434825 = 16434818 := by decide +kernel
set_option maxRecDepth 1000000 in
theorem wk_b1 : wk 7 (0 + 1) (0 ||| 2 ^ 1) (0 + 1 * 8 ^ 0) 16434818 = 16434755 := by decide +kernel
set_option maxRecDepth 1000000 in
theorem wk_b2 : wk 7 (0 + 1) (0 ||| 2 ^ 2) (0 + 2 * 8 ^ 0) 16434755 = 16434244 := by decide +kernel
set_option maxRecDepth 1000000 in
theorem wk_b3 : wk 7 (0 + 1) (0 ||| 2 ^ 3) (0 + 3 * 8 ^ 0) 16434244 = 16430149 := by decide +kernel
set_option maxRecDepth 1000000 in
theorem wk_b4 : wk 7 (0 + 1) (0 ||| 2 ^ 4) (0 + 4 * 8 ^ 0) 16430149 = 16397382 := by decide +kernel
set_option maxRecDepth 1000000 in
theorem wk_b5 : wk 7 (0 + 1) (0 ||| 2 ^ 5) (0 + 5 * 8 ^ 0) 16397382 = 16135239 := by decide +kernel
set_option maxRecDepth 1000000 in
theorem wk_b6 : wk 7 (0 + 1) (0 ||| 2 ^ 6) (0 + 6 * 8 ^ 0) 16135239 = 14038088 := by decide +kernel
set_option maxRecDepth 1000000 in
theorem wk_b7 : wk 7 (0 + 1) (0 ||| 2 ^ 7) (0 + 7 * 8 ^ 0) 14038088 = 0 := by decide +kernel
theorem wk_all : wk 8 0 0 0 16434825 = 0 := by
  obtain ⟨g, hg⟩ : ∃ g : Nat → Nat → Nat, g = fun t x => bif Nat.testBit 0 t then x else wk 7 (0 + 1) (0 ||| 2 ^ t) (0 + t * 8 ^ 0) x := ⟨_, rfl⟩
  have e : ∀ t x, g t x = wk 7 (0 + 1) (0 ||| 2 ^ t) (0 + t * 8 ^ 0) x := by
    intro t x
    rw [hg]
    show (bif Nat.testBit 0 t then x else wk 7 (0 + 1) (0 ||| 2 ^ t) (0 + t * 8 ^ 0) x) = _
    rw [Nat.zero_testBit, cond_false]
  have w := wk_s 7 0 0 0 16434825
  rw [← hg, foN_8, e 0, wk_b0, e 1, wk_b1, e 2, wk_b2, e 3, wk_b3, e 4, wk_b4, e 5, wk_b5, e 6, wk_b6, e 7, wk_b7] at w
  exact w
