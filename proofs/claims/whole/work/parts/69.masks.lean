/-! ===== sets as masks of bits ===== -/
theorem nI_bv (a : Nat) : (nI a).toBitVec = BitVec.ofNat 32 a := rfl
theorem or_n (a b : Nat) : nI a ||| nI b = nI (a ||| b) := by
  apply Int32.toBitVec_inj.mp
  rw [Int32.toBitVec_or, nI_bv, nI_bv, nI_bv, BitVec.ofNat_or]
theorem and_n (a b : Nat) : nI a &&& nI b = nI (a &&& b) := by
  apply Int32.toBitVec_inj.mp
  rw [Int32.toBitVec_and, nI_bv, nI_bv, nI_bv, BitVec.ofNat_and]
theorem sh_k : ∀ k, k < 12 → nI k &&& 31 = nI k := by decide
theorem sm_k : ∀ k, k < 12 → ((nI k).toBitVec.smod 32).toNat = k := by decide
theorem shr_n {a k : Nat} (ha : a < 2147483648) (hk : k < 12) : jshr (nI a) (nI k) = nI (a >>> k) := by
  unfold jshr
  rw [sh_k k hk]
  apply Int32.toBitVec_inj.mp
  rw [Int32.toBitVec_shiftRight]
  show (nI a).toBitVec.sshiftRight ((nI k).toBitVec.smod 32).toNat = _
  have e1 : (nI a).toBitVec.toNat = a := by
    rw [nI_bv, BitVec.toNat_ofNat]
    exact Nat.mod_eq_of_lt (by omega)
  have h1 : (nI a).toBitVec.msb = false := by
    rw [BitVec.msb_eq_false_iff_two_mul_lt, e1]
    omega
  rw [sm_k k hk, BitVec.sshiftRight_eq_of_msb_false h1]
  apply BitVec.eq_of_toNat_eq
  rw [BitVec.toNat_ushiftRight, e1, nI_bv, BitVec.toNat_ofNat]
  have h2 : a >>> k ≤ a := Nat.shiftRight_le a k
  exact (Nat.mod_eq_of_lt (by omega)).symm
theorem tb_iff {a k : Nat} (ha : a < 2147483648) (hk : k < 12) : (jshr (nI a) (nI k) &&& nI 1 = nI 1) ↔ a.testBit k = true := by
  rw [shr_n ha hk, and_n, Nat.and_one_is_mod]
  have h1 : a >>> k % 2 < 2 := Nat.mod_lt _ (by omega)
  have h2 : a.testBit k = decide (a >>> k % 2 = 1) := by
    rw [Nat.testBit_eq_decide_div_mod_eq, Nat.shiftRight_eq_div_pow]
  rw [h2, decide_eq_true_eq]
  exact nI_inj (by omega) (by omega)
theorem has_n {a k : Nat} (ha : a < 2147483648) (hk : k < 12) : F_Mod_has (nI a) (nI k) = a.testBit k := by
  unfold F_Mod_has
  cases h : a.testBit k with
  | true => exact decide_eq_true ((tb_iff ha hk).mpr h)
  | false => exact decide_eq_false (fun h' => Bool.false_ne_true (h.symm.trans ((tb_iff ha hk).mp h')))
/-- the set of those below n for which q holds -/
def bld (q : Nat → Bool) : Nat → Nat
  | 0 => 0
  | n + 1 => bld q n ||| (if q n = true then 2 ^ n else 0)
theorem bld_lt {q : Nat → Bool} : ∀ n, bld q n < 2 ^ n := by
  intro n
  induction n with
  | zero => exact Nat.one_pos
  | succ n ih =>
    have h1 : 2 ^ (n + 1) = 2 ^ n * 2 := Nat.pow_succ 2 n
    have h2 : 0 < 2 ^ n := Nat.two_pow_pos n
    refine Nat.or_lt_two_pow (by omega) ?_
    split <;> omega
theorem bld_bit {q : Nat → Bool} : ∀ n k, (bld q n).testBit k = (decide (k < n) && q k) := by
  intro n
  induction n with
  | zero => intro k; rw [bld, Nat.zero_testBit, decide_eq_false (Nat.not_lt_zero k), Bool.false_and]
  | succ n ih =>
    intro k
    rw [bld, Nat.testBit_or, ih]
    by_cases h : k = n
    · subst h
      rw [decide_eq_false (Nat.lt_irrefl k), decide_eq_true (Nat.lt_succ_self k), Bool.false_and, Bool.true_and, Bool.false_or]
      cases hq : q k with
      | true => rw [if_pos rfl, Nat.testBit_two_pow_self]
      | false => rw [if_neg Bool.false_ne_true, Nat.zero_testBit]
    · have e : (if q n = true then 2 ^ n else 0).testBit k = false := by
        split
        · exact Nat.testBit_two_pow_of_ne (fun e => h e.symm)
        · exact Nat.zero_testBit k
      rw [e, Bool.or_false]
      congr 1
      exact decide_eq_decide.mpr (by omega)
theorem bld_cg {q q' : Nat → Bool} : ∀ n, (∀ k, k < n → q' k = q k) → bld q' n = bld q n := by
  intro n
  induction n with
  | zero => intro _; rfl
  | succ n ih =>
    intro h
    rw [bld, bld, ih (fun k hk => h k (by omega)), h n (by omega)]
/-- two masks of twelve bits are one if their bits are -/
theorem mask_eq {a b : Nat} (ha : a < 4096) (hb : b < 4096) (h : ∀ k, k < 12 → a.testBit k = b.testBit k) : a = b := by
  apply Nat.eq_of_testBit_eq
  intro i
  by_cases hi : i < 12
  · exact h i hi
  · have h2 : 2 ^ 12 ≤ 2 ^ i := Nat.pow_le_pow_right (by omega) (by omega)
    rw [Nat.testBit_lt_two_pow (show a < 2 ^ i by omega), Nat.testBit_lt_two_pow (show b < 2 ^ i by omega)]
theorem mask_0 {a : Nat} (ha : a < 4096) : a = 0 ↔ ∀ k, k < 12 → a.testBit k = false := by
  constructor
  · intro h k _
    rw [h, Nat.zero_testBit]
  · intro h
    exact mask_eq ha (by omega) (fun k hk => by rw [h k hk, Nat.zero_testBit])
theorem mask_bld {a : Nat} (ha : a < 4096) : bld (fun k => a.testBit k) 12 = a :=
  mask_eq (bld_lt 12) ha (fun k hk => by rw [bld_bit, decide_eq_true hk, Bool.true_and])
def notOk (c : Nat) : Bool := decide (nI 4095 &&& (nI c ^^^ (-1)) = nI (4095 ^^^ c))
set_option maxRecDepth 100000 in
theorem not_all : allB notOk 12 0 = true := by decide +kernel
theorem not_n {c : Nat} (h : c < 4096) : nI 4095 &&& (nI c ^^^ (-1)) = nI (4095 ^^^ c) := of_decide_eq_true (allB_ok 12 0 not_all c (by omega) (by omega))
theorem full_bit {k : Nat} (h : k < 12) : (4095 : Nat).testBit k = true := by
  rw [show (4095 : Nat) = 2 ^ 12 - 1 from rfl, Nat.testBit_two_pow_sub_one, decide_eq_true h]
