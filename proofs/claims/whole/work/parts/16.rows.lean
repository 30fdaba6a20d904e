/-! ===== Math, rows of lines, sums ===== -/
section S16
variable {X : mXs} {d : Nat} {M : mM} {w : Wd} {Q : Option Value → mH → Prop}
/-- a Rows object at r: width, most, its cells behind it -/
def isR (r wd mo : Nat) : Prop := SH[r]? = some (7, 0, [some (.int (nI wd)), some (.int (nI mo)), some (.ref (r + 1)), none]) ∧ SH[r + 1]? = some (0, wd * mo, []) ∧ 0 < wd ∧ wd ≤ 5 ∧ mo ≤ 150
def jMax (a b : Int32) : Int32 := if a < b then b else a
def jMin (a b : Int32) : Int32 := if b < a then b else a
/-- the rows r hold n lines L -/
def RR (M : mM) (r wd n : Nat) (L : Nat → Nat → Int32) : Prop := M r 3 = nI n ∧ ∀ j k, j < n → k < wd → M (r + 1) (wd * j + k) = L j k
theorem c_Math_max {a b : Int32} (h : Q (some (.int (jMax a b))) (lay M)) : Sp X d f_Math_max [.int a, .int b] (lay M) Q := by
  refine Sp_of rfl rfl (Nat.le_of_ble_eq_true rfl) ?_
  refine wp_iload_n d_Math_max_0 rfl rfl ?_
  refine wp_iload_n d_Math_max_1 rfl rfl ?_
  refine wq_icmp_lt 9 d_Math_max_2 rfl (fun h2 => ?_) (fun h2 => ?_)
  · refine wp_iload_n d_Math_max_9 rfl rfl ?_
    exact wp_iret d_Math_max_10 rfl rfl rfl (qE (by simp only [jMax, *, ↓reduceIte, not_false_eq_true]) h)
  · refine wp_iload_n d_Math_max_5 rfl rfl ?_
    refine wp_goto 10 d_Math_max_6 rfl ?_
    exact wp_iret d_Math_max_10 rfl rfl rfl (qE (by simp only [jMax, *, ↓reduceIte, not_false_eq_true]) h)
theorem c_Math_min {a b : Int32} (h : Q (some (.int (jMin a b))) (lay M)) : Sp X d f_Math_min [.int a, .int b] (lay M) Q := by
  refine Sp_of rfl rfl (Nat.le_of_ble_eq_true rfl) ?_
  refine wp_iload_n d_Math_min_0 rfl rfl ?_
  refine wp_iload_n d_Math_min_1 rfl rfl ?_
  refine wq_icmp_gt 9 d_Math_min_2 rfl (fun h2 => ?_) (fun h2 => ?_)
  · refine wp_iload_n d_Math_min_9 rfl rfl ?_
    exact wp_iret d_Math_min_10 rfl rfl rfl (qE (by simp only [jMin, *, ↓reduceIte, not_false_eq_true]) h)
  · refine wp_iload_n d_Math_min_5 rfl rfl ?_
    refine wp_goto 10 d_Math_min_6 rfl ?_
    exact wp_iret d_Math_min_10 rfl rfl rfl (qE (by simp only [jMin, *, ↓reduceIte, not_false_eq_true]) h)
theorem c_Rows_isFull {r wd mo k : Nat} (hr : isR r wd mo) (hn : M r 3 = nI k) (hk : k ≤ 150) (hm : mo ≤ 150) (h : Q (some (.int (bI (decide (mo ≤ k))))) (lay M)) : Sp X d f_Rows_isFull [.ref r] (lay M) Q := by
  refine Sp_of rfl rfl (Nat.le_of_ble_eq_true rfl) ?_
  refine wp_aload_n d_Rows_isFull_0 rfl rfl ?_
  refine wl_getI d_Rows_isFull_1 lf_Rows_7 hr.1 rfl hn ?_
  refine wp_aload_n d_Rows_isFull_4 rfl rfl ?_
  refine wl_getR d_Rows_isFull_5 lf_Rows_16 hr.1 rfl ?_
  refine wn_icmp_lt 15 d_Rows_isFull_8 rfl (by omega) (by omega) (fun h8 => ?_) (fun h8 => ?_)
  · refine wp_iconst d_Rows_isFull_15 (v := nI 0) rfl ?_
    exact wp_iret d_Rows_isFull_16 rfl rfl rfl (qF (by simp; omega) h)
  · refine wp_iconst d_Rows_isFull_11 (v := nI 1) rfl ?_
    refine wp_goto 16 d_Rows_isFull_12 rfl ?_
    exact wp_iret d_Rows_isFull_16 rfl rfl rfl (qT (by simp; omega) h)
end S16
