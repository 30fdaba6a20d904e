/-! ===== the law: its loop ===== -/
theorem sub_gt {L i : Nat} (hL : L ≤ 10000) (hi : i ≤ 10000) : nI L - nI 6 < nI i ↔ L < i + 6 := by
  rw [Int32.lt_iff_toInt_lt, Int32.toInt_sub, nI_toInt (by omega), nI_toInt (by omega), nI_toInt (by omega)]
  have e : ((L : Int) - ((6 : Nat) : Int)).bmod (2 ^ 32) = (L : Int) - 6 := by
    rw [Int.bmod_def]
    omega
  rw [e]
  omega
theorem lz_1 {c n : Nat} (h : c + 1000 * (n + 1) < 2147483648) : c + 1000 < 2147483648 := Nat.lt_of_le_of_lt (Nat.add_le_add_left (Nat.le_mul_of_pos_right 1000 (Nat.succ_pos n)) c) h
theorem lz_2 {c c' n : Nat} (h : c + 1000 * (n + 1) < 2147483648) (h' : c' ≤ c + 1000) : c' + 1000 * n < 2147483648 := by
  have e : c + 1000 * (n + 1) = c + 1000 + 1000 * n := by rw [Nat.mul_add, Nat.mul_one, Nat.add_comm (1000 * n) 1000, Nat.add_assoc]
  rw [e] at h
  exact Nat.lt_of_le_of_lt (Nat.add_le_add_right h' _) h
def lawPc (k : Nat) : Nat := ([188, 211, 254, 307, 350, 373, 436, 459, 482, 505, 538, 571, 604, 637, 660, 683, 706, 729, 762, 795, 818, 841, 864, 887, 930, 953, 976, 1009, 1032, 1055, 1078, 1121, 1144, 1157, 1196] : List Nat).getD k 1219
theorem law_cases : ∀ k, k < 35 → LawCase k (lawPc k)
  | 0, _ => law_case_0
  | 1, _ => law_case_1
  | 2, _ => law_case_2
  | 3, _ => law_case_3
  | 4, _ => law_case_4
  | 5, _ => law_case_5
  | 6, _ => law_case_6
  | 7, _ => law_case_7
  | 8, _ => law_case_8
  | 9, _ => law_case_9
  | 10, _ => law_case_10
  | 11, _ => law_case_11
  | 12, _ => law_case_12
  | 13, _ => law_case_13
  | 14, _ => law_case_14
  | 15, _ => law_case_15
  | 16, _ => law_case_16
  | 17, _ => law_case_17
  | 18, _ => law_case_18
  | 19, _ => law_case_19
  | 20, _ => law_case_20
  | 21, _ => law_case_21
  | 22, _ => law_case_22
  | 23, _ => law_case_23
  | 24, _ => law_case_24
  | 25, _ => law_case_25
  | 26, _ => law_case_26
  | 27, _ => law_case_27
  | 28, _ => law_case_28
  | 29, _ => law_case_29
  | 30, _ => law_case_30
  | 31, _ => law_case_31
  | 32, _ => law_case_32
  | 33, _ => law_case_33
  | 34, _ => law_case_34
  | n + 35, h => absurd h (by omega)
section LOOP
variable {X : mXs} {d : Nat} {Q : Option Value → mH → Prop}
theorem law_body {i c : Nat} {M : mM} (hL : X.1 ≤ 3072) (hi : i + 6 ≤ X.1) (hc : c + 1000 < 2147483648) (hI : Iv c M M) (K : ∀ c' M', c' ≤ c + 1000 → Iv c' M' M' → wp X (d + 50) f_law2 (344, 26090) 1219 (lsL i) [] (lay M') Q) : wp X (d + 50) f_law2 (344, 26090) 27 (lsL i) [] (lay M) Q := by
  refine wp_aload_n d_law_27 rfl rfl ?_
  refine wp_iload_n d_law_28 rfl rfl ?_
  refine wp_xald (k := 2) (j := i) (v := X.2 i) d_law_29 (by decide) (ix_nI (by omega)) (by show i < X.1; omega) rfl ?_
  refine wp_bipush (v := nI 63) d_law_30 rfl ?_
  refine wp_iand d_law_32 ?_
  obtain ⟨k, hk, e⟩ := and63 (X.2 i)
  rw [e]
  have et : (nI k).toInt = (k : Int) := nI_toInt (by omega)
  by_cases h : k < 35
  · have ho : ∃ off : Int, (#[155, 178, 221, 274, 317, 340, 403, 426, 449, 472, 505, 538, 571, 604, 627, 650, 673, 696, 729, 762, 785, 808, 831, 854, 897, 920, 943, 976, 999, 1022, 1045, 1088, 1111, 1124, 1163] : Array Int)[k]? = some off ∧ ((33 : Nat) : Int) + off = (lawPc k : Int) := by
      have key : ∀ k, k < 35 → ∃ off : Int, (#[155, 178, 221, 274, 317, 340, 403, 426, 449, 472, 505, 538, 571, 604, 627, 650, 673, 696, 729, 762, 785, 808, 831, 854, 897, 920, 943, 976, 999, 1022, 1045, 1088, 1111, 1124, 1163] : Array Int)[k]? = some off ∧ ((33 : Nat) : Int) + off = (lawPc k : Int)
        | 0, _ => ⟨_, rfl, rfl⟩
        | 1, _ => ⟨_, rfl, rfl⟩
        | 2, _ => ⟨_, rfl, rfl⟩
        | 3, _ => ⟨_, rfl, rfl⟩
        | 4, _ => ⟨_, rfl, rfl⟩
        | 5, _ => ⟨_, rfl, rfl⟩
        | 6, _ => ⟨_, rfl, rfl⟩
        | 7, _ => ⟨_, rfl, rfl⟩
        | 8, _ => ⟨_, rfl, rfl⟩
        | 9, _ => ⟨_, rfl, rfl⟩
        | 10, _ => ⟨_, rfl, rfl⟩
        | 11, _ => ⟨_, rfl, rfl⟩
        | 12, _ => ⟨_, rfl, rfl⟩
        | 13, _ => ⟨_, rfl, rfl⟩
        | 14, _ => ⟨_, rfl, rfl⟩
        | 15, _ => ⟨_, rfl, rfl⟩
        | 16, _ => ⟨_, rfl, rfl⟩
        | 17, _ => ⟨_, rfl, rfl⟩
        | 18, _ => ⟨_, rfl, rfl⟩
        | 19, _ => ⟨_, rfl, rfl⟩
        | 20, _ => ⟨_, rfl, rfl⟩
        | 21, _ => ⟨_, rfl, rfl⟩
        | 22, _ => ⟨_, rfl, rfl⟩
        | 23, _ => ⟨_, rfl, rfl⟩
        | 24, _ => ⟨_, rfl, rfl⟩
        | 25, _ => ⟨_, rfl, rfl⟩
        | 26, _ => ⟨_, rfl, rfl⟩
        | 27, _ => ⟨_, rfl, rfl⟩
        | 28, _ => ⟨_, rfl, rfl⟩
        | 29, _ => ⟨_, rfl, rfl⟩
        | 30, _ => ⟨_, rfl, rfl⟩
        | 31, _ => ⟨_, rfl, rfl⟩
        | 32, _ => ⟨_, rfl, rfl⟩
        | 33, _ => ⟨_, rfl, rfl⟩
        | 34, _ => ⟨_, rfl, rfl⟩
        | n + 35, h => absurd h (by omega)
      exact key k h
    obtain ⟨off, ho1, ho2⟩ := ho
    refine wp_tsIn (off := off) (lawPc k) d_law_33 (by rw [et]; omega) (by rw [et]; omega) (by rw [et, show ((k : Int) - 0).toNat = k by omega]; exact ho1) ho2 ?_
    exact law_cases k h X d i c M Q hL hi hc hI (fun M' h' => K _ M' (Nat.le_refl _) h')
  · refine wp_tsOut 1219 d_law_33 (by rw [et]; omega) rfl ?_
    exact K c M (by omega) hI
theorem law_loopz (hL : X.1 ≤ 3072) (hQ : ∀ M, Q (some (.int 1)) (lay M)) : ∀ (n i c : Nat) (M : mM), X.1 ≤ i + 6 * n → i ≤ 4000 → c + 1000 * n < 2147483648 → Iv c M M → wp X (d + 50) f_law2 (344, 26090) 18 (lsL i) [] (lay M) Q := by
  intro n
  induction n with
  | zero =>
    intro i c M h1 h2 h3 hI
    refine wp_iload_n d_law_18 rfl rfl ?_
    refine wp_aload_n d_law_19 rfl rfl ?_
    refine wp_xlen (k := 2) (v := nI X.1) d_law_20 (by decide) rfl ?_
    refine wp_bipush (v := nI 6) d_law_21 rfl ?_
    refine wp_isub d_law_23 ?_
    refine wp_icmp_gt 1225 d_law_24 rfl (fun _ => ?_) (fun h => absurd ((sub_gt (by omega) (by omega)).mpr (by omega)) h)
    refine wp_iconst (v := 1) d_law_1225 rfl ?_
    exact wp_iret d_law_1226 rfl rfl rfl (hQ M)
  | succ n ih =>
    intro i c M h1 h2 h3 hI
    refine wp_iload_n d_law_18 rfl rfl ?_
    refine wp_aload_n d_law_19 rfl rfl ?_
    refine wp_xlen (k := 2) (v := nI X.1) d_law_20 (by decide) rfl ?_
    refine wp_bipush (v := nI 6) d_law_21 rfl ?_
    refine wp_isub d_law_23 ?_
    refine wp_icmp_gt 1225 d_law_24 rfl (fun _ => ?_) (fun h => ?_)
    · refine wp_iconst (v := 1) d_law_1225 rfl ?_
      exact wp_iret d_law_1226 rfl rfl rfl (hQ M)
    · have hi : i + 6 ≤ X.1 := by
        have := mt (sub_gt (L := X.1) (i := i) (by omega) (by omega)).mpr h
        omega
      refine law_body hL hi (lz_1 h3) hI (fun c' M' hc' hI' => ?_)
      refine wp_iinc (v := nI (i + 6)) d_law_1219 rfl (by rw [← nadd]; rfl) ?_
      refine wp_goto 18 d_law_1222 rfl ?_
      exact ih (i + 6) c' M' (by omega) (by omega) (lz_2 h3 hc') hI'
end LOOP
