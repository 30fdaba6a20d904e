/-! methods as functions: printed by program -/
section S145
variable {X : mXs} {d z : Nat} {Q : Option Value → mH → Prop}
def F_Reader_addToken (sort_ : Int32) (value_ : Int32) (place_ : Int32) (M : mM) : Option mM :=
  if ¬ ((nI 400) < (M 100 10)) then
  ob1 (wa M 105 401 (M 100 10) sort_) fun M2 =>
  ob1 (wa M2 106 401 (M2 100 10) value_) fun M4 =>
  ob1 (wa M4 107 401 (M4 100 10) place_) fun M6 =>
  ob1 (some (up M6 100 10 ((M6 100 10) + (nI 1)))) fun M7 =>
  some M7
  else
  some M
theorem s_Reader_addToken {sort_ : Int32} {value_ : Int32} {place_ : Int32} {M : mM} {M' : mM} (h : F_Reader_addToken sort_ value_ place_ M = some M') (hq : Q none (lay M')) : Sp X d f_Reader_addToken [.ref 100, .int sort_, .int value_, .int place_] (lay M) Q := by
  refine Sp_of (by decide) rfl (Nat.le_of_ble_eq_true rfl) ?_
  refine wp_aload_n d_Reader_addToken_0 rfl rfl ?_
  refine wl_getI d_Reader_addToken_1 lf_Reader_49 sh_100 rfl rfl ?_
  refine wp_sipush d_Reader_addToken_4 (v := nI 400) rfl ?_
  refine wq_icmp_gt 50 d_Reader_addToken_7 rfl (fun h7 => ?_) (fun h7 => ?_)
  · replace h := inn h (fun z => z h7)
    cases h
    exact wp_ret d_Reader_addToken_50 rfl rfl hq
  · replace h := ip h h7
    refine wp_aload_n d_Reader_addToken_10 rfl rfl ?_
    refine wl_getR d_Reader_addToken_11 lf_Reader_40 sh_100 rfl ?_
    refine wp_aload_n d_Reader_addToken_14 rfl rfl ?_
    refine wl_getI d_Reader_addToken_15 lf_Reader_49 sh_100 rfl rfl ?_
    refine wp_iload_n d_Reader_addToken_18 rfl rfl ?_
    obtain ⟨M2, e1, h⟩ := ob1_some h
    refine wa_ast d_Reader_addToken_19 sh_105 e1 ?_
    refine wp_aload_n d_Reader_addToken_20 rfl rfl ?_
    refine wl_getR d_Reader_addToken_21 lf_Reader_43 sh_100 rfl ?_
    refine wp_aload_n d_Reader_addToken_24 rfl rfl ?_
    refine wl_getI d_Reader_addToken_25 lf_Reader_49 sh_100 rfl rfl ?_
    refine wp_iload_n d_Reader_addToken_28 rfl rfl ?_
    obtain ⟨M4, e3, h⟩ := ob1_some h
    refine wa_ast d_Reader_addToken_29 sh_106 e3 ?_
    refine wp_aload_n d_Reader_addToken_30 rfl rfl ?_
    refine wl_getR d_Reader_addToken_31 lf_Reader_46 sh_100 rfl ?_
    refine wp_aload_n d_Reader_addToken_34 rfl rfl ?_
    refine wl_getI d_Reader_addToken_35 lf_Reader_49 sh_100 rfl rfl ?_
    refine wp_iload_n d_Reader_addToken_38 rfl rfl ?_
    obtain ⟨M6, e5, h⟩ := ob1_some h
    refine wa_ast d_Reader_addToken_39 sh_107 e5 ?_
    refine wp_aload_n d_Reader_addToken_40 rfl rfl ?_
    refine wp_dup d_Reader_addToken_41 rfl ?_
    refine wl_getI d_Reader_addToken_42 lf_Reader_49 sh_100 rfl rfl ?_
    refine wp_iconst d_Reader_addToken_45 (v := nI 1) rfl ?_
    refine wp_iadd d_Reader_addToken_46 ?_
    refine wl_put d_Reader_addToken_47 lp_Reader_49 sh_100 rfl ⟨rfl, rfl⟩ ?_
    obtain ⟨M7, e8, h⟩ := ob1_some h
    refine wx_M e8 ?_
    cases h
    exact wp_ret d_Reader_addToken_50 rfl rfl hq
def F_Reader_isDigit (c_ : Int32) : Bool :=
  decide ((¬ (c_ < (nI 48)) ∧ ¬ ((nI 57) < c_)))
theorem s_Reader_isDigit {c_ : Int32} {M : mM} {r : Bool} (h : F_Reader_isDigit c_ = r) (hq : Q (some (.int (bI r))) (lay M)) : Sp X d f_Reader_isDigit [.int c_] (lay M) Q := by
  refine Sp_of (by decide) rfl (Nat.le_of_ble_eq_true rfl) ?_
  have k1 : wp X d f_Reader_isDigit (0, 0) 17 [.int c_] [.int (bI (decide ((¬ (c_ < (nI 48)) ∧ ¬ ((nI 57) < c_)))))] (lay M) Q := by
    cases h
    exact wb_iret d_Reader_isDigit_17 rfl rfl hq
  refine wp_iload_n d_Reader_isDigit_0 rfl rfl ?_
  refine wp_bipush d_Reader_isDigit_1 (v := nI 48) rfl ?_
  refine wq_icmp_lt 16 d_Reader_isDigit_3 rfl (fun h3 => ?_) (fun h3 => ?_)
  · refine wp_iconst d_Reader_isDigit_16 (v := nI 0) rfl ?_
    exact wj_f (fun z => (fun z => z h3) z.1) (k1)
  · refine wp_iload_n d_Reader_isDigit_6 rfl rfl ?_
    refine wp_bipush d_Reader_isDigit_7 (v := nI 57) rfl ?_
    refine wq_icmp_gt 16 d_Reader_isDigit_9 rfl (fun h9 => ?_) (fun h9 => ?_)
    · refine wp_iconst d_Reader_isDigit_16 (v := nI 0) rfl ?_
      exact wj_f (fun z => (fun z => z h9) z.2) (k1)
    · refine wp_iconst d_Reader_isDigit_12 (v := nI 1) rfl ?_
      refine wp_goto 17 d_Reader_isDigit_13 rfl ?_
      exact wj_t ⟨h3, h9⟩ (k1)
def F_Reader_isLetter (c_ : Int32) : Bool :=
  decide (((¬ (c_ < (nI 97)) ∧ ¬ ((nI 122) < c_)) ∨ (¬ (c_ < (nI 65)) ∧ ¬ ((nI 90) < c_))))
theorem s_Reader_isLetter {c_ : Int32} {M : mM} {r : Bool} (h : F_Reader_isLetter c_ = r) (hq : Q (some (.int (bI r))) (lay M)) : Sp X d f_Reader_isLetter [.int c_] (lay M) Q := by
  refine Sp_of (by decide) rfl (Nat.le_of_ble_eq_true rfl) ?_
  have k1 : wp X d f_Reader_isLetter (0, 0) 29 [.int c_] [.int (bI (decide (((¬ (c_ < (nI 97)) ∧ ¬ ((nI 122) < c_)) ∨ (¬ (c_ < (nI 65)) ∧ ¬ ((nI 90) < c_))))))] (lay M) Q := by
    cases h
    exact wb_iret d_Reader_isLetter_29 rfl rfl hq
  refine wp_iload_n d_Reader_isLetter_0 rfl rfl ?_
  refine wp_bipush d_Reader_isLetter_1 (v := nI 97) rfl ?_
  refine wq_icmp_lt 12 d_Reader_isLetter_3 rfl (fun h3 => ?_) (fun h3 => ?_)
  · refine wp_iload_n d_Reader_isLetter_12 rfl rfl ?_
    refine wp_bipush d_Reader_isLetter_13 (v := nI 65) rfl ?_
    refine wq_icmp_lt 28 d_Reader_isLetter_15 rfl (fun h15 => ?_) (fun h15 => ?_)
    · refine wp_iconst d_Reader_isLetter_28 (v := nI 0) rfl ?_
      exact wj_f (fun z => z.elim (fun z => (fun z => z h3) z.1) (fun z => (fun z => z h15) z.1)) (k1)
    · refine wp_iload_n d_Reader_isLetter_18 rfl rfl ?_
      refine wp_bipush d_Reader_isLetter_19 (v := nI 90) rfl ?_
      refine wq_icmp_gt 28 d_Reader_isLetter_21 rfl (fun h21 => ?_) (fun h21 => ?_)
      · refine wp_iconst d_Reader_isLetter_28 (v := nI 0) rfl ?_
        exact wj_f (fun z => z.elim (fun z => (fun z => z h3) z.1) (fun z => (fun z => z h21) z.2)) (k1)
      · refine wp_iconst d_Reader_isLetter_24 (v := nI 1) rfl ?_
        refine wp_goto 29 d_Reader_isLetter_25 rfl ?_
        exact wj_t (Or.inr ⟨h15, h21⟩) (k1)
  · refine wp_iload_n d_Reader_isLetter_6 rfl rfl ?_
    refine wp_bipush d_Reader_isLetter_7 (v := nI 122) rfl ?_
    refine wq_icmp_le 24 d_Reader_isLetter_9 rfl (fun h9 => ?_) (fun h9 => ?_)
    · refine wp_iconst d_Reader_isLetter_24 (v := nI 1) rfl ?_
      refine wp_goto 29 d_Reader_isLetter_25 rfl ?_
      exact wj_t (Or.inl ⟨h3, h9⟩) (k1)
    · refine wp_iload_n d_Reader_isLetter_12 rfl rfl ?_
      refine wp_bipush d_Reader_isLetter_13 (v := nI 65) rfl ?_
      refine wq_icmp_lt 28 d_Reader_isLetter_15 rfl (fun h15 => ?_) (fun h15 => ?_)
      · refine wp_iconst d_Reader_isLetter_28 (v := nI 0) rfl ?_
        exact wj_f (fun z => z.elim (fun z => (fun z => z h9) z.2) (fun z => (fun z => z h15) z.1)) (k1)
      · refine wp_iload_n d_Reader_isLetter_18 rfl rfl ?_
        refine wp_bipush d_Reader_isLetter_19 (v := nI 90) rfl ?_
        refine wq_icmp_gt 28 d_Reader_isLetter_21 rfl (fun h21 => ?_) (fun h21 => ?_)
        · refine wp_iconst d_Reader_isLetter_28 (v := nI 0) rfl ?_
          exact wj_f (fun z => z.elim (fun z => (fun z => z h9) z.2) (fun z => (fun z => z h21) z.2)) (k1)
        · refine wp_iconst d_Reader_isLetter_24 (v := nI 1) rfl ?_
          refine wp_goto 29 d_Reader_isLetter_25 rfl ?_
          exact wj_t (Or.inr ⟨h15, h21⟩) (k1)
def L_Reader_stands_1 (z : Nat) (start_ : Int32) (from_ : Int32) (to_ : Int32) (M : mM) (kt : Option (Bool)) : Nat → Int32 → Option (Bool)
  | 0, _ => none
  | n + 1, i_ =>
    if i_ < to_ then
    ob1 (ob1 (chA0 ((start_ + i_) - from_)) fun v11 =>
    ob1 (ra M 101 400 i_) fun v14 =>
    some (decide (¬ (v11 = v14)))) fun x1 =>
    if x1 = true then
    some (false)
    else
    L_Reader_stands_1 z start_ from_ to_ M kt n (i_ + nI 1)
    else
    kt 
def F_Reader_stands (z : Nat) (start_ : Int32) (from_ : Int32) (to_ : Int32) (M : mM) : Option (Bool) :=
  L_Reader_stands_1 z start_ from_ to_ M (some (true)) z from_
theorem l_Reader_stands_1 {start_ : Int32} {from_ : Int32} {to_ : Int32} {M : mM} {kt : Option (Bool)}  {r : Bool} (hq : Q (some (.int (bI r))) (lay M)) (K : ∀  (u4 : Value), kt  = some r → wp X (d + 6) f_Reader_stands (0, 0) 38 [.ref 100, .int start_, .int from_, .int to_, u4] [] (lay M) Q) : ∀ (n : Nat) (i_ : Int32), L_Reader_stands_1 z start_ from_ to_ M kt n i_ = some r → wp X (d + 6) f_Reader_stands (0, 0) 3 [.ref 100, .int start_, .int from_, .int to_, .int i_] [] (lay M) Q := by
  intro n
  induction n with
  | zero => intro i_ h; exact nn h
  | succ n ih =>
    intro i_ h
    refine wp_iload d_Reader_stands_3 rfl ?_
    refine wp_iload_n d_Reader_stands_5 rfl rfl ?_
    refine wq_icmp_ge 38 d_Reader_stands_6 rfl (fun h6 => ?_) (fun h6 => ?_)
    · replace h := inn h h6
      exact K _ h
    · replace h := ip h h6
      obtain ⟨x1, e2, h⟩ := ob1_some h
      have k7 : x1 = true → wp X (d + 6) f_Reader_stands (0, 0) 30 [.ref 100, .int start_, .int from_, .int to_, .int i_] [] (lay M) Q := by
        intro x8
        replace h := ip h x8
        refine wp_iconst d_Reader_stands_30 (v := bI false) rfl ?_
        cases h
        exact wb_iret d_Reader_stands_31 rfl rfl hq
      have k9 : ¬ x1 = true → wp X (d + 6) f_Reader_stands (0, 0) 32 [.ref 100, .int start_, .int from_, .int to_, .int i_] [] (lay M) Q := by
        intro x10
        replace h := inn h x10
        refine wp_iinc d_Reader_stands_32 (v := i_ + nI 1) rfl rfl ?_
        refine wp_goto 3 d_Reader_stands_35 rfl ?_
        exact ih _ h
      refine wx_ldc0 d_Reader_stands_9 rfl ?_
      refine wp_iload_n d_Reader_stands_11 rfl rfl ?_
      refine wp_iload d_Reader_stands_12 rfl ?_
      refine wp_iadd d_Reader_stands_14 ?_
      refine wp_iload_n d_Reader_stands_15 rfl rfl ?_
      refine wp_isub d_Reader_stands_16 ?_
      obtain ⟨v11, e12, e2⟩ := ob1_some e2
      refine wx_chA0 (d := d) d_Reader_stands_17 lv_Reader_112 e12 rfl ⟨by decide, by decide⟩ ?_
      refine wp_aload_n d_Reader_stands_20 rfl rfl ?_
      refine wl_getR d_Reader_stands_21 lf_Reader_9 sh_100 rfl ?_
      refine wp_iload d_Reader_stands_24 rfl ?_
      obtain ⟨v14, e13, e2⟩ := ob1_some e2
      refine wa_ald d_Reader_stands_26 sh_101 e13 ?_
      refine wq_icmp_eq 32 d_Reader_stands_27 rfl (fun h27 => ?_) (fun h27 => ?_)
      · cases e2
        exact k9 (fun z => (fun z => z h27) (of_decide_eq_true z))
      · cases e2
        exact k7 (decide_eq_true h27)
theorem s_Reader_stands {start_ : Int32} {from_ : Int32} {to_ : Int32} {M : mM} {r : Bool} (h : F_Reader_stands z start_ from_ to_ M = some r) (hq : Q (some (.int (bI r))) (lay M)) : Sp X (d + 6) f_Reader_stands [.ref 100, .int start_, .int from_, .int to_] (lay M) Q := by
  refine Sp_of (by decide) rfl (Nat.le_of_ble_eq_true rfl) ?_
  refine wp_iload_n d_Reader_stands_0 rfl rfl ?_
  refine wp_istore d_Reader_stands_1 (by decide) ?_
  refine l_Reader_stands_1 hq ?_ _ _ h
  intro u4 h
  refine wp_iconst d_Reader_stands_38 (v := bI true) rfl ?_
  cases h
  exact wb_iret d_Reader_stands_39 rfl rfl hq
def L_Reader_wordAt_1 (z : Nat) (from_ : Int32) (to_ : Int32) (M : mM) (kt : Int32 → Int32 → Option (Int32)) : Nat → Int32 → Int32 → Int32 → Option (Int32)
  | 0, _, _, _ => none
  | n + 1, word_, start_, i_ =>
    ob1 (some (decide (i_ < (nI 142)))) fun x1 =>
    if x1 = true then
    jn (fun (word_26 : Int32) (start_27 : Int32) =>
    L_Reader_wordAt_1 z from_ to_ M kt n word_26 start_27 (i_ + nI 1)) fun kj28 =>
    ob1 (ob1 (chA0 i_) fun v47 =>
    some (decide (v47 = (nI 32)))) fun x29 =>
    if x29 = true then
    ob1 (if (i_ - start_) = (to_ - from_) then ob1 (F_Reader_stands z start_ from_ to_ M) fun v43 =>
    some (v43)
    else some (false)) fun x35 =>
    if x35 = true then
    some (word_)
    else
    kj28 (word_ + nI 1) (i_ + (nI 1))
    else
    kj28 word_ start_
    else
    kt word_ start_
def F_Reader_wordAt (z : Nat) (from_ : Int32) (to_ : Int32) (M : mM) : Option (Int32) :=
  L_Reader_wordAt_1 z from_ to_ M (fun (word_51 : Int32) (start_52 : Int32) =>
  some ((-1))) z (nI 0) (nI 0) (nI 0)
theorem l_Reader_wordAt_1 {from_ : Int32} {to_ : Int32} {M : mM} {kt : Int32 → Int32 → Option (Int32)}  {r : Int32} (hq : Q (some (.int r)) (lay M)) (K : ∀ (word_r : Int32) (start_r : Int32) (u5 : Value), kt word_r start_r = some r → wp X (d + 7) f_Reader_wordAt (0, 0) 69 [.ref 100, .int from_, .int to_, .int word_r, .int start_r, u5] [] (lay M) Q) : ∀ (n : Nat) (word_ : Int32) (start_ : Int32) (i_ : Int32), L_Reader_wordAt_1 z from_ to_ M kt n word_ start_ i_ = some r → wp X (d + 7) f_Reader_wordAt (0, 0) 8 [.ref 100, .int from_, .int to_, .int word_, .int start_, .int i_] [] (lay M) Q := by
  intro n
  induction n with
  | zero => intro word_ start_ i_ h; exact nn h
  | succ n ih =>
    intro word_ start_ i_ h
    obtain ⟨x1, e2, h⟩ := ob1_some h
    have k3 : x1 = true → wp X (d + 7) f_Reader_wordAt (0, 0) 18 [.ref 100, .int from_, .int to_, .int word_, .int start_, .int i_] [] (lay M) Q := by
      intro x4
      replace h := ip h x4
      have k25 : ∀ (word_26 : Int32) (start_27 : Int32), (fun (word_26 : Int32) (start_27 : Int32) =>
      L_Reader_wordAt_1 z from_ to_ M kt n word_26 start_27 (i_ + nI 1)) word_26 start_27 = some r → wp X (d + 7) f_Reader_wordAt (0, 0) 63 [.ref 100, .int from_, .int to_, .int word_26, .int start_27, .int i_] [] (lay M) Q := by
        intro word_26 start_27 h
        refine wp_iinc d_Reader_wordAt_63 (v := i_ + nI 1) rfl rfl ?_
        refine wp_goto 8 d_Reader_wordAt_66 rfl ?_
        exact ih _ _ _ h
      obtain ⟨x29, e30, h⟩ := ob1_some h
      have k33 : x29 = true → wp X (d + 7) f_Reader_wordAt (0, 0) 30 [.ref 100, .int from_, .int to_, .int word_, .int start_, .int i_] [] (lay M) Q := by
        intro x34
        replace h := ip h x34
        obtain ⟨x35, e36, h⟩ := ob1_some h
        have k39 : x35 = true → wp X (d + 7) f_Reader_wordAt (0, 0) 52 [.ref 100, .int from_, .int to_, .int word_, .int start_, .int i_] [] (lay M) Q := by
          intro x40
          replace h := ip h x40
          refine wp_iload_n d_Reader_wordAt_52 rfl rfl ?_
          cases h
          exact wp_iret d_Reader_wordAt_53 rfl rfl rfl hq
        have k41 : ¬ x35 = true → wp X (d + 7) f_Reader_wordAt (0, 0) 54 [.ref 100, .int from_, .int to_, .int word_, .int start_, .int i_] [] (lay M) Q := by
          intro x42
          replace h := inn h x42
          refine wp_iinc d_Reader_wordAt_54 (v := word_ + nI 1) rfl rfl ?_
          refine wp_iload d_Reader_wordAt_57 rfl ?_
          refine wp_iconst d_Reader_wordAt_59 (v := nI 1) rfl ?_
          refine wp_iadd d_Reader_wordAt_60 ?_
          refine wp_istore d_Reader_wordAt_61 (by decide) ?_
          exact k25 _ _ h
        refine wp_iload d_Reader_wordAt_30 rfl ?_
        refine wp_iload d_Reader_wordAt_32 rfl ?_
        refine wp_isub d_Reader_wordAt_34 ?_
        refine wp_iload_n d_Reader_wordAt_35 rfl rfl ?_
        refine wp_iload_n d_Reader_wordAt_36 rfl rfl ?_
        refine wp_isub d_Reader_wordAt_37 ?_
        refine wq_icmp_ne 54 d_Reader_wordAt_38 rfl (fun h38 => ?_) (fun h38 => ?_)
        · replace e36 := inn e36 h38
          cases e36
          exact k41 (fun z => Bool.noConfusion z)
        · replace e36 := ip e36 h38
          refine wp_aload_n d_Reader_wordAt_41 rfl rfl ?_
          refine wp_iload d_Reader_wordAt_42 rfl ?_
          refine wp_iload_n d_Reader_wordAt_44 rfl rfl ?_
          refine wp_iload_n d_Reader_wordAt_45 rfl rfl ?_
          obtain ⟨v43, e44, e36⟩ := ob1_some e36
          refine wl_callV3 d_Reader_wordAt_46 lc_Reader_stands lv_Reader_116 rfl sh_100 rfl rfl ⟨rfl, rfl⟩ ⟨by decide, by decide⟩ ?_
          refine s_Reader_stands (d := d) e44 ?_
          refine wc_eq 54 d_Reader_wordAt_49 rfl (fun h49 => ?_) (fun h49 => ?_)
          · cases e36
            exact k41 h49
          · cases e36
            exact k39 h49
      have k45 : ¬ x29 = true → wp X (d + 7) f_Reader_wordAt (0, 0) 63 [.ref 100, .int from_, .int to_, .int word_, .int start_, .int i_] [] (lay M) Q := by
        intro x46
        replace h := inn h x46
        exact k25 _ _ h
      refine wx_ldc0 d_Reader_wordAt_18 rfl ?_
      refine wp_iload d_Reader_wordAt_20 rfl ?_
      obtain ⟨v47, e48, e30⟩ := ob1_some e30
      refine wx_chA0 (d := d + 1) d_Reader_wordAt_22 lv_Reader_112 e48 rfl ⟨by decide, by decide⟩ ?_
      refine wp_bipush d_Reader_wordAt_25 (v := nI 32) rfl ?_
      refine wq_icmp_ne 63 d_Reader_wordAt_27 rfl (fun h27 => ?_) (fun h27 => ?_)
      · cases e30
        exact k45 (fun z => h27 (of_decide_eq_true z))
      · cases e30
        exact k33 (decide_eq_true h27)
    have k49 : ¬ x1 = true → wp X (d + 7) f_Reader_wordAt (0, 0) 69 [.ref 100, .int from_, .int to_, .int word_, .int start_, .int i_] [] (lay M) Q := by
      intro x50
      replace h := inn h x50
      exact K _ _ _ h
    refine wp_iload d_Reader_wordAt_8 rfl ?_
    refine wx_ldc0 d_Reader_wordAt_10 rfl ?_
    refine wx_len0 (d := d + 1) d_Reader_wordAt_12 lv_Reader_109 rfl ⟨by decide, by decide⟩ ?_
    refine wq_icmp_ge 69 d_Reader_wordAt_15 rfl (fun h15 => ?_) (fun h15 => ?_)
    · cases e2
      exact k49 (fun z => h15 (of_decide_eq_true z))
    · cases e2
      exact k3 (decide_eq_true h15)
theorem s_Reader_wordAt {from_ : Int32} {to_ : Int32} {M : mM} {r : Int32} (h : F_Reader_wordAt z from_ to_ M = some r) (hq : Q (some (.int r)) (lay M)) : Sp X (d + 7) f_Reader_wordAt [.ref 100, .int from_, .int to_] (lay M) Q := by
  refine Sp_of (by decide) rfl (Nat.le_of_ble_eq_true rfl) ?_
  refine wp_iconst d_Reader_wordAt_0 (v := nI 0) rfl ?_
  refine wp_istore_n d_Reader_wordAt_1 rfl (by decide) ?_
  refine wp_iconst d_Reader_wordAt_2 (v := nI 0) rfl ?_
  refine wp_istore d_Reader_wordAt_3 (by decide) ?_
  refine wp_iconst d_Reader_wordAt_5 (v := nI 0) rfl ?_
  refine wp_istore d_Reader_wordAt_6 (by decide) ?_
  refine l_Reader_wordAt_1 hq ?_ _ _ _ _ h
  intro word_51 start_52 u5 h
  refine wp_iconst d_Reader_wordAt_69 (v := (-1)) rfl ?_
  cases h
  exact wp_iret d_Reader_wordAt_70 rfl rfl rfl hq
def L_Reader_token_1 (z : Nat) (M : mM) : Nat → Int32 → Option (Int32)
  | 0, _ => none
  | n + 1, to_ =>
    ob1 (if to_ < (M 100 1) then ob1 (ra M 101 400 to_) fun v155 =>
    some (F_Reader_isLetter v155)
    else some (false)) fun x146 =>
    if x146 = true then
    L_Reader_token_1 z M n (to_ + nI 1)
    else
    some (to_)
def L_Reader_token_2 (z : Nat) (M : mM) : Nat → Int32 → Int32 → Option (Int32 × Int32)
  | 0, _, _ => none
  | n + 1, to_, v_ =>
    ob1 (if to_ < (M 100 1) then ob1 (ra M 101 400 to_) fun v188 =>
    some (F_Reader_isDigit v188)
    else some (false)) fun x175 =>
    if x175 = true then
    ob1 (ra M 101 400 to_) fun v182 =>
    ob1 (some ((((nI 10) * v_) + v182) - (nI 48))) fun v183 =>
    L_Reader_token_2 z M n (to_ + nI 1) v183
    else
    some (to_, v_)
def F_Reader_token (z : Nat) (from_ : Int32) (M : mM) : Option (Int32 × mM) :=
  ob2 (ob1 (ob1 (ra M 101 400 from_) fun v216 =>
  some (F_Reader_isLetter v216)) fun x138 =>
  if x138 = true then
  ob1 (L_Reader_token_1 z M z (from_ + (nI 1))) fun to_156 =>
  ob1 (F_Reader_wordAt z from_ to_156 M) fun v157 =>
  ob1 (F_Reader_addToken (if v157 = (-1) then nI 1 else nI 3) v157 from_ M) fun M160 =>
  some (to_156, M160)
  else
  ob1 (ob1 (ra M 101 400 from_) fun v214 =>
  some (F_Reader_isDigit v214)) fun x165 =>
  if x165 = true then
  ob1 (ra M 101 400 from_) fun v172 =>
  ob2 (L_Reader_token_2 z M z (from_ + (nI 1)) (v172 - (nI 48))) fun to_189 v_190 =>
  ob1 (F_Reader_addToken (if (nI 4) < (to_189 - from_) then nI 1 else nI 2) v_190 from_ M) fun M192 =>
  some (to_189, M192)
  else
  ob1 (ob1 (ra M 101 400 from_) fun v210 =>
  ob1 (ixO1 (ji2c v210)) fun v211 =>
  some (decide (¬ (v211 < (nI 0))))) fun x202 =>
  ob1 (ra M 101 400 from_) fun v206 =>
  ob1 (F_Reader_addToken (if x202 = true then nI 4 else nI 1) v206 from_ M) fun M207 =>
  some (from_ + (nI 1), M207)) fun to_135 M136 =>
  some (to_135, M136)
theorem l_Reader_token_1 {M : mM}  {q1 : Value} {to_r : Int32} (K : ∀ u3 : Value, wp X (d + 8) f_Reader_token (0, 0) 42 [.ref 100, q1, .int to_r, u3] [] (lay M) Q) : ∀ (n : Nat) (to_ : Int32) (u3 : Value), L_Reader_token_1 z M n to_ = some (to_r) → wp X (d + 8) f_Reader_token (0, 0) 16 [.ref 100, q1, .int to_, u3] [] (lay M) Q := by
  intro n
  induction n with
  | zero => intro to_ u3 h; exact nn h
  | succ n ih =>
    intro to_ u3 h
    obtain ⟨x146, e147, h⟩ := ob1_some h
    have k150 : ∀ u3 : Value, x146 = true → wp X (d + 8) f_Reader_token (0, 0) 36 [.ref 100, q1, .int to_, u3] [] (lay M) Q := by
      intro u3 x151
      replace h := ip h x151
      refine wp_iinc d_Reader_token_36 (v := to_ + nI 1) rfl rfl ?_
      refine wp_goto 16 d_Reader_token_39 rfl ?_
      exact ih _ _ h
    have k152 : ∀ u3 : Value, ¬ x146 = true → wp X (d + 8) f_Reader_token (0, 0) 42 [.ref 100, q1, .int to_, u3] [] (lay M) Q := by
      intro u3 x153
      replace h := inn h x153
      cases h
      exact K _
    refine wp_iload_n d_Reader_token_16 rfl rfl ?_
    refine wp_aload_n d_Reader_token_17 rfl rfl ?_
    refine wl_getI d_Reader_token_18 lf_Reader_15 sh_100 rfl rfl ?_
    refine wq_icmp_ge 42 d_Reader_token_21 rfl (fun h21 => ?_) (fun h21 => ?_)
    · replace e147 := inn e147 h21
      cases e147
      exact k152 _ (fun z => Bool.noConfusion z)
    · replace e147 := ip e147 h21
      refine wp_aload_n d_Reader_token_24 rfl rfl ?_
      refine wl_getR d_Reader_token_25 lf_Reader_9 sh_100 rfl ?_
      refine wp_iload_n d_Reader_token_28 rfl rfl ?_
      obtain ⟨v155, e154, e147⟩ := ob1_some e147
      refine wa_ald d_Reader_token_29 sh_101 e154 ?_
      refine wl_callS1 d_Reader_token_30 lc_Reader_isLetter ls_Reader_89 rfl ⟨rfl, rfl⟩ ⟨by decide, by decide⟩ ?_
      refine s_Reader_isLetter (d := d + 7) rfl ?_
      refine wc_eq 42 d_Reader_token_33 rfl (fun h33 => ?_) (fun h33 => ?_)
      · cases e147
        exact k152 _ h33
      · cases e147
        exact k150 _ h33
theorem l_Reader_token_2 {M : mM}  {q1 : Value} {to_r : Int32} {v_r : Int32} (K : wp X (d + 8) f_Reader_token (0, 0) 131 [.ref 100, q1, .int to_r, .int v_r] [] (lay M) Q) : ∀ (n : Nat) (to_ : Int32) (v_ : Int32), L_Reader_token_2 z M n to_ v_ = some (to_r, v_r) → wp X (d + 8) f_Reader_token (0, 0) 90 [.ref 100, q1, .int to_, .int v_] [] (lay M) Q := by
  intro n
  induction n with
  | zero => intro to_ v_ h; exact nn h
  | succ n ih =>
    intro to_ v_ h
    obtain ⟨x175, e176, h⟩ := ob1_some h
    have k179 : x175 = true → wp X (d + 8) f_Reader_token (0, 0) 110 [.ref 100, q1, .int to_, .int v_] [] (lay M) Q := by
      intro x180
      replace h := ip h x180
      refine wp_bipush d_Reader_token_110 (v := nI 10) rfl ?_
      refine wp_iload_n d_Reader_token_112 rfl rfl ?_
      refine wp_imul d_Reader_token_113 ?_
      refine wp_aload_n d_Reader_token_114 rfl rfl ?_
      refine wl_getR d_Reader_token_115 lf_Reader_9 sh_100 rfl ?_
      refine wp_iload_n d_Reader_token_118 rfl rfl ?_
      obtain ⟨v182, e181, h⟩ := ob1_some h
      refine wa_ald d_Reader_token_119 sh_101 e181 ?_
      refine wp_iadd d_Reader_token_120 ?_
      refine wp_bipush d_Reader_token_121 (v := nI 48) rfl ?_
      refine wp_isub d_Reader_token_123 ?_
      obtain ⟨v183, e184, h⟩ := ob1_some h
      refine wx_int e184 ?_
      refine wp_istore_n d_Reader_token_124 rfl (by decide) ?_
      refine wp_iinc d_Reader_token_125 (v := to_ + nI 1) rfl rfl ?_
      refine wp_goto 90 d_Reader_token_128 rfl ?_
      exact ih _ _ h
    have k185 : ¬ x175 = true → wp X (d + 8) f_Reader_token (0, 0) 131 [.ref 100, q1, .int to_, .int v_] [] (lay M) Q := by
      intro x186
      replace h := inn h x186
      cases h
      exact K
    refine wp_iload_n d_Reader_token_90 rfl rfl ?_
    refine wp_aload_n d_Reader_token_91 rfl rfl ?_
    refine wl_getI d_Reader_token_92 lf_Reader_15 sh_100 rfl rfl ?_
    refine wq_icmp_ge 131 d_Reader_token_95 rfl (fun h95 => ?_) (fun h95 => ?_)
    · replace e176 := inn e176 h95
      cases e176
      exact k185 (fun z => Bool.noConfusion z)
    · replace e176 := ip e176 h95
      refine wp_aload_n d_Reader_token_98 rfl rfl ?_
      refine wl_getR d_Reader_token_99 lf_Reader_9 sh_100 rfl ?_
      refine wp_iload_n d_Reader_token_102 rfl rfl ?_
      obtain ⟨v188, e187, e176⟩ := ob1_some e176
      refine wa_ald d_Reader_token_103 sh_101 e187 ?_
      refine wl_callS1 d_Reader_token_104 lc_Reader_isDigit ls_Reader_97 rfl ⟨rfl, rfl⟩ ⟨by decide, by decide⟩ ?_
      refine s_Reader_isDigit (d := d + 7) rfl ?_
      refine wc_eq 131 d_Reader_token_107 rfl (fun h107 => ?_) (fun h107 => ?_)
      · cases e176
        exact k185 h107
      · cases e176
        exact k179 h107
theorem s_Reader_token {from_ : Int32} {M : mM} {r : Int32} {M' : mM} (h : F_Reader_token z from_ M = some (r, M')) (hq : Q (some (.int r)) (lay M')) : Sp X (d + 8) f_Reader_token [.ref 100, .int from_] (lay M) Q := by
  refine Sp_of (by decide) rfl (Nat.le_of_ble_eq_true rfl) ?_
  refine wp_iload_n d_Reader_token_0 rfl rfl ?_
  refine wp_iconst d_Reader_token_1 (v := nI 1) rfl ?_
  refine wp_iadd d_Reader_token_2 ?_
  refine wp_istore_n d_Reader_token_3 rfl (by decide) ?_
  obtain ⟨to_135, M136, e137, h⟩ := ob2_some h
  have k134 : ∀ u3 : Value, wp X (d + 8) f_Reader_token (0, 0) 193 [.ref 100, .int from_, .int to_135, u3] [] (lay M136) Q := by
    intro u3
    refine wp_iload_n d_Reader_token_193 rfl rfl ?_
    cases h
    exact wp_iret d_Reader_token_194 rfl rfl rfl hq
  obtain ⟨x138, e139, e137⟩ := ob1_some e137
  have k142 : ∀ u3 : Value, x138 = true → wp X (d + 8) f_Reader_token (0, 0) 16 [.ref 100, .int from_, .int (from_ + (nI 1)), u3] [] (lay M) Q := by
    intro u3 x143
    replace e137 := ip e137 x143
    obtain ⟨to_156, e162, e137⟩ := ob1_some e137
    refine l_Reader_token_1 ?_ _ _ _ e162
    intro u3
    refine wp_aload_n d_Reader_token_42 rfl rfl ?_
    refine wp_iload_n d_Reader_token_43 rfl rfl ?_
    refine wp_iload_n d_Reader_token_44 rfl rfl ?_
    obtain ⟨v157, e158, e137⟩ := ob1_some e137
    refine wl_callV2 d_Reader_token_45 lc_Reader_wordAt lv_Reader_93 rfl sh_100 rfl rfl ⟨rfl, rfl⟩ ⟨by decide, by decide⟩ ?_
    refine s_Reader_wordAt (d := d) e158 ?_
    refine wp_istore_n d_Reader_token_48 rfl (by decide) ?_
    refine wp_aload_n d_Reader_token_49 rfl rfl ?_
    have k159 : wp X (d + 8) f_Reader_token (0, 0) 60 [.ref 100, .int from_, .int to_156, .int v157] [.int (if v157 = (-1) then nI 1 else nI 3), .ref 100] (lay M) Q := by
      refine wp_iload_n d_Reader_token_60 rfl rfl ?_
      refine wp_iload_n d_Reader_token_61 rfl rfl ?_
      obtain ⟨M160, e161, e137⟩ := ob1_some e137
      refine wl_callV3 d_Reader_token_62 lc_Reader_addToken lv_Reader_85 rfl sh_100 rfl rfl ⟨rfl, rfl⟩ ⟨by decide, by decide⟩ ?_
      refine s_Reader_addToken (d := d + 7) e161 ?_
      cases e137
      refine wp_goto 193 d_Reader_token_65 rfl ?_
      exact k134 _
    refine wp_iload_n d_Reader_token_50 rfl rfl ?_
    refine wp_iconst d_Reader_token_51 (v := (-1)) rfl ?_
    refine wq_icmp_ne 59 d_Reader_token_52 rfl (fun h52 => ?_) (fun h52 => ?_)
    · refine wp_iconst d_Reader_token_59 (v := nI 3) rfl ?_
      exact wj_in h52 (k159)
    · refine wp_iconst d_Reader_token_55 (v := nI 1) rfl ?_
      refine wp_goto 60 d_Reader_token_56 rfl ?_
      exact wj_ip h52 (k159)
  have k163 : ∀ u3 : Value, ¬ x138 = true → wp X (d + 8) f_Reader_token (0, 0) 68 [.ref 100, .int from_, .int (from_ + (nI 1)), u3] [] (lay M) Q := by
    intro u3 x164
    replace e137 := inn e137 x164
    obtain ⟨x165, e166, e137⟩ := ob1_some e137
    have k169 : ∀ u3 : Value, x165 = true → wp X (d + 8) f_Reader_token (0, 0) 80 [.ref 100, .int from_, .int (from_ + (nI 1)), u3] [] (lay M) Q := by
      intro u3 x170
      replace e137 := ip e137 x170
      refine wp_aload_n d_Reader_token_80 rfl rfl ?_
      refine wl_getR d_Reader_token_81 lf_Reader_9 sh_100 rfl ?_
      refine wp_iload_n d_Reader_token_84 rfl rfl ?_
      obtain ⟨v172, e171, e137⟩ := ob1_some e137
      refine wa_ald d_Reader_token_85 sh_101 e171 ?_
      refine wp_bipush d_Reader_token_86 (v := nI 48) rfl ?_
      refine wp_isub d_Reader_token_88 ?_
      refine wp_istore_n d_Reader_token_89 rfl (by decide) ?_
      obtain ⟨to_189, v_190, e194, e137⟩ := ob2_some e137
      refine l_Reader_token_2 ?_ _ _ _ e194
      refine wp_aload_n d_Reader_token_131 rfl rfl ?_
      have k191 : wp X (d + 8) f_Reader_token (0, 0) 144 [.ref 100, .int from_, .int to_189, .int v_190] [.int (if (nI 4) < (to_189 - from_) then nI 1 else nI 2), .ref 100] (lay M) Q := by
        refine wp_iload_n d_Reader_token_144 rfl rfl ?_
        refine wp_iload_n d_Reader_token_145 rfl rfl ?_
        obtain ⟨M192, e193, e137⟩ := ob1_some e137
        refine wl_callV3 d_Reader_token_146 lc_Reader_addToken lv_Reader_85 rfl sh_100 rfl rfl ⟨rfl, rfl⟩ ⟨by decide, by decide⟩ ?_
        refine s_Reader_addToken (d := d + 7) e193 ?_
        cases e137
        refine wp_goto 193 d_Reader_token_149 rfl ?_
        exact k134 _
      refine wp_iload_n d_Reader_token_132 rfl rfl ?_
      refine wp_iload_n d_Reader_token_133 rfl rfl ?_
      refine wp_isub d_Reader_token_134 ?_
      refine wp_iconst d_Reader_token_135 (v := nI 4) rfl ?_
      refine wq_icmp_le 143 d_Reader_token_136 rfl (fun h136 => ?_) (fun h136 => ?_)
      · refine wp_iconst d_Reader_token_143 (v := nI 2) rfl ?_
        exact wj_in h136 (k191)
      · refine wp_iconst d_Reader_token_139 (v := nI 1) rfl ?_
        refine wp_goto 144 d_Reader_token_140 rfl ?_
        exact wj_ip h136 (k191)
    have k195 : ∀ u3 : Value, ¬ x165 = true → wp X (d + 8) f_Reader_token (0, 0) 152 [.ref 100, .int from_, .int (from_ + (nI 1)), u3] [] (lay M) Q := by
      intro u3 x196
      replace e137 := inn e137 x196
      obtain ⟨x202, e203, e137⟩ := ob1_some e137
      have k201 : ∀ u3 : Value, wp X (d + 8) f_Reader_token (0, 0) 172 [.ref 100, .int from_, .int (from_ + (nI 1)), u3] [.int (bI x202)] (lay M) Q := by
        intro u3
        refine wp_istore_n d_Reader_token_172 rfl (by decide) ?_
        refine wp_aload_n d_Reader_token_173 rfl rfl ?_
        have k204 : wp X (d + 8) f_Reader_token (0, 0) 183 [.ref 100, .int from_, .int (from_ + (nI 1)), .int (bI x202)] [.int (if x202 = true then nI 4 else nI 1), .ref 100] (lay M) Q := by
          refine wp_aload_n d_Reader_token_183 rfl rfl ?_
          refine wl_getR d_Reader_token_184 lf_Reader_9 sh_100 rfl ?_
          refine wp_iload_n d_Reader_token_187 rfl rfl ?_
          obtain ⟨v206, e205, e137⟩ := ob1_some e137
          refine wa_ald d_Reader_token_188 sh_101 e205 ?_
          refine wp_iload_n d_Reader_token_189 rfl rfl ?_
          obtain ⟨M207, e208, e137⟩ := ob1_some e137
          refine wl_callV3 d_Reader_token_190 lc_Reader_addToken lv_Reader_85 rfl sh_100 rfl rfl ⟨rfl, rfl⟩ ⟨by decide, by decide⟩ ?_
          refine s_Reader_addToken (d := d + 7) e208 ?_
          cases e137
          exact k134 _
        refine wp_iload_n d_Reader_token_174 rfl rfl ?_
        refine wc_eq 182 d_Reader_token_175 rfl (fun h175 => ?_) (fun h175 => ?_)
        · refine wp_iconst d_Reader_token_182 (v := nI 1) rfl ?_
          exact wj_in h175 (k204)
        · refine wp_iconst d_Reader_token_178 (v := nI 4) rfl ?_
          refine wp_goto 183 d_Reader_token_179 rfl ?_
          exact wj_ip h175 (k204)
      refine wx_ldc1 d_Reader_token_152 rfl ?_
      refine wp_aload_n d_Reader_token_154 rfl rfl ?_
      refine wl_getR d_Reader_token_155 lf_Reader_9 sh_100 rfl ?_
      refine wp_iload_n d_Reader_token_158 rfl rfl ?_
      obtain ⟨v210, e209, e203⟩ := ob1_some e203
      refine wa_ald d_Reader_token_159 sh_101 e209 ?_
      refine wp_i2c d_Reader_token_160 (v := ji2c v210) rfl ?_
      obtain ⟨v211, e212, e203⟩ := ob1_some e203
      refine wx_ixO1 (d := d + 2) d_Reader_token_161 lv_Reader_102 e212 rfl ⟨by decide, by decide⟩ ?_
      refine wz_lt 171 d_Reader_token_164 rfl (fun h164 => ?_) (fun h164 => ?_)
      · cases e203
        refine wp_iconst d_Reader_token_171 (v := nI 0) rfl ?_
        exact wj_b0 (fun z => (fun z => z h164) (of_decide_eq_true z)) (k201 _)
      · cases e203
        refine wp_iconst d_Reader_token_167 (v := nI 1) rfl ?_
        refine wp_goto 172 d_Reader_token_168 rfl ?_
        exact wj_b1 (decide_eq_true h164) (k201 _)
    refine wp_aload_n d_Reader_token_68 rfl rfl ?_
    refine wl_getR d_Reader_token_69 lf_Reader_9 sh_100 rfl ?_
    refine wp_iload_n d_Reader_token_72 rfl rfl ?_
    obtain ⟨v214, e213, e166⟩ := ob1_some e166
    refine wa_ald d_Reader_token_73 sh_101 e213 ?_
    refine wl_callS1 d_Reader_token_74 lc_Reader_isDigit ls_Reader_97 rfl ⟨rfl, rfl⟩ ⟨by decide, by decide⟩ ?_
    refine s_Reader_isDigit (d := d + 7) rfl ?_
    refine wc_eq 152 d_Reader_token_77 rfl (fun h77 => ?_) (fun h77 => ?_)
    · cases e166
      exact k195 _ h77
    · cases e166
      exact k169 _ h77
  refine wp_aload_n d_Reader_token_4 rfl rfl ?_
  refine wl_getR d_Reader_token_5 lf_Reader_9 sh_100 rfl ?_
  refine wp_iload_n d_Reader_token_8 rfl rfl ?_
  obtain ⟨v216, e215, e139⟩ := ob1_some e139
  refine wa_ald d_Reader_token_9 sh_101 e215 ?_
  refine wl_callS1 d_Reader_token_10 lc_Reader_isLetter ls_Reader_89 rfl ⟨rfl, rfl⟩ ⟨by decide, by decide⟩ ?_
  refine s_Reader_isLetter (d := d + 7) rfl ?_
  refine wc_eq 68 d_Reader_token_13 rfl (fun h13 => ?_) (fun h13 => ?_)
  · cases e139
    exact k163 _ h13
  · cases e139
    exact k142 _ h13
def L_Reader_split_1 (z : Nat) : Nat → Int32 → Int32 → mM → Option (Int32 × mM)
  | 0, _, _, _ => none
  | n + 1, i_, n_, M =>
    if (n_ < (nI 400) ∧ i_ < (M 100 1)) then
    ob2 (ob1 (ob1 (ob1 (ra M 101 400 i_) fun v76 =>
    some (decide (v76 = (nI 32)))) fun x65 =>
    if x65 = true then some (true)
    else ob1 (ra M 101 400 i_) fun v74 =>
    some (decide (v74 = (nI 10)))) fun x44 =>
    if x44 = true then
    some (i_ + (nI 1), M)
    else
    ob2 (F_Reader_token z i_ M) fun v62 M63 =>
    some (v62, M63)) fun v41 M43 =>
    L_Reader_split_1 z n v41 (n_ + nI 1) M43
    else
    some (i_, M)
def F_Reader_split (z : Nat) (M : mM) : Option mM :=
  ob1 (some (up M 100 10 (nI 0))) fun M1 =>
  ob1 (some (up M1 100 11 (nI 0))) fun M3 =>
  ob2 (L_Reader_split_1 z z (nI 0) (nI 0) M3) fun i_77 M78 =>
  ob1 (F_Reader_addToken (nI 0) (nI 0) (M78 100 1) M78) fun M79 =>
  some M79
theorem l_Reader_split_1  {i_r : Int32} {N' : mM} (K : ∀ u2 : Value, wp X (d + 9) f_Reader_split (0, 0) 69 [.ref 100, .int i_r, u2] [] (lay N') Q) : ∀ (n : Nat) (i_ : Int32) (n_ : Int32) (M : mM), L_Reader_split_1 z n i_ n_ M = some (i_r, N') → wp X (d + 9) f_Reader_split (0, 0) 14 [.ref 100, .int i_, .int n_] [] (lay M) Q := by
  intro n
  induction n with
  | zero => intro i_ n_ M h; exact nn h
  | succ n ih =>
    intro i_ n_ M h
    have k5 : ¬ (n_ < (nI 400) ∧ i_ < (M 100 1)) → wp X (d + 9) f_Reader_split (0, 0) 69 [.ref 100, .int i_, .int n_] [] (lay M) Q := by
      intro x6
      replace h := inn h x6
      cases h
      exact K _
    refine wp_iload_n d_Reader_split_14 rfl rfl ?_
    refine wp_sipush d_Reader_split_15 (v := nI 400) rfl ?_
    refine wq_icmp_ge 69 d_Reader_split_18 rfl (fun h18 => ?_) (fun h18 => ?_)
    · exact k5 (fun z => h18 z.1)
    · refine wp_iload_n d_Reader_split_21 rfl rfl ?_
      refine wp_aload_n d_Reader_split_22 rfl rfl ?_
      refine wl_getI d_Reader_split_23 lf_Reader_15 sh_100 rfl rfl ?_
      refine wq_icmp_ge 69 d_Reader_split_26 rfl (fun h26 => ?_) (fun h26 => ?_)
      · exact k5 (fun z => h26 z.2)
      · replace h := ip h ⟨h18, h26⟩
        obtain ⟨v41, M43, e42, h⟩ := ob2_some h
        have k40 : wp X (d + 9) f_Reader_split (0, 0) 62 [.ref 100, .int i_, .int n_] [.int v41] (lay M43) Q := by
          refine wp_istore_n d_Reader_split_62 rfl (by decide) ?_
          refine wp_iinc d_Reader_split_63 (v := n_ + nI 1) rfl rfl ?_
          refine wp_goto 14 d_Reader_split_66 rfl ?_
          exact ih _ _ _ h
        obtain ⟨x44, e45, e42⟩ := ob1_some e42
        have k58 : x44 = true → wp X (d + 9) f_Reader_split (0, 0) 51 [.ref 100, .int i_, .int n_] [] (lay M) Q := by
          intro x59
          replace e42 := ip e42 x59
          refine wp_iload_n d_Reader_split_51 rfl rfl ?_
          refine wp_iconst d_Reader_split_52 (v := nI 1) rfl ?_
          refine wp_iadd d_Reader_split_53 ?_
          cases e42
          refine wp_goto 62 d_Reader_split_54 rfl ?_
          exact k40
        have k60 : ¬ x44 = true → wp X (d + 9) f_Reader_split (0, 0) 57 [.ref 100, .int i_, .int n_] [] (lay M) Q := by
          intro x61
          replace e42 := inn e42 x61
          refine wp_aload_n d_Reader_split_57 rfl rfl ?_
          refine wp_iload_n d_Reader_split_58 rfl rfl ?_
          obtain ⟨v62, M63, e64, e42⟩ := ob2_some e42
          refine wl_callV1 d_Reader_split_59 lc_Reader_token lv_Reader_81 rfl sh_100 rfl rfl ⟨rfl, rfl⟩ ⟨by decide, by decide⟩ ?_
          refine s_Reader_token (d := d) e64 ?_
          cases e42
          exact k40
        obtain ⟨x65, e66, e45⟩ := ob1_some e45
        have k69 : x65 = true → wp X (d + 9) f_Reader_split (0, 0) 51 [.ref 100, .int i_, .int n_] [] (lay M) Q := by
          intro x70
          replace e45 := ip e45 x70
          cases e45
          exact k58 rfl
        have k71 : ¬ x65 = true → wp X (d + 9) f_Reader_split (0, 0) 40 [.ref 100, .int i_, .int n_] [] (lay M) Q := by
          intro x72
          replace e45 := inn e45 x72
          refine wp_aload_n d_Reader_split_40 rfl rfl ?_
          refine wl_getR d_Reader_split_41 lf_Reader_9 sh_100 rfl ?_
          refine wp_iload_n d_Reader_split_44 rfl rfl ?_
          obtain ⟨v74, e73, e45⟩ := ob1_some e45
          refine wa_ald d_Reader_split_45 sh_101 e73 ?_
          refine wp_bipush d_Reader_split_46 (v := nI 10) rfl ?_
          refine wq_icmp_ne 57 d_Reader_split_48 rfl (fun h48 => ?_) (fun h48 => ?_)
          · cases e45
            exact k60 (fun z => h48 (of_decide_eq_true z))
          · cases e45
            exact k58 (decide_eq_true h48)
        refine wp_aload_n d_Reader_split_29 rfl rfl ?_
        refine wl_getR d_Reader_split_30 lf_Reader_9 sh_100 rfl ?_
        refine wp_iload_n d_Reader_split_33 rfl rfl ?_
        obtain ⟨v76, e75, e66⟩ := ob1_some e66
        refine wa_ald d_Reader_split_34 sh_101 e75 ?_
        refine wp_bipush d_Reader_split_35 (v := nI 32) rfl ?_
        refine wq_icmp_eq 51 d_Reader_split_37 rfl (fun h37 => ?_) (fun h37 => ?_)
        · cases e66
          exact k69 (decide_eq_true h37)
        · cases e66
          exact k71 (fun z => h37 (of_decide_eq_true z))
theorem s_Reader_split {M : mM} {M' : mM} (h : F_Reader_split z M = some M') (hq : Q none (lay M')) : Sp X (d + 9) f_Reader_split [.ref 100] (lay M) Q := by
  refine Sp_of (by decide) rfl (Nat.le_of_ble_eq_true rfl) ?_
  refine wp_aload_n d_Reader_split_0 rfl rfl ?_
  refine wp_iconst d_Reader_split_1 (v := nI 0) rfl ?_
  refine wl_put d_Reader_split_2 lp_Reader_49 sh_100 rfl ⟨rfl, rfl⟩ ?_
  obtain ⟨M1, e2, h⟩ := ob1_some h
  refine wx_M e2 ?_
  refine wp_aload_n d_Reader_split_5 rfl rfl ?_
  refine wp_iconst d_Reader_split_6 (v := nI 0) rfl ?_
  refine wl_put d_Reader_split_7 lp_Reader_52 sh_100 rfl ⟨rfl, rfl⟩ ?_
  obtain ⟨M3, e4, h⟩ := ob1_some h
  refine wx_M e4 ?_
  refine wp_iconst d_Reader_split_10 (v := nI 0) rfl ?_
  refine wp_istore_n d_Reader_split_11 rfl (by decide) ?_
  refine wp_iconst d_Reader_split_12 (v := nI 0) rfl ?_
  refine wp_istore_n d_Reader_split_13 rfl (by decide) ?_
  obtain ⟨i_77, M78, e81, h⟩ := ob2_some h
  refine l_Reader_split_1 ?_ _ _ _ _ e81
  intro u2
  refine wp_aload_n d_Reader_split_69 rfl rfl ?_
  refine wp_iconst d_Reader_split_70 (v := nI 0) rfl ?_
  refine wp_iconst d_Reader_split_71 (v := nI 0) rfl ?_
  refine wp_aload_n d_Reader_split_72 rfl rfl ?_
  refine wl_getI d_Reader_split_73 lf_Reader_15 sh_100 rfl rfl ?_
  obtain ⟨M79, e80, h⟩ := ob1_some h
  refine wl_callV3 d_Reader_split_76 lc_Reader_addToken lv_Reader_85 rfl sh_100 rfl rfl ⟨rfl, rfl⟩ ⟨by decide, by decide⟩ ?_
  refine s_Reader_addToken (d := d + 8) e80 ?_
  cases h
  exact wp_ret d_Reader_split_79 rfl rfl hq
def L_Reader_read_1 (z : Nat) (k_ : Int32) (kt : mM → Option (Int32 × mM)) : Nat → Int32 → mM → Option (Int32 × mM)
  | 0, _, _ => none
  | n + 1, n_, M =>
    ob1 (if ¬ ((nI 16) < n_) then ob1 (ra M 105 401 (M 100 11)) fun v132 =>
    some (decide (¬ (v132 = (nI 0))))
    else some (false)) fun x17 =>
    if x17 = true then
    ob2 (if k_ = (nI 0) then
    ob2 (F_Reader_readLaw z M) fun v126 M127 =>
    some (v126, M127)
    else
    ob2 (if k_ = (nI 1) then
    ob2 (F_Reader_readFlight M) fun v123 M124 =>
    some (v123, M124)
    else
    ob2 (if k_ = (nI 2) then
    ob2 (F_Reader_readSky M) fun v120 M121 =>
    some (v120, M121)
    else
    ob2 (F_Reader_readStrips M) fun v117 M118 =>
    some (v117, M118)) fun v114 M116 =>
    some (v114, M116)) fun v104 M106 =>
    some (v104, M106)) fun v69 M71 =>
    if ¬ (v69 = true) then
    some ((-1), M71)
    else
    ob1 (ra M71 108 5 (nI 0)) fun v73 =>
    ob1 (ra M71 108 5 (nI 1)) fun v75 =>
    ob1 (ra M71 108 5 (nI 2)) fun v77 =>
    ob1 (ra M71 108 5 (nI 3)) fun v79 =>
    ob1 (ra M71 108 5 (nI 4)) fun v81 =>
    ob1 (F_Rows_add 102 5 16 v73 v75 v77 v79 v81 M71) fun M82 =>
    L_Reader_read_1 z k_ kt n (n_ + nI 1) M82
    else
    kt M
def F_Reader_read (z : Nat) (k_ : Int32) (M : mM) : Option (Int32 × mM) :=
  ob1 (some (up M 100 2 (nI 0))) fun M1 =>
  ob1 (some (up M1 100 3 (-1))) fun M3 =>
  ob1 (some (up M3 102 3 (nI 0))) fun M5 =>
  ob1 (some (up M5 100 6 (nI 0))) fun M7 =>
  ob1 (F_Reader_split z M7) fun M9 =>
  ob1 (some (up M9 100 1 (nI 0))) fun M11 =>
  if (k_ < (nI 0) ∨ (nI 3) < k_) then
  some ((-1), M11)
  else
  L_Reader_read_1 z k_ (fun (M133 : mM) =>
  some (M133 102 3, M133)) z (nI 0) M11
theorem l_Reader_read_1 {k_ : Int32} {kt : mM → Option (Int32 × mM)}  {r : Int32} {M' : mM} (hq : Q (some (.int r)) (lay M')) (K : ∀ (N1 : mM) (u2 u3 : Value), kt  N1 = some (r, M') → wp X (d + 30) f_Reader_read (0, 0) 152 [.ref 100, .int k_, u2, u3] [] (lay N1) Q) : ∀ (n : Nat) (n_ : Int32) (M : mM) (u3 : Value), L_Reader_read_1 z k_ kt n n_ M = some (r, M') → wp X (d + 30) f_Reader_read (0, 0) 45 [.ref 100, .int k_, .int n_, u3] [] (lay M) Q := by
  intro n
  induction n with
  | zero => intro n_ M u3 h; exact nn h
  | succ n ih =>
    intro n_ M u3 h
    obtain ⟨x17, e18, h⟩ := ob1_some h
    have k21 : ∀ u3 : Value, x17 = true → wp X (d + 30) f_Reader_read (0, 0) 63 [.ref 100, .int k_, .int n_, u3] [] (lay M) Q := by
      intro u3 x22
      replace h := ip h x22
      obtain ⟨v69, M71, e70, h⟩ := ob2_some h
      have k68 : ∀ u3 : Value, wp X (d + 30) f_Reader_read (0, 0) 102 [.ref 100, .int k_, .int n_, u3] [.int (bI v69)] (lay M71) Q := by
        intro u3
        refine wp_istore_n d_Reader_read_102 rfl (by decide) ?_
        refine wp_iload_n d_Reader_read_103 rfl rfl ?_
        refine wc_ne 109 d_Reader_read_104 rfl (fun h104 => ?_) (fun h104 => ?_)
        · replace h := inn h (fun z => z h104)
          refine wp_aload_n d_Reader_read_109 rfl rfl ?_
          refine wl_getR d_Reader_read_110 lf_Reader_30 sh_100 rfl ?_
          refine wp_aload_n d_Reader_read_113 rfl rfl ?_
          refine wl_getR d_Reader_read_114 lf_Reader_55 sh_100 rfl ?_
          refine wp_iconst d_Reader_read_117 (v := nI 0) rfl ?_
          obtain ⟨v73, e72, h⟩ := ob1_some h
          refine wa_ald d_Reader_read_118 sh_108 e72 ?_
          refine wp_aload_n d_Reader_read_119 rfl rfl ?_
          refine wl_getR d_Reader_read_120 lf_Reader_55 sh_100 rfl ?_
          refine wp_iconst d_Reader_read_123 (v := nI 1) rfl ?_
          obtain ⟨v75, e74, h⟩ := ob1_some h
          refine wa_ald d_Reader_read_124 sh_108 e74 ?_
          refine wp_aload_n d_Reader_read_125 rfl rfl ?_
          refine wl_getR d_Reader_read_126 lf_Reader_55 sh_100 rfl ?_
          refine wp_iconst d_Reader_read_129 (v := nI 2) rfl ?_
          obtain ⟨v77, e76, h⟩ := ob1_some h
          refine wa_ald d_Reader_read_130 sh_108 e76 ?_
          refine wp_aload_n d_Reader_read_131 rfl rfl ?_
          refine wl_getR d_Reader_read_132 lf_Reader_55 sh_100 rfl ?_
          refine wp_iconst d_Reader_read_135 (v := nI 3) rfl ?_
          obtain ⟨v79, e78, h⟩ := ob1_some h
          refine wa_ald d_Reader_read_136 sh_108 e78 ?_
          refine wp_aload_n d_Reader_read_137 rfl rfl ?_
          refine wl_getR d_Reader_read_138 lf_Reader_55 sh_100 rfl ?_
          refine wp_iconst d_Reader_read_141 (v := nI 4) rfl ?_
          obtain ⟨v81, e80, h⟩ := ob1_some h
          refine wa_ald d_Reader_read_142 sh_108 e80 ?_
          obtain ⟨M82, e83, h⟩ := ob1_some h
          refine wl_callV5 d_Reader_read_143 lc_Rows_add lv_Reader_77 rfl (isR0 isR_found) rfl rfl ⟨rfl, rfl⟩ ⟨by decide, by decide⟩ ?_
          refine s_Rows_add (d := d + 28) isR_found e83 ?_
          refine wp_iinc d_Reader_read_146 (v := n_ + nI 1) rfl rfl ?_
          refine wp_goto 45 d_Reader_read_149 rfl ?_
          exact ih _ _ _ h
        · replace h := ip h h104
          refine wp_iconst d_Reader_read_107 (v := (-1)) rfl ?_
          cases h
          exact wp_iret d_Reader_read_108 rfl rfl rfl hq
      refine wp_iload_n d_Reader_read_63 rfl rfl ?_
      refine wz_ne 74 d_Reader_read_64 rfl (fun h64 => ?_) (fun h64 => ?_)
      · replace e70 := inn e70 h64
        obtain ⟨v104, M106, e105, e70⟩ := ob2_some e70
        have k103 : ∀ u3 : Value, wp X (d + 30) f_Reader_read (0, 0) 102 [.ref 100, .int k_, .int n_, u3] [.int (bI v104)] (lay M106) Q := by
          intro u3
          cases e70
          exact k68 _
        refine wp_iload_n d_Reader_read_74 rfl rfl ?_
        refine wp_iconst d_Reader_read_75 (v := nI 1) rfl ?_
        refine wq_icmp_ne 86 d_Reader_read_76 rfl (fun h76 => ?_) (fun h76 => ?_)
        · replace e105 := inn e105 h76
          obtain ⟨v114, M116, e115, e105⟩ := ob2_some e105
          have k113 : ∀ u3 : Value, wp X (d + 30) f_Reader_read (0, 0) 102 [.ref 100, .int k_, .int n_, u3] [.int (bI v114)] (lay M116) Q := by
            intro u3
            cases e105
            exact k103 _
          refine wp_iload_n d_Reader_read_86 rfl rfl ?_
          refine wp_iconst d_Reader_read_87 (v := nI 2) rfl ?_
          refine wq_icmp_ne 98 d_Reader_read_88 rfl (fun h88 => ?_) (fun h88 => ?_)
          · replace e115 := inn e115 h88
            refine wp_aload_n d_Reader_read_98 rfl rfl ?_
            obtain ⟨v117, M118, e119, e115⟩ := ob2_some e115
            refine wl_callV0 d_Reader_read_99 lc_Reader_readStrips lv_Reader_74 rfl sh_100 rfl rfl ⟨rfl, rfl⟩ ⟨by decide, by decide⟩ ?_
            refine s_Reader_readStrips (d := d + 25) e119 ?_
            cases e115
            exact k113 _
          · replace e115 := ip e115 h88
            refine wp_aload_n d_Reader_read_91 rfl rfl ?_
            obtain ⟨v120, M121, e122, e115⟩ := ob2_some e115
            refine wl_callV0 d_Reader_read_92 lc_Reader_readSky lv_Reader_71 rfl sh_100 rfl rfl ⟨rfl, rfl⟩ ⟨by decide, by decide⟩ ?_
            refine s_Reader_readSky (d := d + 25) e122 ?_
            cases e115
            refine wp_goto 102 d_Reader_read_95 rfl ?_
            exact k113 _
        · replace e105 := ip e105 h76
          refine wp_aload_n d_Reader_read_79 rfl rfl ?_
          obtain ⟨v123, M124, e125, e105⟩ := ob2_some e105
          refine wl_callV0 d_Reader_read_80 lc_Reader_readFlight lv_Reader_68 rfl sh_100 rfl rfl ⟨rfl, rfl⟩ ⟨by decide, by decide⟩ ?_
          refine s_Reader_readFlight (d := d + 25) e125 ?_
          cases e105
          refine wp_goto 102 d_Reader_read_83 rfl ?_
          exact k103 _
      · replace e70 := ip e70 h64
        refine wp_aload_n d_Reader_read_67 rfl rfl ?_
        obtain ⟨v126, M127, e128, e70⟩ := ob2_some e70
        refine wl_callV0 d_Reader_read_68 lc_Reader_readLaw lv_Reader_64 rfl sh_100 rfl rfl ⟨rfl, rfl⟩ ⟨by decide, by decide⟩ ?_
        refine s_Reader_readLaw (d := d) e128 ?_
        cases e70
        refine wp_goto 102 d_Reader_read_71 rfl ?_
        exact k68 _
    have k129 : ∀ u3 : Value, ¬ x17 = true → wp X (d + 30) f_Reader_read (0, 0) 152 [.ref 100, .int k_, .int n_, u3] [] (lay M) Q := by
      intro u3 x130
      replace h := inn h x130
      exact K _ _ _ h
    refine wp_iload_n d_Reader_read_45 rfl rfl ?_
    refine wp_bipush d_Reader_read_46 (v := nI 16) rfl ?_
    refine wq_icmp_gt 152 d_Reader_read_48 rfl (fun h48 => ?_) (fun h48 => ?_)
    · replace e18 := inn e18 (fun z => z h48)
      cases e18
      exact k129 _ (fun z => Bool.noConfusion z)
    · replace e18 := ip e18 h48
      refine wp_aload_n d_Reader_read_51 rfl rfl ?_
      refine wl_getR d_Reader_read_52 lf_Reader_40 sh_100 rfl ?_
      refine wp_aload_n d_Reader_read_55 rfl rfl ?_
      refine wl_getI d_Reader_read_56 lf_Reader_52 sh_100 rfl rfl ?_
      obtain ⟨v132, e131, e18⟩ := ob1_some e18
      refine wa_ald d_Reader_read_59 sh_105 e131 ?_
      refine wz_eq 152 d_Reader_read_60 rfl (fun h60 => ?_) (fun h60 => ?_)
      · cases e18
        exact k129 _ (fun z => (fun z => z h60) (of_decide_eq_true z))
      · cases e18
        exact k21 _ (decide_eq_true h60)
theorem s_Reader_read {k_ : Int32} {M : mM} {r : Int32} {M' : mM} (h : F_Reader_read z k_ M = some (r, M')) (hq : Q (some (.int r)) (lay M')) : Sp X (d + 30) f_Reader_read [.ref 100, .int k_] (lay M) Q := by
  refine Sp_of (by decide) rfl (Nat.le_of_ble_eq_true rfl) ?_
  refine wp_aload_n d_Reader_read_0 rfl rfl ?_
  refine wp_iconst d_Reader_read_1 (v := nI 0) rfl ?_
  refine wl_put d_Reader_read_2 lp_Reader_19 sh_100 rfl ⟨rfl, rfl⟩ ?_
  obtain ⟨M1, e2, h⟩ := ob1_some h
  refine wx_M e2 ?_
  refine wp_aload_n d_Reader_read_5 rfl rfl ?_
  refine wp_iconst d_Reader_read_6 (v := (-1)) rfl ?_
  refine wl_put d_Reader_read_7 lp_Reader_22 sh_100 rfl ⟨rfl, rfl⟩ ?_
  obtain ⟨M3, e4, h⟩ := ob1_some h
  refine wx_M e4 ?_
  refine wp_aload_n d_Reader_read_10 rfl rfl ?_
  refine wl_getR d_Reader_read_11 lf_Reader_30 sh_100 rfl ?_
  refine wp_iconst d_Reader_read_14 (v := nI 0) rfl ?_
  refine wl_put d_Reader_read_15 lp_Reader_58 (isR0 isR_found) rfl ⟨rfl, rfl⟩ ?_
  obtain ⟨M5, e6, h⟩ := ob1_some h
  refine wx_M e6 ?_
  refine wp_aload_n d_Reader_read_18 rfl rfl ?_
  refine wp_iconst d_Reader_read_19 (v := nI 0) rfl ?_
  refine wl_put d_Reader_read_20 lp_Reader_37 sh_100 rfl ⟨rfl, rfl⟩ ?_
  obtain ⟨M7, e8, h⟩ := ob1_some h
  refine wx_M e8 ?_
  refine wp_aload_n d_Reader_read_23 rfl rfl ?_
  obtain ⟨M9, e10, h⟩ := ob1_some h
  refine wl_callV0 d_Reader_read_24 lc_Reader_split lv_Reader_61 rfl sh_100 rfl rfl ⟨rfl, rfl⟩ ⟨by decide, by decide⟩ ?_
  refine s_Reader_split (d := d + 20) e10 ?_
  refine wp_aload_n d_Reader_read_27 rfl rfl ?_
  refine wp_iconst d_Reader_read_28 (v := nI 0) rfl ?_
  refine wl_put d_Reader_read_29 lp_Reader_15 sh_100 rfl ⟨rfl, rfl⟩ ?_
  obtain ⟨M11, e12, h⟩ := ob1_some h
  refine wx_M e12 ?_
  have k13 : ∀ u2 u3 : Value, (k_ < (nI 0) ∨ (nI 3) < k_) → wp X (d + 30) f_Reader_read (0, 0) 41 [.ref 100, .int k_, u2, u3] [] (lay M11) Q := by
    intro u2 u3 x14
    replace h := ip h x14
    refine wp_iconst d_Reader_read_41 (v := (-1)) rfl ?_
    cases h
    exact wp_iret d_Reader_read_42 rfl rfl rfl hq
  refine wp_iload_n d_Reader_read_32 rfl rfl ?_
  refine wz_lt 41 d_Reader_read_33 rfl (fun h33 => ?_) (fun h33 => ?_)
  · exact k13 _ _ (Or.inl h33)
  · refine wp_iload_n d_Reader_read_36 rfl rfl ?_
    refine wp_iconst d_Reader_read_37 (v := nI 3) rfl ?_
    refine wq_icmp_le 43 d_Reader_read_38 rfl (fun h38 => ?_) (fun h38 => ?_)
    · replace h := inn h (fun z => z.elim h33 h38)
      refine wp_iconst d_Reader_read_43 (v := nI 0) rfl ?_
      refine wp_istore_n d_Reader_read_44 rfl (by decide) ?_
      refine l_Reader_read_1 hq ?_ _ _ _ _ h
      intro M133 u2 u3 h
      refine wp_aload_n d_Reader_read_152 rfl rfl ?_
      refine wl_getR d_Reader_read_153 lf_Reader_30 sh_100 rfl ?_
      refine wl_getI d_Reader_read_156 lf_Reader_58 (isR0 isR_found) rfl rfl ?_
      cases h
      exact wp_iret d_Reader_read_159 rfl rfl rfl hq
    · exact k13 _ _ (Or.inr h38)
def F_Law_take (l : Nat) (r_newLines : Nat) (wd_newLines : Nat) (mo_newLines : Nat) (c_newCode : Nat) (n_newCode : Nat) (newSize_ : Int32) (M : mM) : Option mM :=
  ob1 (F_Rows_copyFrom (l + 1) 5 16 r_newLines wd_newLines mo_newLines M) fun M1 =>
  ob1 (some (F_Math_min (F_Math_min newSize_ (nI n_newCode)) (nI 400))) fun v3 =>
  ob1 (some (up M1 l 2 v3)) fun M5 =>
  ob1 (wc M5 c_newCode n_newCode (nI 0) (l + 3) 400 (nI 0) (M5 l 2)) fun M8 =>
  some M8
theorem s_Law_take {l : Nat} {r_newLines : Nat} {wd_newLines : Nat} {mo_newLines : Nat} {c_newCode : Nat} {n_newCode : Nat} {newSize_ : Int32} {M : mM} {M' : mM} (hl : isL l) (hr_newLines : isR r_newLines wd_newLines mo_newLines) (hs_newCode : SH[c_newCode]? = some (0, n_newCode, [])) (h : F_Law_take l r_newLines wd_newLines mo_newLines c_newCode n_newCode newSize_ M = some M') (hq : Q none (lay M')) : Sp X (d + 2) f_Law_take [.ref l, .ref r_newLines, .ref c_newCode, .int newSize_] (lay M) Q := by
  refine Sp_of (by decide) rfl (Nat.le_of_ble_eq_true rfl) ?_
  refine wp_aload_n d_Law_take_0 rfl rfl ?_
  refine wl_getR d_Law_take_1 lf_Law_14 (shL0 hl) rfl ?_
  refine wp_aload_n d_Law_take_4 rfl rfl ?_
  obtain ⟨M1, e2, h⟩ := ob1_some h
  refine wl_callV1 d_Law_take_5 lc_Rows_copyFrom lv_Law_31 rfl (isR0 (isR_lines hl)) rfl rfl ⟨rfl, rfl⟩ ⟨by decide, by decide⟩ ?_
  refine s_Rows_copyFrom (d := d) (isR_lines hl) hr_newLines e2 ?_
  refine wp_aload_n d_Law_take_8 rfl rfl ?_
  refine wp_iload_n d_Law_take_9 rfl rfl ?_
  refine wp_aload_n d_Law_take_10 rfl rfl ?_
  refine wl_alen (by decide) d_Law_take_11 hs_newCode ?_
  refine wl_mmin d_Law_take_12 ls_Law_35 rfl ⟨by decide, by decide⟩ ?_
  refine wp_sipush d_Law_take_15 (v := nI 400) rfl ?_
  refine wl_mmin d_Law_take_18 ls_Law_35 rfl ⟨by decide, by decide⟩ ?_
  obtain ⟨v3, e4, h⟩ := ob1_some h
  refine wx_int e4 ?_
  refine wl_put d_Law_take_21 lp_Law_24 (shL0 hl) rfl ⟨rfl, rfl⟩ ?_
  obtain ⟨M5, e6, h⟩ := ob1_some h
  refine wx_M e6 ?_
  refine wp_aload_n d_Law_take_24 rfl rfl ?_
  refine wp_iconst d_Law_take_25 (v := nI 0) rfl ?_
  refine wp_aload_n d_Law_take_26 rfl rfl ?_
  refine wl_getR d_Law_take_27 lf_Law_20 (shL0 hl) rfl ?_
  refine wp_iconst d_Law_take_30 (v := nI 0) rfl ?_
  refine wp_aload_n d_Law_take_31 rfl rfl ?_
  refine wl_getI d_Law_take_32 lf_Law_24 (shL0 hl) rfl rfl ?_
  obtain ⟨M8, e7, h⟩ := ob1_some h
  refine wa_copy d_Law_take_35 lac_Law_41 hs_newCode (shL3 hl) e7 ?_
  cases h
  exact wp_ret d_Law_take_38 rfl rfl hq
def F_Told_take (t : Nat) (k_ : Int32) (M : mM) : Option mM :=
  if k_ = (nI 0) then
  ob1 (F_Law_take (t + 1) 102 5 16 104 400 (M 100 6) M) fun M7 =>
  some M7
  else
  if k_ = (nI 1) then
  ob1 (F_Rows_copyFrom (t + 6) 5 16 102 5 16 M) fun M5 =>
  some M5
  else
  if k_ = (nI 2) then
  ob1 (F_Rows_copyFrom (t + 8) 5 16 102 5 16 M) fun M3 =>
  some M3
  else
  if k_ = (nI 3) then
  ob1 (F_Rows_copyFrom (t + 10) 5 16 102 5 16 M) fun M1 =>
  some M1
  else
  some M
theorem s_Told_take {t : Nat} {k_ : Int32} {M : mM} {M' : mM} (ht : isTd t) (h : F_Told_take t k_ M = some M') (hq : Q none (lay M')) : Sp X (d + 3) f_Told_take [.ref t, .int k_, .ref 100] (lay M) Q := by
  refine Sp_of (by decide) rfl (Nat.le_of_ble_eq_true rfl) ?_
  refine wp_iload_n d_Told_take_0 rfl rfl ?_
  refine wz_ne 26 d_Told_take_1 rfl (fun h1 => ?_) (fun h1 => ?_)
  · replace h := inn h h1
    refine wp_iload_n d_Told_take_26 rfl rfl ?_
    refine wp_iconst d_Told_take_27 (v := nI 1) rfl ?_
    refine wq_icmp_ne 45 d_Told_take_28 rfl (fun h28 => ?_) (fun h28 => ?_)
    · replace h := inn h h28
      refine wp_iload_n d_Told_take_45 rfl rfl ?_
      refine wp_iconst d_Told_take_46 (v := nI 2) rfl ?_
      refine wq_icmp_ne 64 d_Told_take_47 rfl (fun h47 => ?_) (fun h47 => ?_)
      · replace h := inn h h47
        refine wp_iload_n d_Told_take_64 rfl rfl ?_
        refine wp_iconst d_Told_take_65 (v := nI 3) rfl ?_
        refine wq_icmp_ne 80 d_Told_take_66 rfl (fun h66 => ?_) (fun h66 => ?_)
        · replace h := inn h h66
          cases h
          exact wp_ret d_Told_take_80 rfl rfl hq
        · replace h := ip h h66
          refine wp_aload_n d_Told_take_69 rfl rfl ?_
          refine wl_getR d_Told_take_70 lf_Told_30 (shT0 ht) rfl ?_
          refine wp_aload_n d_Told_take_73 rfl rfl ?_
          refine wl_getR d_Told_take_74 lf_Told_48 sh_100 rfl ?_
          obtain ⟨M1, e2, h⟩ := ob1_some h
          refine wl_callV1 d_Told_take_77 lc_Rows_copyFrom lv_Told_65 rfl (isR0 (isR_strips ht)) rfl rfl ⟨rfl, rfl⟩ ⟨by decide, by decide⟩ ?_
          refine s_Rows_copyFrom (d := d + 1) (isR_strips ht) isR_found e2 ?_
          cases h
          exact wp_ret d_Told_take_80 rfl rfl hq
      · replace h := ip h h47
        refine wp_aload_n d_Told_take_50 rfl rfl ?_
        refine wl_getR d_Told_take_51 lf_Told_27 (shT0 ht) rfl ?_
        refine wp_aload_n d_Told_take_54 rfl rfl ?_
        refine wl_getR d_Told_take_55 lf_Told_48 sh_100 rfl ?_
        obtain ⟨M3, e4, h⟩ := ob1_some h
        refine wl_callV1 d_Told_take_58 lc_Rows_copyFrom lv_Told_65 rfl (isR0 (isR_sky ht)) rfl rfl ⟨rfl, rfl⟩ ⟨by decide, by decide⟩ ?_
        refine s_Rows_copyFrom (d := d + 1) (isR_sky ht) isR_found e4 ?_
        refine wp_goto 80 d_Told_take_61 rfl ?_
        cases h
        exact wp_ret d_Told_take_80 rfl rfl hq
    · replace h := ip h h28
      refine wp_aload_n d_Told_take_31 rfl rfl ?_
      refine wl_getR d_Told_take_32 lf_Told_23 (shT0 ht) rfl ?_
      refine wp_aload_n d_Told_take_35 rfl rfl ?_
      refine wl_getR d_Told_take_36 lf_Told_48 sh_100 rfl ?_
      obtain ⟨M5, e6, h⟩ := ob1_some h
      refine wl_callV1 d_Told_take_39 lc_Rows_copyFrom lv_Told_65 rfl (isR0 (isR_flight ht)) rfl rfl ⟨rfl, rfl⟩ ⟨by decide, by decide⟩ ?_
      refine s_Rows_copyFrom (d := d + 1) (isR_flight ht) isR_found e6 ?_
      refine wp_goto 80 d_Told_take_42 rfl ?_
      cases h
      exact wp_ret d_Told_take_80 rfl rfl hq
  · replace h := ip h h1
    refine wp_aload_n d_Told_take_4 rfl rfl ?_
    refine wl_getR d_Told_take_5 lf_Told_12 (shT0 ht) rfl ?_
    refine wp_aload_n d_Told_take_8 rfl rfl ?_
    refine wl_getR d_Told_take_9 lf_Told_48 sh_100 rfl ?_
    refine wp_aload_n d_Told_take_12 rfl rfl ?_
    refine wl_getR d_Told_take_13 lf_Told_53 sh_100 rfl ?_
    refine wp_aload_n d_Told_take_16 rfl rfl ?_
    refine wl_getI d_Told_take_17 lf_Told_57 sh_100 rfl rfl ?_
    obtain ⟨M7, e8, h⟩ := ob1_some h
    refine wl_callV3 d_Told_take_20 lc_Law_take lv_Told_61 rfl (shL0 (isL_of ht)) rfl rfl ⟨rfl, rfl⟩ ⟨by decide, by decide⟩ ?_
    refine s_Law_take (d := d) (isL_of ht) isR_found sh_104 e8 ?_
    refine wp_goto 80 d_Told_take_23 rfl ?_
    cases h
    exact wp_ret d_Told_take_80 rfl rfl hq
def F_Rec_text (z : Nat) (k_ : Int32) (M : mM) : Option (Int32 × mM) :=
  ob2 (F_Reader_read z k_ M) fun v1 M2 =>
  if v1 = (-1) then
  some ((-1), M2)
  else
  ob1 (F_Told_take 28 k_ M2) fun M4 =>
  ob1 (if (k_ = (nI 1) ∨ k_ = (nI 2)) then
  ob1 (F_Rec_forget M4) fun M15 =>
  some (M15)
  else
  some (M4)) fun M11 =>
  some (v1, M11)
theorem s_Rec_text {k_ : Int32} {M : mM} {r : Int32} {M' : mM} (h : F_Rec_text z k_ M = some (r, M')) (hq : Q (some (.int r)) (lay M')) : Sp X (d + 31) f_Rec_text [.ref 0, .int k_] (lay M) Q := by
  refine Sp_of (by decide) rfl (Nat.le_of_ble_eq_true rfl) ?_
  refine wp_aload_n d_Rec_text_0 rfl rfl ?_
  refine wl_getR d_Rec_text_1 lf_Rec_47 sh_0 rfl ?_
  refine wp_iload_n d_Rec_text_4 rfl rfl ?_
  obtain ⟨v1, M2, e3, h⟩ := ob2_some h
  refine wl_callV1 d_Rec_text_5 lc_Reader_read lv_Rec_156 rfl sh_100 rfl rfl ⟨rfl, rfl⟩ ⟨by decide, by decide⟩ ?_
  refine s_Reader_read (d := d) e3 ?_
  refine wp_istore_n d_Rec_text_8 rfl (by decide) ?_
  refine wp_iload_n d_Rec_text_9 rfl rfl ?_
  refine wp_iconst d_Rec_text_10 (v := (-1)) rfl ?_
  refine wq_icmp_ne 16 d_Rec_text_11 rfl (fun h11 => ?_) (fun h11 => ?_)
  · replace h := inn h h11
    refine wp_aload_n d_Rec_text_16 rfl rfl ?_
    refine wl_getR d_Rec_text_17 lf_Rec_19 sh_0 rfl ?_
    refine wp_iload_n d_Rec_text_20 rfl rfl ?_
    refine wp_aload_n d_Rec_text_21 rfl rfl ?_
    refine wl_getR d_Rec_text_22 lf_Rec_47 sh_0 rfl ?_
    obtain ⟨M4, e5, h⟩ := ob1_some h
    refine wl_callV2 d_Rec_text_25 lc_Told_take lv_Rec_160 rfl (shT0 isTd_28) rfl rfl ⟨rfl, rfl⟩ ⟨by decide, by decide⟩ ?_
    refine s_Told_take (d := d + 27) isTd_28 e5 ?_
    obtain ⟨M11, e12, h⟩ := ob1_some h
    have k10 : wp X (d + 31) f_Rec_text (0, 0) 42 [.ref 0, .int k_, .int v1] [] (lay M11) Q := by
      refine wp_iload_n d_Rec_text_42 rfl rfl ?_
      cases h
      exact wp_iret d_Rec_text_43 rfl rfl rfl hq
    have k13 : (k_ = (nI 1) ∨ k_ = (nI 2)) → wp X (d + 31) f_Rec_text (0, 0) 38 [.ref 0, .int k_, .int v1] [] (lay M4) Q := by
      intro x14
      replace e12 := ip e12 x14
      refine wp_aload_n d_Rec_text_38 rfl rfl ?_
      obtain ⟨M15, e16, e12⟩ := ob1_some e12
      refine wl_callV0 d_Rec_text_39 lc_Rec_forget lv_Rec_78 rfl sh_0 rfl rfl ⟨rfl, rfl⟩ ⟨by decide, by decide⟩ ?_
      refine s_Rec_forget (d := d + 30) e16 ?_
      cases e12
      exact k10
    refine wp_iload_n d_Rec_text_28 rfl rfl ?_
    refine wp_iconst d_Rec_text_29 (v := nI 1) rfl ?_
    refine wq_icmp_eq 38 d_Rec_text_30 rfl (fun h30 => ?_) (fun h30 => ?_)
    · exact k13 (Or.inl h30)
    · refine wp_iload_n d_Rec_text_33 rfl rfl ?_
      refine wp_iconst d_Rec_text_34 (v := nI 2) rfl ?_
      refine wq_icmp_ne 42 d_Rec_text_35 rfl (fun h35 => ?_) (fun h35 => ?_)
      · replace e12 := inn e12 (fun z => z.elim h30 h35)
        cases e12
        exact k10
      · exact k13 (Or.inr h35)
  · replace h := ip h h11
    refine wp_iconst d_Rec_text_14 (v := (-1)) rfl ?_
    cases h
    exact wp_iret d_Rec_text_15 rfl rfl rfl hq
end S145
