/-! methods as functions: printed by program -/
section S1419
variable {X : mXs} {d z : Nat} {Q : Option Value → mH → Prop}
def F_Mod_says (z : Nat) (what_ : Int32) (M : mM) : Option (Int32 × mM) :=
  if ¬ ((F_Mod_isIn what_ (nI 0) (nI 2)) = true) then
  some ((-1), M)
  else
  ob2 (if what_ = (nI 0) then
  ob1 (ob1 (ob1 (F_Mod_doesSay z M) fun v81 =>
  some (v81)) fun x73 =>
  if x73 = true then
  some (nI 1)
  else
  some (nI 0)) fun v71 =>
  some (v71, M)
  else
  ob2 (if what_ = (nI 1) then
  ob2 (F_Mod_sayingWays z M) fun v57 M58 =>
  some (v57, M58)
  else
  ob2 (F_Mod_longest z M) fun v54 M55 =>
  some (v54, M55)) fun v51 M53 =>
  some (v51, M53)) fun v41 M43 =>
  some (v41, M43)
theorem s_Mod_says {what_ : Int32} {M : mM} {r : Int32} {M' : mM} (h : F_Mod_says z what_ M = some (r, M')) (hq : Q (some (.int r)) (lay M')) : Sp X (d + 4) f_Mod_says [.ref 312, .int what_] (lay M) Q := by
  refine Sp_of (by decide) rfl (Nat.le_of_ble_eq_true rfl) ?_
  refine wp_aload_n d_Mod_says_0 rfl rfl ?_
  refine wp_iconst d_Mod_says_1 (v := nI 0) rfl ?_
  refine wl_putC d_Mod_says_2 lp_Mod_107 sh_312 rfl ⟨rfl, rfl⟩ ?_
  refine wp_aload_n d_Mod_says_5 rfl rfl ?_
  refine wp_iload_n d_Mod_says_6 rfl rfl ?_
  refine wp_iconst d_Mod_says_7 (v := nI 0) rfl ?_
  refine wp_iconst d_Mod_says_8 (v := nI 2) rfl ?_
  refine wl_callV3 d_Mod_says_9 lc_Mod_isIn lv_Mod_135 rfl sh_312 rfl rfl ⟨rfl, rfl⟩ ⟨by decide, by decide⟩ ?_
  refine s_Mod_isIn (d := d + 3) rfl ?_
  refine wc_ne 17 d_Mod_says_12 rfl (fun h12 => ?_) (fun h12 => ?_)
  · replace h := inn h (fun z => z h12)
    obtain ⟨v41, M43, e42, h⟩ := ob2_some h
    have k40 : wp X (d + 4) f_Mod_says (0, 0) 52 [.ref 312, .int what_] [.int v41] (lay M43) Q := by
      cases h
      exact wp_iret d_Mod_says_52 rfl rfl rfl hq
    refine wp_iload_n d_Mod_says_17 rfl rfl ?_
    refine wz_ne 36 d_Mod_says_18 rfl (fun h18 => ?_) (fun h18 => ?_)
    · replace e42 := inn e42 h18
      obtain ⟨v51, M53, e52, e42⟩ := ob2_some e42
      have k50 : wp X (d + 4) f_Mod_says (0, 0) 52 [.ref 312, .int what_] [.int v51] (lay M53) Q := by
        cases e42
        exact k40
      refine wp_iload_n d_Mod_says_36 rfl rfl ?_
      refine wp_iconst d_Mod_says_37 (v := nI 1) rfl ?_
      refine wq_icmp_ne 48 d_Mod_says_38 rfl (fun h38 => ?_) (fun h38 => ?_)
      · replace e52 := inn e52 h38
        refine wp_aload_n d_Mod_says_48 rfl rfl ?_
        obtain ⟨v54, M55, e56, e52⟩ := ob2_some e52
        refine wl_callV0 d_Mod_says_49 lc_Mod_longest lv_Mod_416 rfl sh_312 rfl rfl ⟨rfl, rfl⟩ ⟨by decide, by decide⟩ ?_
        refine s_Mod_longest (d := d) e56 ?_
        cases e52
        exact k50
      · replace e52 := ip e52 h38
        refine wp_aload_n d_Mod_says_41 rfl rfl ?_
        obtain ⟨v57, M58, e59, e52⟩ := ob2_some e52
        refine wl_callV0 d_Mod_says_42 lc_Mod_sayingWays lv_Mod_413 rfl sh_312 rfl rfl ⟨rfl, rfl⟩ ⟨by decide, by decide⟩ ?_
        refine s_Mod_sayingWays (d := d) e59 ?_
        cases e52
        refine wp_goto 52 d_Mod_says_45 rfl ?_
        exact k50
    · replace e42 := ip e42 h18
      obtain ⟨v71, e72, e42⟩ := ob1_some e42
      have k70 : wp X (d + 4) f_Mod_says (0, 0) 52 [.ref 312, .int what_] [.int v71] (lay M) Q := by
        cases e42
        exact k40
      obtain ⟨x73, e74, e72⟩ := ob1_some e72
      have k77 : x73 = true → wp X (d + 4) f_Mod_says (0, 0) 28 [.ref 312, .int what_] [] (lay M) Q := by
        intro x78
        replace e72 := ip e72 x78
        refine wp_iconst d_Mod_says_28 (v := nI 1) rfl ?_
        cases e72
        refine wp_goto 52 d_Mod_says_29 rfl ?_
        exact k70
      have k79 : ¬ x73 = true → wp X (d + 4) f_Mod_says (0, 0) 32 [.ref 312, .int what_] [] (lay M) Q := by
        intro x80
        replace e72 := inn e72 x80
        refine wp_iconst d_Mod_says_32 (v := nI 0) rfl ?_
        cases e72
        refine wp_goto 52 d_Mod_says_33 rfl ?_
        exact k70
      refine wp_aload_n d_Mod_says_21 rfl rfl ?_
      obtain ⟨v81, e82, e74⟩ := ob1_some e74
      refine wl_callV0 d_Mod_says_22 lc_Mod_doesSay lv_Mod_410 rfl sh_312 rfl rfl ⟨rfl, rfl⟩ ⟨by decide, by decide⟩ ?_
      refine s_Mod_doesSay (d := d) e82 ?_
      refine wc_eq 32 d_Mod_says_25 rfl (fun h25 => ?_) (fun h25 => ?_)
      · cases e74
        exact k79 h25
      · cases e74
        exact k77 h25
  · replace h := ip h h12
    refine wp_iconst d_Mod_says_15 (v := (-1)) rfl ?_
    cases h
    exact wp_iret d_Mod_says_16 rfl rfl rfl hq
def L_Mod_pass_1 (z : Nat) (w_ : Int32) (what_ : Int32) (M : mM) (kt : Int32 → Int32 → Option (Int32)) : Nat → Int32 → Int32 → Int32 → Option (Int32)
  | 0, _, _, _ => none
  | n + 1, n_, free_, i_ =>
    if i_ < (nI 60) then
    ob1 (ob1 (ob1 (F_Mod_isTaken z i_ M) fun v24 =>
    some (v24)) fun x16 =>
    if x16 = true then
    some (nI 0)
    else
    some (free_ + (nI 1))) fun v14 =>
    if v14 < w_ then
    L_Mod_pass_1 z w_ what_ M kt n n_ v14 (i_ + nI 1)
    else
    if what_ = (nI 0) then
    some ((i_ - w_) + (nI 1))
    else
    L_Mod_pass_1 z w_ what_ M kt n (n_ + (nI 1)) v14 (i_ + nI 1)
    else
    kt n_ free_
def F_Mod_pass (z : Nat) (w_ : Int32) (what_ : Int32) (M : mM) : Option (Int32) :=
  if (¬ ((F_Mod_isIn w_ (nI 1) (nI 59)) = true) ∨ ¬ ((F_Mod_isIn what_ (nI 0) (nI 1)) = true)) then
  some ((-1))
  else
  L_Mod_pass_1 z w_ what_ M (fun (n_26 : Int32) (free_27 : Int32) =>
  some ((if what_ = (nI 0) then (-1) else n_26))) z (nI 0) (nI 0) (nI 0)
theorem l_Mod_pass_1 {w_ : Int32} {what_ : Int32} {M : mM} {kt : Int32 → Int32 → Option (Int32)}  {r : Int32} (hq : Q (some (.int r)) (lay M)) (K : ∀ (n_r : Int32) (free_r : Int32) (u5 : Value), kt n_r free_r = some r → wp X (d + 3) f_Mod_pass (0, 0) 92 [.ref 312, .int w_, .int what_, .int n_r, .int free_r, u5] [] (lay M) Q) : ∀ (n : Nat) (n_ : Int32) (free_ : Int32) (i_ : Int32), L_Mod_pass_1 z w_ what_ M kt n n_ free_ i_ = some r → wp X (d + 3) f_Mod_pass (0, 0) 36 [.ref 312, .int w_, .int what_, .int n_, .int free_, .int i_] [] (lay M) Q := by
  intro n
  induction n with
  | zero => intro n_ free_ i_ h; exact nn h
  | succ n ih =>
    intro n_ free_ i_ h
    refine wp_iload d_Mod_pass_36 rfl ?_
    refine wp_bipush d_Mod_pass_38 (v := nI 60) rfl ?_
    refine wq_icmp_ge 92 d_Mod_pass_40 rfl (fun h40 => ?_) (fun h40 => ?_)
    · replace h := inn h h40
      exact K _ _ _ h
    · replace h := ip h h40
      obtain ⟨v14, e15, h⟩ := ob1_some h
      have k13 : wp X (d + 3) f_Mod_pass (0, 0) 60 [.ref 312, .int w_, .int what_, .int n_, .int free_, .int i_] [.int v14] (lay M) Q := by
        refine wp_istore d_Mod_pass_60 (by decide) ?_
        refine wp_iload d_Mod_pass_62 rfl ?_
        refine wp_iload_n d_Mod_pass_64 rfl rfl ?_
        refine wq_icmp_ge 71 d_Mod_pass_65 rfl (fun h65 => ?_) (fun h65 => ?_)
        · replace h := inn h h65
          refine wp_iload_n d_Mod_pass_71 rfl rfl ?_
          refine wz_ne 82 d_Mod_pass_72 rfl (fun h72 => ?_) (fun h72 => ?_)
          · replace h := inn h h72
            refine wp_iload_n d_Mod_pass_82 rfl rfl ?_
            refine wp_iconst d_Mod_pass_83 (v := nI 1) rfl ?_
            refine wp_iadd d_Mod_pass_84 ?_
            refine wp_istore_n d_Mod_pass_85 rfl (by decide) ?_
            refine wp_iinc d_Mod_pass_86 (v := i_ + nI 1) rfl rfl ?_
            refine wp_goto 36 d_Mod_pass_89 rfl ?_
            exact ih _ _ _ h
          · replace h := ip h h72
            refine wp_iload d_Mod_pass_75 rfl ?_
            refine wp_iload_n d_Mod_pass_77 rfl rfl ?_
            refine wp_isub d_Mod_pass_78 ?_
            refine wp_iconst d_Mod_pass_79 (v := nI 1) rfl ?_
            refine wp_iadd d_Mod_pass_80 ?_
            cases h
            exact wp_iret d_Mod_pass_81 rfl rfl rfl hq
        · replace h := ip h h65
          refine wp_goto 86 d_Mod_pass_68 rfl ?_
          refine wp_iinc d_Mod_pass_86 (v := i_ + nI 1) rfl rfl ?_
          refine wp_goto 36 d_Mod_pass_89 rfl ?_
          exact ih _ _ _ h
      obtain ⟨x16, e17, e15⟩ := ob1_some e15
      have k20 : x16 = true → wp X (d + 3) f_Mod_pass (0, 0) 52 [.ref 312, .int w_, .int what_, .int n_, .int free_, .int i_] [] (lay M) Q := by
        intro x21
        replace e15 := ip e15 x21
        refine wp_iconst d_Mod_pass_52 (v := nI 0) rfl ?_
        cases e15
        refine wp_goto 60 d_Mod_pass_53 rfl ?_
        exact k13
      have k22 : ¬ x16 = true → wp X (d + 3) f_Mod_pass (0, 0) 56 [.ref 312, .int w_, .int what_, .int n_, .int free_, .int i_] [] (lay M) Q := by
        intro x23
        replace e15 := inn e15 x23
        refine wp_iload d_Mod_pass_56 rfl ?_
        refine wp_iconst d_Mod_pass_58 (v := nI 1) rfl ?_
        refine wp_iadd d_Mod_pass_59 ?_
        cases e15
        exact k13
      refine wp_aload_n d_Mod_pass_43 rfl rfl ?_
      refine wp_iload d_Mod_pass_44 rfl ?_
      obtain ⟨v24, e25, e17⟩ := ob1_some e17
      refine wl_callV1 d_Mod_pass_46 lc_Mod_isTaken lv_Mod_332 rfl sh_312 rfl rfl ⟨rfl, rfl⟩ ⟨by decide, by decide⟩ ?_
      refine s_Mod_isTaken (d := d) e25 ?_
      refine wc_eq 56 d_Mod_pass_49 rfl (fun h49 => ?_) (fun h49 => ?_)
      · cases e17
        exact k22 h49
      · cases e17
        exact k20 h49
theorem s_Mod_pass {w_ : Int32} {what_ : Int32} {M : mM} {r : Int32} (h : F_Mod_pass z w_ what_ M = some r) (hq : Q (some (.int r)) (lay M)) : Sp X (d + 3) f_Mod_pass [.ref 312, .int w_, .int what_] (lay M) Q := by
  refine Sp_of (by decide) rfl (Nat.le_of_ble_eq_true rfl) ?_
  refine wp_aload_n d_Mod_pass_0 rfl rfl ?_
  refine wp_iconst d_Mod_pass_1 (v := nI 0) rfl ?_
  refine wl_putC d_Mod_pass_2 lp_Mod_107 sh_312 rfl ⟨rfl, rfl⟩ ?_
  have k1 : ∀ u3 u4 u5 : Value, (¬ ((F_Mod_isIn w_ (nI 1) (nI 59)) = true) ∨ ¬ ((F_Mod_isIn what_ (nI 0) (nI 1)) = true)) → wp X (d + 3) f_Mod_pass (0, 0) 26 [.ref 312, .int w_, .int what_, u3, u4, u5] [] (lay M) Q := by
    intro u3 u4 u5 x2
    replace h := ip h x2
    refine wp_iconst d_Mod_pass_26 (v := (-1)) rfl ?_
    cases h
    exact wp_iret d_Mod_pass_27 rfl rfl rfl hq
  refine wp_aload_n d_Mod_pass_5 rfl rfl ?_
  refine wp_iload_n d_Mod_pass_6 rfl rfl ?_
  refine wp_iconst d_Mod_pass_7 (v := nI 1) rfl ?_
  refine wp_bipush d_Mod_pass_8 (v := nI 59) rfl ?_
  refine wl_callV3 d_Mod_pass_10 lc_Mod_isIn lv_Mod_135 rfl sh_312 rfl rfl ⟨rfl, rfl⟩ ⟨by decide, by decide⟩ ?_
  refine s_Mod_isIn (d := d + 2) rfl ?_
  refine wc_eq 26 d_Mod_pass_13 rfl (fun h13 => ?_) (fun h13 => ?_)
  · exact k1 _ _ _ (Or.inl h13)
  · refine wp_aload_n d_Mod_pass_16 rfl rfl ?_
    refine wp_iload_n d_Mod_pass_17 rfl rfl ?_
    refine wp_iconst d_Mod_pass_18 (v := nI 0) rfl ?_
    refine wp_iconst d_Mod_pass_19 (v := nI 1) rfl ?_
    refine wl_callV3 d_Mod_pass_20 lc_Mod_isIn lv_Mod_135 rfl sh_312 rfl rfl ⟨rfl, rfl⟩ ⟨by decide, by decide⟩ ?_
    refine s_Mod_isIn (d := d + 2) rfl ?_
    refine wc_ne 28 d_Mod_pass_23 rfl (fun h23 => ?_) (fun h23 => ?_)
    · replace h := inn h (fun z => z.elim (fun z => z h13) (fun z => z h23))
      refine wp_iconst d_Mod_pass_28 (v := nI 0) rfl ?_
      refine wp_istore_n d_Mod_pass_29 rfl (by decide) ?_
      refine wp_iconst d_Mod_pass_30 (v := nI 0) rfl ?_
      refine wp_istore d_Mod_pass_31 (by decide) ?_
      refine wp_iconst d_Mod_pass_33 (v := nI 0) rfl ?_
      refine wp_istore d_Mod_pass_34 (by decide) ?_
      refine l_Mod_pass_1 hq ?_ _ _ _ _ h
      intro n_26 free_27 u5 h
      have k28 : ∀ u5 : Value, wp X (d + 3) f_Mod_pass (0, 0) 101 [.ref 312, .int w_, .int what_, .int n_26, .int free_27, u5] [.int (if what_ = (nI 0) then (-1) else n_26)] (lay M) Q := by
        intro u5
        cases h
        exact wp_iret d_Mod_pass_101 rfl rfl rfl hq
      refine wp_iload_n d_Mod_pass_92 rfl rfl ?_
      refine wz_ne 100 d_Mod_pass_93 rfl (fun h93 => ?_) (fun h93 => ?_)
      · refine wp_iload_n d_Mod_pass_100 rfl rfl ?_
        exact wj_in h93 (k28 _)
      · refine wp_iconst d_Mod_pass_96 (v := (-1)) rfl ?_
        refine wp_goto 101 d_Mod_pass_97 rfl ?_
        exact wj_ip h93 (k28 _)
    · exact k1 _ _ _ (Or.inr h23)
def F_Mod_words (legs_ : Int32) (worth_ : Int32) (M : mM) : Option (Int32 × mM) :=
  if legs_ = (-1) then
  ob1 (some (up M 312 42 (nI 0))) fun M9 =>
  some (nI 0, M9)
  else
  if ((¬ ((F_Mod_isIn legs_ (nI 1) (nI 30)) = true) ∨ ¬ ((F_Mod_isIn worth_ (nI 0) (nI 99)) = true)) ∨ (M 312 42) = (nI 6)) then
  some ((-1), M)
  else
  ob1 (wa M 335 6 (M 312 42) legs_) fun M4 =>
  ob1 (wa M4 336 6 (M4 312 42) worth_) fun M6 =>
  ob1 (some (up M6 312 42 ((M6 312 42) + (nI 1)))) fun M7 =>
  some (M7 312 42, M7)
theorem s_Mod_words {legs_ : Int32} {worth_ : Int32} {M : mM} {r : Int32} {M' : mM} (h : F_Mod_words legs_ worth_ M = some (r, M')) (hq : Q (some (.int r)) (lay M')) : Sp X (d + 1) f_Mod_words [.ref 312, .int legs_, .int worth_] (lay M) Q := by
  refine Sp_of (by decide) rfl (Nat.le_of_ble_eq_true rfl) ?_
  refine wp_aload_n d_Mod_words_0 rfl rfl ?_
  refine wp_iconst d_Mod_words_1 (v := nI 0) rfl ?_
  refine wl_putC d_Mod_words_2 lp_Mod_107 sh_312 rfl ⟨rfl, rfl⟩ ?_
  refine wp_iload_n d_Mod_words_5 rfl rfl ?_
  refine wp_iconst d_Mod_words_6 (v := (-1)) rfl ?_
  refine wq_icmp_ne 17 d_Mod_words_7 rfl (fun h7 => ?_) (fun h7 => ?_)
  · replace h := inn h h7
    have k1 : ((¬ ((F_Mod_isIn legs_ (nI 1) (nI 30)) = true) ∨ ¬ ((F_Mod_isIn worth_ (nI 0) (nI 99)) = true)) ∨ (M 312 42) = (nI 6)) → wp X (d + 1) f_Mod_words (0, 0) 48 [.ref 312, .int legs_, .int worth_] [] (lay M) Q := by
      intro x2
      replace h := ip h x2
      refine wp_iconst d_Mod_words_48 (v := (-1)) rfl ?_
      cases h
      exact wp_iret d_Mod_words_49 rfl rfl rfl hq
    refine wp_aload_n d_Mod_words_17 rfl rfl ?_
    refine wp_iload_n d_Mod_words_18 rfl rfl ?_
    refine wp_iconst d_Mod_words_19 (v := nI 1) rfl ?_
    refine wp_bipush d_Mod_words_20 (v := nI 30) rfl ?_
    refine wl_callV3 d_Mod_words_22 lc_Mod_isIn lv_Mod_135 rfl sh_312 rfl rfl ⟨rfl, rfl⟩ ⟨by decide, by decide⟩ ?_
    refine s_Mod_isIn (d := d) rfl ?_
    refine wc_eq 48 d_Mod_words_25 rfl (fun h25 => ?_) (fun h25 => ?_)
    · exact k1 (Or.inl (Or.inl h25))
    · refine wp_aload_n d_Mod_words_28 rfl rfl ?_
      refine wp_iload_n d_Mod_words_29 rfl rfl ?_
      refine wp_iconst d_Mod_words_30 (v := nI 0) rfl ?_
      refine wp_bipush d_Mod_words_31 (v := nI 99) rfl ?_
      refine wl_callV3 d_Mod_words_33 lc_Mod_isIn lv_Mod_135 rfl sh_312 rfl rfl ⟨rfl, rfl⟩ ⟨by decide, by decide⟩ ?_
      refine s_Mod_isIn (d := d) rfl ?_
      refine wc_eq 48 d_Mod_words_36 rfl (fun h36 => ?_) (fun h36 => ?_)
      · exact k1 (Or.inl (Or.inr h36))
      · refine wp_aload_n d_Mod_words_39 rfl rfl ?_
        refine wl_getI d_Mod_words_40 lf_Mod_419 sh_312 rfl rfl ?_
        refine wp_bipush d_Mod_words_43 (v := nI 6) rfl ?_
        refine wq_icmp_ne 50 d_Mod_words_45 rfl (fun h45 => ?_) (fun h45 => ?_)
        · replace h := inn h (fun z => z.elim (fun z => z.elim (fun z => z h25) (fun z => z h36)) h45)
          refine wp_aload_n d_Mod_words_50 rfl rfl ?_
          refine wl_getR d_Mod_words_51 lf_Mod_80 sh_312 rfl ?_
          refine wp_aload_n d_Mod_words_54 rfl rfl ?_
          refine wl_getI d_Mod_words_55 lf_Mod_419 sh_312 rfl rfl ?_
          refine wp_iload_n d_Mod_words_58 rfl rfl ?_
          obtain ⟨M4, e3, h⟩ := ob1_some h
          refine wa_ast d_Mod_words_59 sh_335 e3 ?_
          refine wp_aload_n d_Mod_words_60 rfl rfl ?_
          refine wl_getR d_Mod_words_61 lf_Mod_83 sh_312 rfl ?_
          refine wp_aload_n d_Mod_words_64 rfl rfl ?_
          refine wl_getI d_Mod_words_65 lf_Mod_419 sh_312 rfl rfl ?_
          refine wp_iload_n d_Mod_words_68 rfl rfl ?_
          obtain ⟨M6, e5, h⟩ := ob1_some h
          refine wa_ast d_Mod_words_69 sh_336 e5 ?_
          refine wp_aload_n d_Mod_words_70 rfl rfl ?_
          refine wp_aload_n d_Mod_words_71 rfl rfl ?_
          refine wl_getI d_Mod_words_72 lf_Mod_419 sh_312 rfl rfl ?_
          refine wp_iconst d_Mod_words_75 (v := nI 1) rfl ?_
          refine wp_iadd d_Mod_words_76 ?_
          refine wl_put d_Mod_words_77 lp_Mod_419 sh_312 rfl ⟨rfl, rfl⟩ ?_
          obtain ⟨M7, e8, h⟩ := ob1_some h
          refine wx_M e8 ?_
          refine wp_aload_n d_Mod_words_80 rfl rfl ?_
          refine wl_getI d_Mod_words_81 lf_Mod_419 sh_312 rfl rfl ?_
          cases h
          exact wp_iret d_Mod_words_84 rfl rfl rfl hq
        · exact k1 (Or.inr h45)
  · replace h := ip h h7
    refine wp_aload_n d_Mod_words_10 rfl rfl ?_
    refine wp_iconst d_Mod_words_11 (v := nI 0) rfl ?_
    refine wl_put d_Mod_words_12 lp_Mod_419 sh_312 rfl ⟨rfl, rfl⟩ ?_
    obtain ⟨M9, e10, h⟩ := ob1_some h
    refine wx_M e10 ?_
    refine wp_iconst d_Mod_words_15 (v := nI 0) rfl ?_
    cases h
    exact wp_iret d_Mod_words_16 rfl rfl rfl hq
def L_Mod_wordsOf_1 (z : Nat) (set_ : Int32) (ofLegs_ : Bool) (M : mM) : Nat → Int32 → Int32 → Option (Int32)
  | 0, _, _ => none
  | n + 1, sum_, k_ =>
    if k_ < (M 312 42) then
    ob1 (if (F_Mod_has set_ k_) = true then
    ob1 (if ofLegs_ = true then
    ob1 (ra M 335 6 k_) fun v25 =>
    some (v25)
    else
    ob1 (ra M 336 6 k_) fun v23 =>
    some (v23)) fun v20 =>
    some (sum_ + v20)
    else
    some (sum_)) fun sum_13 =>
    L_Mod_wordsOf_1 z set_ ofLegs_ M n sum_13 (k_ + nI 1)
    else
    some (sum_)
def F_Mod_wordsOf (z : Nat) (set_ : Int32) (ofLegs_ : Bool) (M : mM) : Option (Int32) :=
  ob1 (L_Mod_wordsOf_1 z set_ ofLegs_ M z (nI 0) (nI 0)) fun sum_26 =>
  some (sum_26)
theorem l_Mod_wordsOf_1 {set_ : Int32} {ofLegs_ : Bool} {M : mM}  {sum_r : Int32} (K : ∀ u4 : Value, wp X (d + 1) f_Mod_wordsOf (0, 0) 54 [.ref 312, .int set_, .int (bI ofLegs_), .int sum_r, u4] [] (lay M) Q) : ∀ (n : Nat) (sum_ : Int32) (k_ : Int32), L_Mod_wordsOf_1 z set_ ofLegs_ M n sum_ k_ = some (sum_r) → wp X (d + 1) f_Mod_wordsOf (0, 0) 5 [.ref 312, .int set_, .int (bI ofLegs_), .int sum_, .int k_] [] (lay M) Q := by
  intro n
  induction n with
  | zero => intro sum_ k_ h; exact nn h
  | succ n ih =>
    intro sum_ k_ h
    refine wp_iload d_Mod_wordsOf_5 rfl ?_
    refine wp_aload_n d_Mod_wordsOf_7 rfl rfl ?_
    refine wl_getI d_Mod_wordsOf_8 lf_Mod_419 sh_312 rfl rfl ?_
    refine wq_icmp_ge 54 d_Mod_wordsOf_11 rfl (fun h11 => ?_) (fun h11 => ?_)
    · replace h := inn h h11
      cases h
      exact K _
    · replace h := ip h h11
      obtain ⟨sum_13, e14, h⟩ := ob1_some h
      have k12 : wp X (d + 1) f_Mod_wordsOf (0, 0) 48 [.ref 312, .int set_, .int (bI ofLegs_), .int sum_13, .int k_] [] (lay M) Q := by
        refine wp_iinc d_Mod_wordsOf_48 (v := k_ + nI 1) rfl rfl ?_
        refine wp_goto 5 d_Mod_wordsOf_51 rfl ?_
        exact ih _ _ h
      refine wp_aload_n d_Mod_wordsOf_14 rfl rfl ?_
      refine wp_iload_n d_Mod_wordsOf_15 rfl rfl ?_
      refine wp_iload d_Mod_wordsOf_16 rfl ?_
      refine wl_callV2 d_Mod_wordsOf_18 lc_Mod_has lv_Mod_422 rfl sh_312 rfl rfl ⟨rfl, rfl⟩ ⟨by decide, by decide⟩ ?_
      refine s_Mod_has (d := d) rfl ?_
      refine wc_eq 48 d_Mod_wordsOf_21 rfl (fun h21 => ?_) (fun h21 => ?_)
      · replace e14 := inn e14 h21
        cases e14
        exact k12
      · replace e14 := ip e14 h21
        refine wp_iload_n d_Mod_wordsOf_24 rfl rfl ?_
        obtain ⟨v20, e21, e14⟩ := ob1_some e14
        have k19 : wp X (d + 1) f_Mod_wordsOf (0, 0) 46 [.ref 312, .int set_, .int (bI ofLegs_), .int sum_, .int k_] [.int v20, .int sum_] (lay M) Q := by
          refine wp_iadd d_Mod_wordsOf_46 ?_
          refine wp_istore_n d_Mod_wordsOf_47 rfl (by decide) ?_
          cases e14
          exact k12
        refine wp_iload_n d_Mod_wordsOf_25 rfl rfl ?_
        refine wc_eq 39 d_Mod_wordsOf_26 rfl (fun h26 => ?_) (fun h26 => ?_)
        · replace e21 := inn e21 h26
          refine wp_aload_n d_Mod_wordsOf_39 rfl rfl ?_
          refine wl_getR d_Mod_wordsOf_40 lf_Mod_83 sh_312 rfl ?_
          refine wp_iload d_Mod_wordsOf_43 rfl ?_
          obtain ⟨v23, e22, e21⟩ := ob1_some e21
          refine wa_ald d_Mod_wordsOf_45 sh_336 e22 ?_
          cases e21
          exact k19
        · replace e21 := ip e21 h26
          refine wp_aload_n d_Mod_wordsOf_29 rfl rfl ?_
          refine wl_getR d_Mod_wordsOf_30 lf_Mod_80 sh_312 rfl ?_
          refine wp_iload d_Mod_wordsOf_33 rfl ?_
          obtain ⟨v25, e24, e21⟩ := ob1_some e21
          refine wa_ald d_Mod_wordsOf_35 sh_335 e24 ?_
          cases e21
          refine wp_goto 46 d_Mod_wordsOf_36 rfl ?_
          exact k19
theorem s_Mod_wordsOf {set_ : Int32} {ofLegs_ : Bool} {M : mM} {r : Int32} (h : F_Mod_wordsOf z set_ ofLegs_ M = some r) (hq : Q (some (.int r)) (lay M)) : Sp X (d + 1) f_Mod_wordsOf [.ref 312, .int set_, .int (bI ofLegs_)] (lay M) Q := by
  refine Sp_of (by decide) rfl (Nat.le_of_ble_eq_true rfl) ?_
  refine wp_iconst d_Mod_wordsOf_0 (v := nI 0) rfl ?_
  refine wp_istore_n d_Mod_wordsOf_1 rfl (by decide) ?_
  refine wp_iconst d_Mod_wordsOf_2 (v := nI 0) rfl ?_
  refine wp_istore d_Mod_wordsOf_3 (by decide) ?_
  obtain ⟨sum_26, e27, h⟩ := ob1_some h
  refine l_Mod_wordsOf_1 ?_ _ _ _ e27
  intro u4
  refine wp_iload_n d_Mod_wordsOf_54 rfl rfl ?_
  cases h
  exact wp_iret d_Mod_wordsOf_55 rfl rfl rfl hq
def L_Mod_legs_1 (z : Nat) (all_ : Int32) (M : mM) : Nat → Int32 → Int32 → Option (Int32)
  | 0, _, _ => none
  | n + 1, best_, set_ =>
    if set_ < (jshl (nI 1) (M 312 42)) then
    ob1 (ob1 (ob1 (ob1 (F_Mod_wordsOf z set_ true M) fun v72 =>
    some (decide (¬ (all_ < v72)))) fun x60 =>
    if x60 = true then ob1 (F_Mod_wordsOf z set_ false M) fun v66 =>
    ob1 (F_Mod_wordsOf z best_ false M) fun v68 =>
    some (decide (v68 < v66))
    else some (false)) fun x40 =>
    if x40 = true then
    some (set_)
    else
    some (best_)) fun best_38 =>
    L_Mod_legs_1 z all_ M n best_38 (set_ + nI 1)
    else
    some (best_)
def F_Mod_legs (z : Nat) (what_ : Int32) (M : mM) : Option (Int32) :=
  if ¬ ((F_Mod_isIn what_ (nI 0) (nI 1)) = true) then
  some ((-1))
  else
  ob1 (F_Mod_legsOfAll z M) fun v1 =>
  ob1 (L_Mod_legs_1 z v1 M z (nI 0) (nI 1)) fun best_74 =>
  ob1 (if what_ = (nI 0) then
  ob1 (F_Mod_wordsOf z best_74 false M) fun v80 =>
  some (v80)
  else
  some (best_74)) fun v78 =>
  some (v78)
theorem l_Mod_legs_1 {all_ : Int32} {M : mM}  {q1 : Value} {best_r : Int32} (K : ∀ u4 : Value, wp X (d + 2) f_Mod_legs (0, 0) 74 [.ref 312, q1, .int all_, .int best_r, u4] [] (lay M) Q) : ∀ (n : Nat) (best_ : Int32) (set_ : Int32), L_Mod_legs_1 z all_ M n best_ set_ = some (best_r) → wp X (d + 2) f_Mod_legs (0, 0) 27 [.ref 312, q1, .int all_, .int best_, .int set_] [] (lay M) Q := by
  intro n
  induction n with
  | zero => intro best_ set_ h; exact nn h
  | succ n ih =>
    intro best_ set_ h
    refine wp_iload d_Mod_legs_27 rfl ?_
    refine wp_iconst d_Mod_legs_29 (v := nI 1) rfl ?_
    refine wp_aload_n d_Mod_legs_30 rfl rfl ?_
    refine wl_getI d_Mod_legs_31 lf_Mod_419 sh_312 rfl rfl ?_
    refine wp_ishl d_Mod_legs_34 ?_
    refine wq_icmp_ge 74 d_Mod_legs_35 rfl (fun h35 => ?_) (fun h35 => ?_)
    · replace h := inn h h35
      cases h
      exact K _
    · replace h := ip h h35
      obtain ⟨best_38, e39, h⟩ := ob1_some h
      have k37 : wp X (d + 2) f_Mod_legs (0, 0) 68 [.ref 312, q1, .int all_, .int best_38, .int set_] [] (lay M) Q := by
        refine wp_iinc d_Mod_legs_68 (v := set_ + nI 1) rfl rfl ?_
        refine wp_goto 27 d_Mod_legs_71 rfl ?_
        exact ih _ _ h
      obtain ⟨x40, e41, e39⟩ := ob1_some e39
      have k56 : x40 = true → wp X (d + 2) f_Mod_legs (0, 0) 65 [.ref 312, q1, .int all_, .int best_, .int set_] [] (lay M) Q := by
        intro x57
        replace e39 := ip e39 x57
        refine wp_iload d_Mod_legs_65 rfl ?_
        refine wp_istore_n d_Mod_legs_67 rfl (by decide) ?_
        cases e39
        exact k37
      have k58 : ¬ x40 = true → wp X (d + 2) f_Mod_legs (0, 0) 68 [.ref 312, q1, .int all_, .int best_, .int set_] [] (lay M) Q := by
        intro x59
        replace e39 := inn e39 x59
        cases e39
        exact k37
      obtain ⟨x60, e61, e41⟩ := ob1_some e41
      have k64 : x60 = true → wp X (d + 2) f_Mod_legs (0, 0) 49 [.ref 312, q1, .int all_, .int best_, .int set_] [] (lay M) Q := by
        intro x65
        replace e41 := ip e41 x65
        refine wp_aload_n d_Mod_legs_49 rfl rfl ?_
        refine wp_iload d_Mod_legs_50 rfl ?_
        refine wp_iconst d_Mod_legs_52 (v := bI false) rfl ?_
        obtain ⟨v66, e67, e41⟩ := ob1_some e41
        refine wl_callV2 d_Mod_legs_53 lc_Mod_wordsOf lv_Mod_425 rfl sh_312 rfl rfl ⟨rfl, rfl⟩ ⟨by decide, by decide⟩ ?_
        refine s_Mod_wordsOf (d := d) e67 ?_
        refine wp_aload_n d_Mod_legs_56 rfl rfl ?_
        refine wp_iload_n d_Mod_legs_57 rfl rfl ?_
        refine wp_iconst d_Mod_legs_58 (v := bI false) rfl ?_
        obtain ⟨v68, e69, e41⟩ := ob1_some e41
        refine wl_callV2 d_Mod_legs_59 lc_Mod_wordsOf lv_Mod_425 rfl sh_312 rfl rfl ⟨rfl, rfl⟩ ⟨by decide, by decide⟩ ?_
        refine s_Mod_wordsOf (d := d) e69 ?_
        refine wq_icmp_le 68 d_Mod_legs_62 rfl (fun h62 => ?_) (fun h62 => ?_)
        · cases e41
          exact k58 (fun z => h62 (of_decide_eq_true z))
        · cases e41
          exact k56 (decide_eq_true h62)
      have k70 : ¬ x60 = true → wp X (d + 2) f_Mod_legs (0, 0) 68 [.ref 312, q1, .int all_, .int best_, .int set_] [] (lay M) Q := by
        intro x71
        replace e41 := inn e41 x71
        cases e41
        exact k58 (fun z => Bool.noConfusion z)
      refine wp_aload_n d_Mod_legs_38 rfl rfl ?_
      refine wp_iload d_Mod_legs_39 rfl ?_
      refine wp_iconst d_Mod_legs_41 (v := bI true) rfl ?_
      obtain ⟨v72, e73, e61⟩ := ob1_some e61
      refine wl_callV2 d_Mod_legs_42 lc_Mod_wordsOf lv_Mod_425 rfl sh_312 rfl rfl ⟨rfl, rfl⟩ ⟨by decide, by decide⟩ ?_
      refine s_Mod_wordsOf (d := d) e73 ?_
      refine wp_iload_n d_Mod_legs_45 rfl rfl ?_
      refine wq_icmp_gt 68 d_Mod_legs_46 rfl (fun h46 => ?_) (fun h46 => ?_)
      · cases e61
        exact k70 (fun z => (fun z => z h46) (of_decide_eq_true z))
      · cases e61
        exact k64 (decide_eq_true h46)
theorem s_Mod_legs {what_ : Int32} {M : mM} {r : Int32} (h : F_Mod_legs z what_ M = some r) (hq : Q (some (.int r)) (lay M)) : Sp X (d + 2) f_Mod_legs [.ref 312, .int what_] (lay M) Q := by
  refine Sp_of (by decide) rfl (Nat.le_of_ble_eq_true rfl) ?_
  refine wp_aload_n d_Mod_legs_0 rfl rfl ?_
  refine wp_iconst d_Mod_legs_1 (v := nI 0) rfl ?_
  refine wl_putC d_Mod_legs_2 lp_Mod_107 sh_312 rfl ⟨rfl, rfl⟩ ?_
  refine wp_aload_n d_Mod_legs_5 rfl rfl ?_
  refine wp_iload_n d_Mod_legs_6 rfl rfl ?_
  refine wp_iconst d_Mod_legs_7 (v := nI 0) rfl ?_
  refine wp_iconst d_Mod_legs_8 (v := nI 1) rfl ?_
  refine wl_callV3 d_Mod_legs_9 lc_Mod_isIn lv_Mod_135 rfl sh_312 rfl rfl ⟨rfl, rfl⟩ ⟨by decide, by decide⟩ ?_
  refine s_Mod_isIn (d := d + 1) rfl ?_
  refine wc_ne 17 d_Mod_legs_12 rfl (fun h12 => ?_) (fun h12 => ?_)
  · replace h := inn h (fun z => z h12)
    refine wp_aload_n d_Mod_legs_17 rfl rfl ?_
    obtain ⟨v1, e2, h⟩ := ob1_some h
    refine wl_callV0 d_Mod_legs_18 lc_Mod_legsOfAll lv_Mod_385 rfl sh_312 rfl rfl ⟨rfl, rfl⟩ ⟨by decide, by decide⟩ ?_
    refine s_Mod_legsOfAll (d := d + 1) e2 ?_
    refine wp_istore_n d_Mod_legs_21 rfl (by decide) ?_
    refine wp_iconst d_Mod_legs_22 (v := nI 0) rfl ?_
    refine wp_istore_n d_Mod_legs_23 rfl (by decide) ?_
    refine wp_iconst d_Mod_legs_24 (v := nI 1) rfl ?_
    refine wp_istore d_Mod_legs_25 (by decide) ?_
    obtain ⟨best_74, e82, h⟩ := ob1_some h
    refine l_Mod_legs_1 ?_ _ _ _ e82
    intro u4
    obtain ⟨v78, e79, h⟩ := ob1_some h
    have k77 : ∀ u4 : Value, wp X (d + 2) f_Mod_legs (0, 0) 88 [.ref 312, .int what_, .int v1, .int best_74, u4] [.int v78] (lay M) Q := by
      intro u4
      cases h
      exact wp_iret d_Mod_legs_88 rfl rfl rfl hq
    refine wp_iload_n d_Mod_legs_74 rfl rfl ?_
    refine wz_ne 87 d_Mod_legs_75 rfl (fun h75 => ?_) (fun h75 => ?_)
    · replace e79 := inn e79 h75
      refine wp_iload_n d_Mod_legs_87 rfl rfl ?_
      cases e79
      exact k77 _
    · replace e79 := ip e79 h75
      refine wp_aload_n d_Mod_legs_78 rfl rfl ?_
      refine wp_iload_n d_Mod_legs_79 rfl rfl ?_
      refine wp_iconst d_Mod_legs_80 (v := bI false) rfl ?_
      obtain ⟨v80, e81, e79⟩ := ob1_some e79
      refine wl_callV2 d_Mod_legs_81 lc_Mod_wordsOf lv_Mod_425 rfl sh_312 rfl rfl ⟨rfl, rfl⟩ ⟨by decide, by decide⟩ ?_
      refine s_Mod_wordsOf (d := d) e81 ?_
      cases e79
      refine wp_goto 88 d_Mod_legs_84 rfl ?_
      exact k77 _
  · replace h := ip h h12
    refine wp_iconst d_Mod_legs_15 (v := (-1)) rfl ?_
    cases h
    exact wp_iret d_Mod_legs_16 rfl rfl rfl hq
def L_Mod_aheadOf_2 (z : Nat) (M : mM) : Nat → Int32 → Int32 → Option (Int32)
  | 0, _, _ => none
  | n + 1, set_, k_ =>
    if k_ < (nI 12) then
    ob1 (if (F_Mod_has set_ k_) = true then
    ob1 (ra M 329 24 k_) fun v9 =>
    some (set_ ||| v9)
    else
    some (set_)) fun set_6 =>
    L_Mod_aheadOf_2 z M n set_6 (k_ + nI 1)
    else
    some (set_)
def L_Mod_aheadOf_1 (z : Nat) (M : mM) : Nat → Int32 → Int32 → Option (Int32)
  | 0, _, _ => none
  | n + 1, set_, n_ =>
    if n_ < (nI 12) then
    ob1 (L_Mod_aheadOf_2 z M z set_ (nI 0)) fun set_10 =>
    L_Mod_aheadOf_1 z M n set_10 (n_ + nI 1)
    else
    some (set_)
def F_Mod_aheadOf (z : Nat) (s_ : Int32) (M : mM) : Option (Int32) :=
  ob1 (ra M 329 24 s_) fun v2 =>
  ob1 (L_Mod_aheadOf_1 z M z v2 (nI 0)) fun set_12 =>
  some (set_12)
theorem l_Mod_aheadOf_2 {M : mM}  {q1 : Value} {q3 : Value} {set_r : Int32} (K : ∀ u4 : Value, wp X (d + 1) f_Mod_aheadOf (0, 0) 51 [.ref 312, q1, .int set_r, q3, u4] [] (lay M) Q) : ∀ (n : Nat) (set_ : Int32) (k_ : Int32), L_Mod_aheadOf_2 z M n set_ k_ = some (set_r) → wp X (d + 1) f_Mod_aheadOf (0, 0) 18 [.ref 312, q1, .int set_, q3, .int k_] [] (lay M) Q := by
  intro n
  induction n with
  | zero => intro set_ k_ h; exact nn h
  | succ n ih =>
    intro set_ k_ h
    refine wp_iload d_Mod_aheadOf_18 rfl ?_
    refine wp_bipush d_Mod_aheadOf_20 (v := nI 12) rfl ?_
    refine wq_icmp_ge 51 d_Mod_aheadOf_22 rfl (fun h22 => ?_) (fun h22 => ?_)
    · replace h := inn h h22
      cases h
      exact K _
    · replace h := ip h h22
      obtain ⟨set_6, e7, h⟩ := ob1_some h
      have k5 : wp X (d + 1) f_Mod_aheadOf (0, 0) 45 [.ref 312, q1, .int set_6, q3, .int k_] [] (lay M) Q := by
        refine wp_iinc d_Mod_aheadOf_45 (v := k_ + nI 1) rfl rfl ?_
        refine wp_goto 18 d_Mod_aheadOf_48 rfl ?_
        exact ih _ _ h
      refine wp_aload_n d_Mod_aheadOf_25 rfl rfl ?_
      refine wp_iload_n d_Mod_aheadOf_26 rfl rfl ?_
      refine wp_iload d_Mod_aheadOf_27 rfl ?_
      refine wl_callV2 d_Mod_aheadOf_29 lc_Mod_has lv_Mod_422 rfl sh_312 rfl rfl ⟨rfl, rfl⟩ ⟨by decide, by decide⟩ ?_
      refine s_Mod_has (d := d) rfl ?_
      refine wc_eq 45 d_Mod_aheadOf_32 rfl (fun h32 => ?_) (fun h32 => ?_)
      · replace e7 := inn e7 h32
        cases e7
        exact k5
      · replace e7 := ip e7 h32
        refine wp_iload_n d_Mod_aheadOf_35 rfl rfl ?_
        refine wp_aload_n d_Mod_aheadOf_36 rfl rfl ?_
        refine wl_getR d_Mod_aheadOf_37 lf_Mod_62 sh_312 rfl ?_
        refine wp_iload d_Mod_aheadOf_40 rfl ?_
        obtain ⟨v9, e8, e7⟩ := ob1_some e7
        refine wa_ald d_Mod_aheadOf_42 sh_329 e8 ?_
        refine wp_ior d_Mod_aheadOf_43 ?_
        refine wp_istore_n d_Mod_aheadOf_44 rfl (by decide) ?_
        cases e7
        exact k5
theorem l_Mod_aheadOf_1 {M : mM}  {q1 : Value} {set_r : Int32} (K : ∀ u3 u4 : Value, wp X (d + 1) f_Mod_aheadOf (0, 0) 57 [.ref 312, q1, .int set_r, u3, u4] [] (lay M) Q) : ∀ (n : Nat) (set_ : Int32) (n_ : Int32) (u4 : Value), L_Mod_aheadOf_1 z M n set_ n_ = some (set_r) → wp X (d + 1) f_Mod_aheadOf (0, 0) 9 [.ref 312, q1, .int set_, .int n_, u4] [] (lay M) Q := by
  intro n
  induction n with
  | zero => intro set_ n_ u4 h; exact nn h
  | succ n ih =>
    intro set_ n_ u4 h
    refine wp_iload_n d_Mod_aheadOf_9 rfl rfl ?_
    refine wp_bipush d_Mod_aheadOf_10 (v := nI 12) rfl ?_
    refine wq_icmp_ge 57 d_Mod_aheadOf_12 rfl (fun h12 => ?_) (fun h12 => ?_)
    · replace h := inn h h12
      cases h
      exact K _ _
    · replace h := ip h h12
      refine wp_iconst d_Mod_aheadOf_15 (v := nI 0) rfl ?_
      refine wp_istore d_Mod_aheadOf_16 (by decide) ?_
      obtain ⟨set_10, e11, h⟩ := ob1_some h
      refine l_Mod_aheadOf_2 ?_ _ _ _ e11
      intro u4
      refine wp_iinc d_Mod_aheadOf_51 (v := n_ + nI 1) rfl rfl ?_
      refine wp_goto 9 d_Mod_aheadOf_54 rfl ?_
      exact ih _ _ _ h
theorem s_Mod_aheadOf {s_ : Int32} {M : mM} {r : Int32} (h : F_Mod_aheadOf z s_ M = some r) (hq : Q (some (.int r)) (lay M)) : Sp X (d + 1) f_Mod_aheadOf [.ref 312, .int s_] (lay M) Q := by
  refine Sp_of (by decide) rfl (Nat.le_of_ble_eq_true rfl) ?_
  refine wp_aload_n d_Mod_aheadOf_0 rfl rfl ?_
  refine wl_getR d_Mod_aheadOf_1 lf_Mod_62 sh_312 rfl ?_
  refine wp_iload_n d_Mod_aheadOf_4 rfl rfl ?_
  obtain ⟨v2, e1, h⟩ := ob1_some h
  refine wa_ald d_Mod_aheadOf_5 sh_329 e1 ?_
  refine wp_istore_n d_Mod_aheadOf_6 rfl (by decide) ?_
  refine wp_iconst d_Mod_aheadOf_7 (v := nI 0) rfl ?_
  refine wp_istore_n d_Mod_aheadOf_8 rfl (by decide) ?_
  obtain ⟨set_12, e13, h⟩ := ob1_some h
  refine l_Mod_aheadOf_1 ?_ _ _ _ _ e13
  intro u3 u4
  refine wp_iload_n d_Mod_aheadOf_57 rfl rfl ?_
  cases h
  exact wp_iret d_Mod_aheadOf_58 rfl rfl rfl hq
def L_Mod_roundSet_1 (z : Nat) (M : mM) : Nat → Int32 → Int32 → Option (Int32)
  | 0, _, _ => none
  | n + 1, set_, s_ =>
    if s_ < (nI 12) then
    ob1 (ob1 (ob1 (F_Mod_aheadOf z s_ M) fun v22 =>
    some (F_Mod_has v22 s_)) fun x14 =>
    if x14 = true then
    some (set_ ||| (jshl (nI 1) s_))
    else
    some (set_)) fun set_12 =>
    L_Mod_roundSet_1 z M n set_12 (s_ + nI 1)
    else
    some (set_)
def F_Mod_roundSet (z : Nat) (M : mM) : Option (Int32) :=
  ob1 (L_Mod_roundSet_1 z M z (nI 0) (nI 0)) fun set_24 =>
  some (set_24)
theorem l_Mod_roundSet_1 {M : mM}  {set_r : Int32} (K : ∀ u2 : Value, wp X (d + 2) f_Mod_roundSet (0, 0) 35 [.ref 312, .int set_r, u2] [] (lay M) Q) : ∀ (n : Nat) (set_ : Int32) (s_ : Int32), L_Mod_roundSet_1 z M n set_ s_ = some (set_r) → wp X (d + 2) f_Mod_roundSet (0, 0) 4 [.ref 312, .int set_, .int s_] [] (lay M) Q := by
  intro n
  induction n with
  | zero => intro set_ s_ h; exact nn h
  | succ n ih =>
    intro set_ s_ h
    refine wp_iload_n d_Mod_roundSet_4 rfl rfl ?_
    refine wp_bipush d_Mod_roundSet_5 (v := nI 12) rfl ?_
    refine wq_icmp_ge 35 d_Mod_roundSet_7 rfl (fun h7 => ?_) (fun h7 => ?_)
    · replace h := inn h h7
      cases h
      exact K _
    · replace h := ip h h7
      obtain ⟨set_12, e13, h⟩ := ob1_some h
      have k11 : wp X (d + 2) f_Mod_roundSet (0, 0) 29 [.ref 312, .int set_12, .int s_] [] (lay M) Q := by
        refine wp_iinc d_Mod_roundSet_29 (v := s_ + nI 1) rfl rfl ?_
        refine wp_goto 4 d_Mod_roundSet_32 rfl ?_
        exact ih _ _ h
      obtain ⟨x14, e15, e13⟩ := ob1_some e13
      have k18 : x14 = true → wp X (d + 2) f_Mod_roundSet (0, 0) 23 [.ref 312, .int set_, .int s_] [] (lay M) Q := by
        intro x19
        replace e13 := ip e13 x19
        refine wp_iload_n d_Mod_roundSet_23 rfl rfl ?_
        refine wp_iconst d_Mod_roundSet_24 (v := nI 1) rfl ?_
        refine wp_iload_n d_Mod_roundSet_25 rfl rfl ?_
        refine wp_ishl d_Mod_roundSet_26 ?_
        refine wp_ior d_Mod_roundSet_27 ?_
        refine wp_istore_n d_Mod_roundSet_28 rfl (by decide) ?_
        cases e13
        exact k11
      have k20 : ¬ x14 = true → wp X (d + 2) f_Mod_roundSet (0, 0) 29 [.ref 312, .int set_, .int s_] [] (lay M) Q := by
        intro x21
        replace e13 := inn e13 x21
        cases e13
        exact k11
      refine wp_aload_n d_Mod_roundSet_10 rfl rfl ?_
      refine wp_aload_n d_Mod_roundSet_11 rfl rfl ?_
      refine wp_iload_n d_Mod_roundSet_12 rfl rfl ?_
      obtain ⟨v22, e23, e15⟩ := ob1_some e15
      refine wl_callV1 d_Mod_roundSet_13 lc_Mod_aheadOf lv_Mod_429 rfl sh_312 rfl rfl ⟨rfl, rfl⟩ ⟨by decide, by decide⟩ ?_
      refine s_Mod_aheadOf (d := d) e23 ?_
      refine wp_iload_n d_Mod_roundSet_16 rfl rfl ?_
      refine wl_callV2 d_Mod_roundSet_17 lc_Mod_has lv_Mod_422 rfl sh_312 rfl rfl ⟨rfl, rfl⟩ ⟨by decide, by decide⟩ ?_
      refine s_Mod_has (d := d + 1) rfl ?_
      refine wc_eq 29 d_Mod_roundSet_20 rfl (fun h20 => ?_) (fun h20 => ?_)
      · cases e15
        exact k20 h20
      · cases e15
        exact k18 h20
theorem s_Mod_roundSet {M : mM} {r : Int32} (h : F_Mod_roundSet z M = some r) (hq : Q (some (.int r)) (lay M)) : Sp X (d + 2) f_Mod_roundSet [.ref 312] (lay M) Q := by
  refine Sp_of (by decide) rfl (Nat.le_of_ble_eq_true rfl) ?_
  refine wp_iconst d_Mod_roundSet_0 (v := nI 0) rfl ?_
  refine wp_istore_n d_Mod_roundSet_1 rfl (by decide) ?_
  refine wp_iconst d_Mod_roundSet_2 (v := nI 0) rfl ?_
  refine wp_istore_n d_Mod_roundSet_3 rfl (by decide) ?_
  obtain ⟨set_24, e25, h⟩ := ob1_some h
  refine l_Mod_roundSet_1 ?_ _ _ _ e25
  intro u2
  refine wp_iload_n d_Mod_roundSet_35 rfl rfl ?_
  cases h
  exact wp_iret d_Mod_roundSet_36 rfl rfl rfl hq
def L_Mod_underOf_1 (z : Nat) (s_ : Int32) (M : mM) : Nat → Int32 → Int32 → Option (Int32)
  | 0, _, _ => none
  | n + 1, set_, k_ =>
    if k_ < (nI 12) then
    ob1 (ob1 (ob1 (F_Mod_aheadOf z k_ M) fun v22 =>
    some (F_Mod_has v22 s_)) fun x14 =>
    if x14 = true then
    some (set_ ||| (jshl (nI 1) k_))
    else
    some (set_)) fun set_12 =>
    L_Mod_underOf_1 z s_ M n set_12 (k_ + nI 1)
    else
    some (set_)
def F_Mod_underOf (z : Nat) (s_ : Int32) (M : mM) : Option (Int32) :=
  ob1 (L_Mod_underOf_1 z s_ M z (nI 0) (nI 0)) fun set_24 =>
  some (set_24)
theorem l_Mod_underOf_1 {s_ : Int32} {M : mM}  {set_r : Int32} (K : ∀ u3 : Value, wp X (d + 2) f_Mod_underOf (0, 0) 35 [.ref 312, .int s_, .int set_r, u3] [] (lay M) Q) : ∀ (n : Nat) (set_ : Int32) (k_ : Int32), L_Mod_underOf_1 z s_ M n set_ k_ = some (set_r) → wp X (d + 2) f_Mod_underOf (0, 0) 4 [.ref 312, .int s_, .int set_, .int k_] [] (lay M) Q := by
  intro n
  induction n with
  | zero => intro set_ k_ h; exact nn h
  | succ n ih =>
    intro set_ k_ h
    refine wp_iload_n d_Mod_underOf_4 rfl rfl ?_
    refine wp_bipush d_Mod_underOf_5 (v := nI 12) rfl ?_
    refine wq_icmp_ge 35 d_Mod_underOf_7 rfl (fun h7 => ?_) (fun h7 => ?_)
    · replace h := inn h h7
      cases h
      exact K _
    · replace h := ip h h7
      obtain ⟨set_12, e13, h⟩ := ob1_some h
      have k11 : wp X (d + 2) f_Mod_underOf (0, 0) 29 [.ref 312, .int s_, .int set_12, .int k_] [] (lay M) Q := by
        refine wp_iinc d_Mod_underOf_29 (v := k_ + nI 1) rfl rfl ?_
        refine wp_goto 4 d_Mod_underOf_32 rfl ?_
        exact ih _ _ h
      obtain ⟨x14, e15, e13⟩ := ob1_some e13
      have k18 : x14 = true → wp X (d + 2) f_Mod_underOf (0, 0) 23 [.ref 312, .int s_, .int set_, .int k_] [] (lay M) Q := by
        intro x19
        replace e13 := ip e13 x19
        refine wp_iload_n d_Mod_underOf_23 rfl rfl ?_
        refine wp_iconst d_Mod_underOf_24 (v := nI 1) rfl ?_
        refine wp_iload_n d_Mod_underOf_25 rfl rfl ?_
        refine wp_ishl d_Mod_underOf_26 ?_
        refine wp_ior d_Mod_underOf_27 ?_
        refine wp_istore_n d_Mod_underOf_28 rfl (by decide) ?_
        cases e13
        exact k11
      have k20 : ¬ x14 = true → wp X (d + 2) f_Mod_underOf (0, 0) 29 [.ref 312, .int s_, .int set_, .int k_] [] (lay M) Q := by
        intro x21
        replace e13 := inn e13 x21
        cases e13
        exact k11
      refine wp_aload_n d_Mod_underOf_10 rfl rfl ?_
      refine wp_aload_n d_Mod_underOf_11 rfl rfl ?_
      refine wp_iload_n d_Mod_underOf_12 rfl rfl ?_
      obtain ⟨v22, e23, e15⟩ := ob1_some e15
      refine wl_callV1 d_Mod_underOf_13 lc_Mod_aheadOf lv_Mod_429 rfl sh_312 rfl rfl ⟨rfl, rfl⟩ ⟨by decide, by decide⟩ ?_
      refine s_Mod_aheadOf (d := d) e23 ?_
      refine wp_iload_n d_Mod_underOf_16 rfl rfl ?_
      refine wl_callV2 d_Mod_underOf_17 lc_Mod_has lv_Mod_422 rfl sh_312 rfl rfl ⟨rfl, rfl⟩ ⟨by decide, by decide⟩ ?_
      refine s_Mod_has (d := d + 1) rfl ?_
      refine wc_eq 29 d_Mod_underOf_20 rfl (fun h20 => ?_) (fun h20 => ?_)
      · cases e15
        exact k20 h20
      · cases e15
        exact k18 h20
theorem s_Mod_underOf {s_ : Int32} {M : mM} {r : Int32} (h : F_Mod_underOf z s_ M = some r) (hq : Q (some (.int r)) (lay M)) : Sp X (d + 2) f_Mod_underOf [.ref 312, .int s_] (lay M) Q := by
  refine Sp_of (by decide) rfl (Nat.le_of_ble_eq_true rfl) ?_
  refine wp_iconst d_Mod_underOf_0 (v := nI 0) rfl ?_
  refine wp_istore_n d_Mod_underOf_1 rfl (by decide) ?_
  refine wp_iconst d_Mod_underOf_2 (v := nI 0) rfl ?_
  refine wp_istore_n d_Mod_underOf_3 rfl (by decide) ?_
  obtain ⟨set_24, e25, h⟩ := ob1_some h
  refine l_Mod_underOf_1 ?_ _ _ _ e25
  intro u3
  refine wp_iload_n d_Mod_underOf_35 rfl rfl ?_
  cases h
  exact wp_iret d_Mod_underOf_36 rfl rfl rfl hq
def L_Mod_order_1 (z : Nat) (what_ : Int32) (M : mM) : Nat → Int32 → Int32 → Option (Int32)
  | 0, _, _ => none
  | n + 1, set_, s_ =>
    if s_ < (nI 12) then
    ob1 (ob1 (if what_ = (nI 0) then ob1 (ra M 329 24 s_) fun v33 =>
    some (decide (v33 = (nI 0)))
    else ob1 (F_Mod_underOf z s_ M) fun v30 =>
    some (decide (v30 = (nI 0)))) fun x20 =>
    if x20 = true then
    some (set_ ||| (jshl (nI 1) s_))
    else
    some (set_)) fun set_18 =>
    L_Mod_order_1 z what_ M n set_18 (s_ + nI 1)
    else
    some (set_)
def F_Mod_order (z : Nat) (what_ : Int32) (M : mM) : Option (Int32) :=
  if (what_ = (nI 0) ∨ what_ = (nI 2)) then
  ob1 (L_Mod_order_1 z what_ M z (nI 0) (nI 0)) fun set_34 =>
  some (set_34)
  else
  if what_ = (nI 1) then
  ob1 (F_Mod_roundSet z M) fun v67 =>
  some (v67)
  else
  if (F_Mod_isIn what_ (nI 30) (nI 41)) = true then
  ob1 (F_Mod_underOf z (what_ - (nI 30)) M) fun v65 =>
  some (v65)
  else
  if ¬ ((F_Mod_isIn what_ (nI 10) (nI 21)) = true) then
  some ((-1))
  else
  ob1 (F_Mod_aheadOf z (what_ - (nI 10)) M) fun v36 =>
  ob1 (ob1 (ob1 (F_Mod_roundSet z M) fun v63 =>
  some (decide (¬ ((v63 &&& (v36 ||| (jshl (nI 1) (what_ - (nI 10))))) = (nI 0))))) fun x53 =>
  if x53 = true then
  some ((-1))
  else
  ob1 (F_Mod_onesOf z v36) fun v61 =>
  some (v61)) fun v51 =>
  some (v51)
theorem l_Mod_order_1 {what_ : Int32} {M : mM}  {set_r : Int32} (K : ∀ u3 : Value, wp X (d + 3) f_Mod_order (0, 0) 60 [.ref 312, .int what_, .int set_r, u3] [] (lay M) Q) : ∀ (n : Nat) (set_ : Int32) (s_ : Int32), L_Mod_order_1 z what_ M n set_ s_ = some (set_r) → wp X (d + 3) f_Mod_order (0, 0) 18 [.ref 312, .int what_, .int set_, .int s_] [] (lay M) Q := by
  intro n
  induction n with
  | zero => intro set_ s_ h; exact nn h
  | succ n ih =>
    intro set_ s_ h
    refine wp_iload_n d_Mod_order_18 rfl rfl ?_
    refine wp_bipush d_Mod_order_19 (v := nI 12) rfl ?_
    refine wq_icmp_ge 60 d_Mod_order_21 rfl (fun h21 => ?_) (fun h21 => ?_)
    · replace h := inn h h21
      cases h
      exact K _
    · replace h := ip h h21
      obtain ⟨set_18, e19, h⟩ := ob1_some h
      have k17 : wp X (d + 3) f_Mod_order (0, 0) 54 [.ref 312, .int what_, .int set_18, .int s_] [] (lay M) Q := by
        refine wp_iinc d_Mod_order_54 (v := s_ + nI 1) rfl rfl ?_
        refine wp_goto 18 d_Mod_order_57 rfl ?_
        exact ih _ _ h
      obtain ⟨x20, e21, e19⟩ := ob1_some e19
      have k26 : x20 = true → wp X (d + 3) f_Mod_order (0, 0) 48 [.ref 312, .int what_, .int set_, .int s_] [] (lay M) Q := by
        intro x27
        replace e19 := ip e19 x27
        refine wp_iload_n d_Mod_order_48 rfl rfl ?_
        refine wp_iconst d_Mod_order_49 (v := nI 1) rfl ?_
        refine wp_iload_n d_Mod_order_50 rfl rfl ?_
        refine wp_ishl d_Mod_order_51 ?_
        refine wp_ior d_Mod_order_52 ?_
        refine wp_istore_n d_Mod_order_53 rfl (by decide) ?_
        cases e19
        exact k17
      have k28 : ¬ x20 = true → wp X (d + 3) f_Mod_order (0, 0) 54 [.ref 312, .int what_, .int set_, .int s_] [] (lay M) Q := by
        intro x29
        replace e19 := inn e19 x29
        cases e19
        exact k17
      refine wp_iload_n d_Mod_order_24 rfl rfl ?_
      refine wz_ne 40 d_Mod_order_25 rfl (fun h25 => ?_) (fun h25 => ?_)
      · replace e21 := inn e21 h25
        refine wp_aload_n d_Mod_order_40 rfl rfl ?_
        refine wp_iload_n d_Mod_order_41 rfl rfl ?_
        obtain ⟨v30, e31, e21⟩ := ob1_some e21
        refine wl_callV1 d_Mod_order_42 lc_Mod_underOf lv_Mod_432 rfl sh_312 rfl rfl ⟨rfl, rfl⟩ ⟨by decide, by decide⟩ ?_
        refine s_Mod_underOf (d := d) e31 ?_
        refine wz_ne 54 d_Mod_order_45 rfl (fun h45 => ?_) (fun h45 => ?_)
        · cases e21
          exact k28 (fun z => h45 (of_decide_eq_true z))
        · cases e21
          exact k26 (decide_eq_true h45)
      · replace e21 := ip e21 h25
        refine wp_aload_n d_Mod_order_28 rfl rfl ?_
        refine wl_getR d_Mod_order_29 lf_Mod_62 sh_312 rfl ?_
        refine wp_iload_n d_Mod_order_32 rfl rfl ?_
        obtain ⟨v33, e32, e21⟩ := ob1_some e21
        refine wa_ald d_Mod_order_33 sh_329 e32 ?_
        refine wz_ne 54 d_Mod_order_34 rfl (fun h34 => ?_) (fun h34 => ?_)
        · cases e21
          exact k28 (fun z => h34 (of_decide_eq_true z))
        · cases e21
          refine wp_goto 48 d_Mod_order_37 rfl ?_
          exact k26 (decide_eq_true h34)
theorem s_Mod_order {what_ : Int32} {M : mM} {r : Int32} (h : F_Mod_order z what_ M = some r) (hq : Q (some (.int r)) (lay M)) : Sp X (d + 3) f_Mod_order [.ref 312, .int what_] (lay M) Q := by
  refine Sp_of (by decide) rfl (Nat.le_of_ble_eq_true rfl) ?_
  refine wp_aload_n d_Mod_order_0 rfl rfl ?_
  refine wp_iconst d_Mod_order_1 (v := nI 0) rfl ?_
  refine wl_putC d_Mod_order_2 lp_Mod_107 sh_312 rfl ⟨rfl, rfl⟩ ?_
  refine wp_iconst d_Mod_order_5 (v := nI 0) rfl ?_
  refine wp_istore_n d_Mod_order_6 rfl (by decide) ?_
  have k1 : ∀ u3 : Value, (what_ = (nI 0) ∨ what_ = (nI 2)) → wp X (d + 3) f_Mod_order (0, 0) 16 [.ref 312, .int what_, .int (nI 0), u3] [] (lay M) Q := by
    intro u3 x2
    replace h := ip h x2
    refine wp_iconst d_Mod_order_16 (v := nI 0) rfl ?_
    refine wp_istore_n d_Mod_order_17 rfl (by decide) ?_
    obtain ⟨set_34, e35, h⟩ := ob1_some h
    refine l_Mod_order_1 ?_ _ _ _ e35
    intro u3
    refine wp_iload_n d_Mod_order_60 rfl rfl ?_
    cases h
    exact wp_iret d_Mod_order_61 rfl rfl rfl hq
  refine wp_iload_n d_Mod_order_7 rfl rfl ?_
  refine wz_eq 16 d_Mod_order_8 rfl (fun h8 => ?_) (fun h8 => ?_)
  · exact k1 _ (Or.inl h8)
  · refine wp_iload_n d_Mod_order_11 rfl rfl ?_
    refine wp_iconst d_Mod_order_12 (v := nI 2) rfl ?_
    refine wq_icmp_ne 62 d_Mod_order_13 rfl (fun h13 => ?_) (fun h13 => ?_)
    · replace h := inn h (fun z => z.elim h8 h13)
      refine wp_iload_n d_Mod_order_62 rfl rfl ?_
      refine wp_iconst d_Mod_order_63 (v := nI 1) rfl ?_
      refine wq_icmp_ne 72 d_Mod_order_64 rfl (fun h64 => ?_) (fun h64 => ?_)
      · replace h := inn h h64
        refine wp_aload_n d_Mod_order_72 rfl rfl ?_
        refine wp_iload_n d_Mod_order_73 rfl rfl ?_
        refine wp_bipush d_Mod_order_74 (v := nI 30) rfl ?_
        refine wp_bipush d_Mod_order_76 (v := nI 41) rfl ?_
        refine wl_callV3 d_Mod_order_78 lc_Mod_isIn lv_Mod_135 rfl sh_312 rfl rfl ⟨rfl, rfl⟩ ⟨by decide, by decide⟩ ?_
        refine s_Mod_isIn (d := d + 2) rfl ?_
        refine wc_eq 93 d_Mod_order_81 rfl (fun h81 => ?_) (fun h81 => ?_)
        · replace h := inn h h81
          refine wp_aload_n d_Mod_order_93 rfl rfl ?_
          refine wp_iload_n d_Mod_order_94 rfl rfl ?_
          refine wp_bipush d_Mod_order_95 (v := nI 10) rfl ?_
          refine wp_bipush d_Mod_order_97 (v := nI 21) rfl ?_
          refine wl_callV3 d_Mod_order_99 lc_Mod_isIn lv_Mod_135 rfl sh_312 rfl rfl ⟨rfl, rfl⟩ ⟨by decide, by decide⟩ ?_
          refine s_Mod_isIn (d := d + 2) rfl ?_
          refine wc_ne 107 d_Mod_order_102 rfl (fun h102 => ?_) (fun h102 => ?_)
          · replace h := inn h (fun z => z h102)
            refine wp_aload_n d_Mod_order_107 rfl rfl ?_
            refine wp_iload_n d_Mod_order_108 rfl rfl ?_
            refine wp_bipush d_Mod_order_109 (v := nI 10) rfl ?_
            refine wp_isub d_Mod_order_111 ?_
            obtain ⟨v36, e37, h⟩ := ob1_some h
            refine wl_callV1 d_Mod_order_112 lc_Mod_aheadOf lv_Mod_429 rfl sh_312 rfl rfl ⟨rfl, rfl⟩ ⟨by decide, by decide⟩ ?_
            refine s_Mod_aheadOf (d := d + 1) e37 ?_
            refine wp_istore_n d_Mod_order_115 rfl (by decide) ?_
            obtain ⟨v51, e52, h⟩ := ob1_some h
            have k50 : ∀ u3 : Value, wp X (d + 3) f_Mod_order (0, 0) 141 [.ref 312, .int what_, .int v36, u3] [.int v51] (lay M) Q := by
              intro u3
              cases h
              exact wp_iret d_Mod_order_141 rfl rfl rfl hq
            obtain ⟨x53, e54, e52⟩ := ob1_some e52
            have k57 : ∀ u3 : Value, x53 = true → wp X (d + 3) f_Mod_order (0, 0) 132 [.ref 312, .int what_, .int v36, u3] [] (lay M) Q := by
              intro u3 x58
              replace e52 := ip e52 x58
              refine wp_iconst d_Mod_order_132 (v := (-1)) rfl ?_
              cases e52
              refine wp_goto 141 d_Mod_order_133 rfl ?_
              exact k50 _
            have k59 : ∀ u3 : Value, ¬ x53 = true → wp X (d + 3) f_Mod_order (0, 0) 136 [.ref 312, .int what_, .int v36, u3] [] (lay M) Q := by
              intro u3 x60
              replace e52 := inn e52 x60
              refine wp_aload_n d_Mod_order_136 rfl rfl ?_
              refine wp_iload_n d_Mod_order_137 rfl rfl ?_
              obtain ⟨v61, e62, e52⟩ := ob1_some e52
              refine wl_callV1 d_Mod_order_138 lc_Mod_onesOf lv_Mod_438 rfl sh_312 rfl rfl ⟨rfl, rfl⟩ ⟨by decide, by decide⟩ ?_
              refine s_Mod_onesOf (d := d + 2) e62 ?_
              cases e52
              exact k50 _
            refine wp_aload_n d_Mod_order_116 rfl rfl ?_
            obtain ⟨v63, e64, e54⟩ := ob1_some e54
            refine wl_callV0 d_Mod_order_117 lc_Mod_roundSet lv_Mod_435 rfl sh_312 rfl rfl ⟨rfl, rfl⟩ ⟨by decide, by decide⟩ ?_
            refine s_Mod_roundSet (d := d) e64 ?_
            refine wp_iload_n d_Mod_order_120 rfl rfl ?_
            refine wp_iconst d_Mod_order_121 (v := nI 1) rfl ?_
            refine wp_iload_n d_Mod_order_122 rfl rfl ?_
            refine wp_bipush d_Mod_order_123 (v := nI 10) rfl ?_
            refine wp_isub d_Mod_order_125 ?_
            refine wp_ishl d_Mod_order_126 ?_
            refine wp_ior d_Mod_order_127 ?_
            refine wp_iand d_Mod_order_128 ?_
            refine wz_eq 136 d_Mod_order_129 rfl (fun h129 => ?_) (fun h129 => ?_)
            · cases e54
              exact k59 _ (fun z => (fun z => z h129) (of_decide_eq_true z))
            · cases e54
              exact k57 _ (decide_eq_true h129)
          · replace h := ip h h102
            refine wp_iconst d_Mod_order_105 (v := (-1)) rfl ?_
            cases h
            exact wp_iret d_Mod_order_106 rfl rfl rfl hq
        · replace h := ip h h81
          refine wp_aload_n d_Mod_order_84 rfl rfl ?_
          refine wp_iload_n d_Mod_order_85 rfl rfl ?_
          refine wp_bipush d_Mod_order_86 (v := nI 30) rfl ?_
          refine wp_isub d_Mod_order_88 ?_
          obtain ⟨v65, e66, h⟩ := ob1_some h
          refine wl_callV1 d_Mod_order_89 lc_Mod_underOf lv_Mod_432 rfl sh_312 rfl rfl ⟨rfl, rfl⟩ ⟨by decide, by decide⟩ ?_
          refine s_Mod_underOf (d := d) e66 ?_
          cases h
          exact wp_iret d_Mod_order_92 rfl rfl rfl hq
      · replace h := ip h h64
        refine wp_aload_n d_Mod_order_67 rfl rfl ?_
        obtain ⟨v67, e68, h⟩ := ob1_some h
        refine wl_callV0 d_Mod_order_68 lc_Mod_roundSet lv_Mod_435 rfl sh_312 rfl rfl ⟨rfl, rfl⟩ ⟨by decide, by decide⟩ ?_
        refine s_Mod_roundSet (d := d) e68 ?_
        cases h
        exact wp_iret d_Mod_order_71 rfl rfl rfl hq
    · exact k1 _ (Or.inr h13)
def F_Mod_sight (strips_ : Int32) (M : mM) : Option (Int32 × mM) :=
  if strips_ = (-1) then
  ob1 (some (up M 312 45 (nI 0))) fun M7 =>
  some (nI 0, M7)
  else
  if (¬ ((F_Mod_isIn strips_ (nI 0) (nI 4095)) = true) ∨ (M 312 45) = (nI 8)) then
  some ((-1), M)
  else
  ob1 (wa M 337 8 (M 312 45) strips_) fun M4 =>
  ob1 (some (up M4 312 45 ((M4 312 45) + (nI 1)))) fun M5 =>
  some (M5 312 45, M5)
theorem s_Mod_sight {strips_ : Int32} {M : mM} {r : Int32} {M' : mM} (h : F_Mod_sight strips_ M = some (r, M')) (hq : Q (some (.int r)) (lay M')) : Sp X (d + 1) f_Mod_sight [.ref 312, .int strips_] (lay M) Q := by
  refine Sp_of (by decide) rfl (Nat.le_of_ble_eq_true rfl) ?_
  refine wp_aload_n d_Mod_sight_0 rfl rfl ?_
  refine wp_iconst d_Mod_sight_1 (v := nI 0) rfl ?_
  refine wl_putC d_Mod_sight_2 lp_Mod_107 sh_312 rfl ⟨rfl, rfl⟩ ?_
  refine wp_iload_n d_Mod_sight_5 rfl rfl ?_
  refine wp_iconst d_Mod_sight_6 (v := (-1)) rfl ?_
  refine wq_icmp_ne 17 d_Mod_sight_7 rfl (fun h7 => ?_) (fun h7 => ?_)
  · replace h := inn h h7
    have k1 : (¬ ((F_Mod_isIn strips_ (nI 0) (nI 4095)) = true) ∨ (M 312 45) = (nI 8)) → wp X (d + 1) f_Mod_sight (0, 0) 38 [.ref 312, .int strips_] [] (lay M) Q := by
      intro x2
      replace h := ip h x2
      refine wp_iconst d_Mod_sight_38 (v := (-1)) rfl ?_
      cases h
      exact wp_iret d_Mod_sight_39 rfl rfl rfl hq
    refine wp_aload_n d_Mod_sight_17 rfl rfl ?_
    refine wp_iload_n d_Mod_sight_18 rfl rfl ?_
    refine wp_iconst d_Mod_sight_19 (v := nI 0) rfl ?_
    refine wp_sipush d_Mod_sight_20 (v := nI 4095) rfl ?_
    refine wl_callV3 d_Mod_sight_23 lc_Mod_isIn lv_Mod_135 rfl sh_312 rfl rfl ⟨rfl, rfl⟩ ⟨by decide, by decide⟩ ?_
    refine s_Mod_isIn (d := d) rfl ?_
    refine wc_eq 38 d_Mod_sight_26 rfl (fun h26 => ?_) (fun h26 => ?_)
    · exact k1 (Or.inl h26)
    · refine wp_aload_n d_Mod_sight_29 rfl rfl ?_
      refine wl_getI d_Mod_sight_30 lf_Mod_441 sh_312 rfl rfl ?_
      refine wp_bipush d_Mod_sight_33 (v := nI 8) rfl ?_
      refine wq_icmp_ne 40 d_Mod_sight_35 rfl (fun h35 => ?_) (fun h35 => ?_)
      · replace h := inn h (fun z => z.elim (fun z => z h26) h35)
        refine wp_aload_n d_Mod_sight_40 rfl rfl ?_
        refine wl_getR d_Mod_sight_41 lf_Mod_86 sh_312 rfl ?_
        refine wp_aload_n d_Mod_sight_44 rfl rfl ?_
        refine wl_getI d_Mod_sight_45 lf_Mod_441 sh_312 rfl rfl ?_
        refine wp_iload_n d_Mod_sight_48 rfl rfl ?_
        obtain ⟨M4, e3, h⟩ := ob1_some h
        refine wa_ast d_Mod_sight_49 sh_337 e3 ?_
        refine wp_aload_n d_Mod_sight_50 rfl rfl ?_
        refine wp_aload_n d_Mod_sight_51 rfl rfl ?_
        refine wl_getI d_Mod_sight_52 lf_Mod_441 sh_312 rfl rfl ?_
        refine wp_iconst d_Mod_sight_55 (v := nI 1) rfl ?_
        refine wp_iadd d_Mod_sight_56 ?_
        refine wl_put d_Mod_sight_57 lp_Mod_441 sh_312 rfl ⟨rfl, rfl⟩ ?_
        obtain ⟨M5, e6, h⟩ := ob1_some h
        refine wx_M e6 ?_
        refine wp_aload_n d_Mod_sight_60 rfl rfl ?_
        refine wl_getI d_Mod_sight_61 lf_Mod_441 sh_312 rfl rfl ?_
        cases h
        exact wp_iret d_Mod_sight_64 rfl rfl rfl hq
      · exact k1 (Or.inr h35)
  · replace h := ip h h7
    refine wp_aload_n d_Mod_sight_10 rfl rfl ?_
    refine wp_iconst d_Mod_sight_11 (v := nI 0) rfl ?_
    refine wl_put d_Mod_sight_12 lp_Mod_441 sh_312 rfl ⟨rfl, rfl⟩ ?_
    obtain ⟨M7, e8, h⟩ := ob1_some h
    refine wx_M e8 ?_
    refine wp_iconst d_Mod_sight_15 (v := nI 0) rfl ?_
    cases h
    exact wp_iret d_Mod_sight_16 rfl rfl rfl hq
def L_Mod_seenBy_1 (z : Nat) (set_ : Int32) (M : mM) : Nat → Int32 → Int32 → Option (Int32)
  | 0, _, _ => none
  | n + 1, all_, k_ =>
    if k_ < (M 312 45) then
    ob1 (if (F_Mod_has set_ k_) = true then
    ob1 (ra M 337 8 k_) fun v7 =>
    some (all_ ||| v7)
    else
    some (all_)) fun all_4 =>
    L_Mod_seenBy_1 z set_ M n all_4 (k_ + nI 1)
    else
    some (all_)
def F_Mod_seenBy (z : Nat) (set_ : Int32) (M : mM) : Option (Int32) :=
  ob1 (L_Mod_seenBy_1 z set_ M z (nI 0) (nI 0)) fun all_8 =>
  some (all_8)
theorem l_Mod_seenBy_1 {set_ : Int32} {M : mM}  {all_r : Int32} (K : ∀ u3 : Value, wp X (d + 1) f_Mod_seenBy (0, 0) 36 [.ref 312, .int set_, .int all_r, u3] [] (lay M) Q) : ∀ (n : Nat) (all_ : Int32) (k_ : Int32), L_Mod_seenBy_1 z set_ M n all_ k_ = some (all_r) → wp X (d + 1) f_Mod_seenBy (0, 0) 4 [.ref 312, .int set_, .int all_, .int k_] [] (lay M) Q := by
  intro n
  induction n with
  | zero => intro all_ k_ h; exact nn h
  | succ n ih =>
    intro all_ k_ h
    refine wp_iload_n d_Mod_seenBy_4 rfl rfl ?_
    refine wp_aload_n d_Mod_seenBy_5 rfl rfl ?_
    refine wl_getI d_Mod_seenBy_6 lf_Mod_441 sh_312 rfl rfl ?_
    refine wq_icmp_ge 36 d_Mod_seenBy_9 rfl (fun h9 => ?_) (fun h9 => ?_)
    · replace h := inn h h9
      cases h
      exact K _
    · replace h := ip h h9
      obtain ⟨all_4, e5, h⟩ := ob1_some h
      have k3 : wp X (d + 1) f_Mod_seenBy (0, 0) 30 [.ref 312, .int set_, .int all_4, .int k_] [] (lay M) Q := by
        refine wp_iinc d_Mod_seenBy_30 (v := k_ + nI 1) rfl rfl ?_
        refine wp_goto 4 d_Mod_seenBy_33 rfl ?_
        exact ih _ _ h
      refine wp_aload_n d_Mod_seenBy_12 rfl rfl ?_
      refine wp_iload_n d_Mod_seenBy_13 rfl rfl ?_
      refine wp_iload_n d_Mod_seenBy_14 rfl rfl ?_
      refine wl_callV2 d_Mod_seenBy_15 lc_Mod_has lv_Mod_422 rfl sh_312 rfl rfl ⟨rfl, rfl⟩ ⟨by decide, by decide⟩ ?_
      refine s_Mod_has (d := d) rfl ?_
      refine wc_eq 30 d_Mod_seenBy_18 rfl (fun h18 => ?_) (fun h18 => ?_)
      · replace e5 := inn e5 h18
        cases e5
        exact k3
      · replace e5 := ip e5 h18
        refine wp_iload_n d_Mod_seenBy_21 rfl rfl ?_
        refine wp_aload_n d_Mod_seenBy_22 rfl rfl ?_
        refine wl_getR d_Mod_seenBy_23 lf_Mod_86 sh_312 rfl ?_
        refine wp_iload_n d_Mod_seenBy_26 rfl rfl ?_
        obtain ⟨v7, e6, e5⟩ := ob1_some e5
        refine wa_ald d_Mod_seenBy_27 sh_337 e6 ?_
        refine wp_ior d_Mod_seenBy_28 ?_
        refine wp_istore_n d_Mod_seenBy_29 rfl (by decide) ?_
        cases e5
        exact k3
theorem s_Mod_seenBy {set_ : Int32} {M : mM} {r : Int32} (h : F_Mod_seenBy z set_ M = some r) (hq : Q (some (.int r)) (lay M)) : Sp X (d + 1) f_Mod_seenBy [.ref 312, .int set_] (lay M) Q := by
  refine Sp_of (by decide) rfl (Nat.le_of_ble_eq_true rfl) ?_
  refine wp_iconst d_Mod_seenBy_0 (v := nI 0) rfl ?_
  refine wp_istore_n d_Mod_seenBy_1 rfl (by decide) ?_
  refine wp_iconst d_Mod_seenBy_2 (v := nI 0) rfl ?_
  refine wp_istore_n d_Mod_seenBy_3 rfl (by decide) ?_
  obtain ⟨all_8, e9, h⟩ := ob1_some h
  refine l_Mod_seenBy_1 ?_ _ _ _ e9
  intro u3
  refine wp_iload_n d_Mod_seenBy_36 rfl rfl ?_
  cases h
  exact wp_iret d_Mod_seenBy_37 rfl rfl rfl hq
def L_Mod_cover_1 (z : Nat) (all_ : Int32) (M : mM) : Nat → Int32 → Int32 → Option (Int32)
  | 0, _, _ => none
  | n + 1, best_, set_ =>
    if set_ < (jshl (nI 1) (M 312 45)) then
    ob1 (ob1 (ob1 (ob1 (F_Mod_onesOf z set_) fun v80 =>
    ob1 (F_Mod_onesOf z best_) fun v82 =>
    some (decide (v80 < v82))) fun x68 =>
    if x68 = true then ob1 (F_Mod_seenBy z set_ M) fun v76 =>
    some (decide (v76 = all_))
    else some (false)) fun x46 =>
    if x46 = true then
    some (set_)
    else
    some (best_)) fun best_44 =>
    L_Mod_cover_1 z all_ M n best_44 (set_ + nI 1)
    else
    some (best_)
def L_Mod_cover_2 (z : Nat) (what_ : Int32) (best_ : Int32) (all_ : Int32) (M : mM) (kt : Option (Int32)) : Nat → Int32 → Option (Int32)
  | 0, _ => none
  | n + 1, set_ =>
    if set_ < best_ then
    ob1 (ob1 (ob1 (F_Mod_onesOf z set_) fun v126 =>
    ob1 (F_Mod_onesOf z best_) fun v128 =>
    some (decide (v126 = v128))) fun x114 =>
    if x114 = true then ob1 (F_Mod_seenBy z set_ M) fun v122 =>
    some (decide (v122 = all_))
    else some (false)) fun x85 =>
    if x85 = true then
    ob1 (if what_ = (nI 0) then
    ob1 (F_Mod_onesOf z set_) fun v110 =>
    some (v110)
    else
    some (set_)) fun v108 =>
    some (v108)
    else
    L_Mod_cover_2 z what_ best_ all_ M kt n (set_ + nI 1)
    else
    kt 
def F_Mod_cover (z : Nat) (what_ : Int32) (M : mM) : Option (Int32) :=
  if ¬ ((F_Mod_isIn what_ (nI 0) (nI 1)) = true) then
  some ((-1))
  else
  ob1 (some ((jshl (nI 1) (M 312 45)) - (nI 1))) fun v1 =>
  ob1 (F_Mod_seenBy z v1 M) fun v3 =>
  ob1 (L_Mod_cover_1 z v3 M z v1 (nI 0)) fun best_84 =>
  L_Mod_cover_2 z what_ best_84 v3 M (ob1 (if what_ = (nI 0) then
  ob1 (F_Mod_onesOf z best_84) fun v135 =>
  some (v135)
  else
  some (best_84)) fun v133 =>
  some (v133)) z (nI 0)
theorem l_Mod_cover_1 {all_ : Int32} {M : mM}  {q1 : Value} {best_r : Int32} (K : ∀ u4 : Value, wp X (d + 2) f_Mod_cover (0, 0) 79 [.ref 312, q1, .int best_r, .int all_, u4] [] (lay M) Q) : ∀ (n : Nat) (best_ : Int32) (set_ : Int32), L_Mod_cover_1 z all_ M n best_ set_ = some (best_r) → wp X (d + 2) f_Mod_cover (0, 0) 35 [.ref 312, q1, .int best_, .int all_, .int set_] [] (lay M) Q := by
  intro n
  induction n with
  | zero => intro best_ set_ h; exact nn h
  | succ n ih =>
    intro best_ set_ h
    refine wp_iload d_Mod_cover_35 rfl ?_
    refine wp_iconst d_Mod_cover_37 (v := nI 1) rfl ?_
    refine wp_aload_n d_Mod_cover_38 rfl rfl ?_
    refine wl_getI d_Mod_cover_39 lf_Mod_441 sh_312 rfl rfl ?_
    refine wp_ishl d_Mod_cover_42 ?_
    refine wq_icmp_ge 79 d_Mod_cover_43 rfl (fun h43 => ?_) (fun h43 => ?_)
    · replace h := inn h h43
      cases h
      exact K _
    · replace h := ip h h43
      obtain ⟨best_44, e45, h⟩ := ob1_some h
      have k43 : wp X (d + 2) f_Mod_cover (0, 0) 73 [.ref 312, q1, .int best_44, .int all_, .int set_] [] (lay M) Q := by
        refine wp_iinc d_Mod_cover_73 (v := set_ + nI 1) rfl rfl ?_
        refine wp_goto 35 d_Mod_cover_76 rfl ?_
        exact ih _ _ h
      obtain ⟨x46, e47, e45⟩ := ob1_some e45
      have k64 : x46 = true → wp X (d + 2) f_Mod_cover (0, 0) 70 [.ref 312, q1, .int best_, .int all_, .int set_] [] (lay M) Q := by
        intro x65
        replace e45 := ip e45 x65
        refine wp_iload d_Mod_cover_70 rfl ?_
        refine wp_istore_n d_Mod_cover_72 rfl (by decide) ?_
        cases e45
        exact k43
      have k66 : ¬ x46 = true → wp X (d + 2) f_Mod_cover (0, 0) 73 [.ref 312, q1, .int best_, .int all_, .int set_] [] (lay M) Q := by
        intro x67
        replace e45 := inn e45 x67
        cases e45
        exact k43
      obtain ⟨x68, e69, e47⟩ := ob1_some e47
      have k74 : x68 = true → wp X (d + 2) f_Mod_cover (0, 0) 60 [.ref 312, q1, .int best_, .int all_, .int set_] [] (lay M) Q := by
        intro x75
        replace e47 := ip e47 x75
        refine wp_aload_n d_Mod_cover_60 rfl rfl ?_
        refine wp_iload d_Mod_cover_61 rfl ?_
        obtain ⟨v76, e77, e47⟩ := ob1_some e47
        refine wl_callV1 d_Mod_cover_63 lc_Mod_seenBy lv_Mod_444 rfl sh_312 rfl rfl ⟨rfl, rfl⟩ ⟨by decide, by decide⟩ ?_
        refine s_Mod_seenBy (d := d) e77 ?_
        refine wp_iload_n d_Mod_cover_66 rfl rfl ?_
        refine wq_icmp_ne 73 d_Mod_cover_67 rfl (fun h67 => ?_) (fun h67 => ?_)
        · cases e47
          exact k66 (fun z => h67 (of_decide_eq_true z))
        · cases e47
          exact k64 (decide_eq_true h67)
      have k78 : ¬ x68 = true → wp X (d + 2) f_Mod_cover (0, 0) 73 [.ref 312, q1, .int best_, .int all_, .int set_] [] (lay M) Q := by
        intro x79
        replace e47 := inn e47 x79
        cases e47
        exact k66 (fun z => Bool.noConfusion z)
      refine wp_aload_n d_Mod_cover_46 rfl rfl ?_
      refine wp_iload d_Mod_cover_47 rfl ?_
      obtain ⟨v80, e81, e69⟩ := ob1_some e69
      refine wl_callV1 d_Mod_cover_49 lc_Mod_onesOf lv_Mod_438 rfl sh_312 rfl rfl ⟨rfl, rfl⟩ ⟨by decide, by decide⟩ ?_
      refine s_Mod_onesOf (d := d + 1) e81 ?_
      refine wp_aload_n d_Mod_cover_52 rfl rfl ?_
      refine wp_iload_n d_Mod_cover_53 rfl rfl ?_
      obtain ⟨v82, e83, e69⟩ := ob1_some e69
      refine wl_callV1 d_Mod_cover_54 lc_Mod_onesOf lv_Mod_438 rfl sh_312 rfl rfl ⟨rfl, rfl⟩ ⟨by decide, by decide⟩ ?_
      refine s_Mod_onesOf (d := d + 1) e83 ?_
      refine wq_icmp_ge 73 d_Mod_cover_57 rfl (fun h57 => ?_) (fun h57 => ?_)
      · cases e69
        exact k78 (fun z => h57 (of_decide_eq_true z))
      · cases e69
        exact k74 (decide_eq_true h57)
theorem l_Mod_cover_2 {what_ : Int32} {best_ : Int32} {all_ : Int32} {M : mM} {kt : Option (Int32)}  {r : Int32} (hq : Q (some (.int r)) (lay M)) (K : ∀  (u4 : Value), kt  = some r → wp X (d + 2) f_Mod_cover (0, 0) 134 [.ref 312, .int what_, .int best_, .int all_, u4] [] (lay M) Q) : ∀ (n : Nat) (set_ : Int32), L_Mod_cover_2 z what_ best_ all_ M kt n set_ = some r → wp X (d + 2) f_Mod_cover (0, 0) 82 [.ref 312, .int what_, .int best_, .int all_, .int set_] [] (lay M) Q := by
  intro n
  induction n with
  | zero => intro set_ h; exact nn h
  | succ n ih =>
    intro set_ h
    refine wp_iload d_Mod_cover_82 rfl ?_
    refine wp_iload_n d_Mod_cover_84 rfl rfl ?_
    refine wq_icmp_ge 134 d_Mod_cover_85 rfl (fun h85 => ?_) (fun h85 => ?_)
    · replace h := inn h h85
      exact K _ h
    · replace h := ip h h85
      obtain ⟨x85, e86, h⟩ := ob1_some h
      have k103 : x85 = true → wp X (d + 2) f_Mod_cover (0, 0) 112 [.ref 312, .int what_, .int best_, .int all_, .int set_] [] (lay M) Q := by
        intro x104
        replace h := ip h x104
        obtain ⟨v108, e109, h⟩ := ob1_some h
        have k107 : wp X (d + 2) f_Mod_cover (0, 0) 127 [.ref 312, .int what_, .int best_, .int all_, .int set_] [.int v108] (lay M) Q := by
          cases h
          exact wp_iret d_Mod_cover_127 rfl rfl rfl hq
        refine wp_iload_n d_Mod_cover_112 rfl rfl ?_
        refine wz_ne 125 d_Mod_cover_113 rfl (fun h113 => ?_) (fun h113 => ?_)
        · replace e109 := inn e109 h113
          refine wp_iload d_Mod_cover_125 rfl ?_
          cases e109
          exact k107
        · replace e109 := ip e109 h113
          refine wp_aload_n d_Mod_cover_116 rfl rfl ?_
          refine wp_iload d_Mod_cover_117 rfl ?_
          obtain ⟨v110, e111, e109⟩ := ob1_some e109
          refine wl_callV1 d_Mod_cover_119 lc_Mod_onesOf lv_Mod_438 rfl sh_312 rfl rfl ⟨rfl, rfl⟩ ⟨by decide, by decide⟩ ?_
          refine s_Mod_onesOf (d := d + 1) e111 ?_
          cases e109
          refine wp_goto 127 d_Mod_cover_122 rfl ?_
          exact k107
      have k112 : ¬ x85 = true → wp X (d + 2) f_Mod_cover (0, 0) 128 [.ref 312, .int what_, .int best_, .int all_, .int set_] [] (lay M) Q := by
        intro x113
        replace h := inn h x113
        refine wp_iinc d_Mod_cover_128 (v := set_ + nI 1) rfl rfl ?_
        refine wp_goto 82 d_Mod_cover_131 rfl ?_
        exact ih _ h
      obtain ⟨x114, e115, e86⟩ := ob1_some e86
      have k120 : x114 = true → wp X (d + 2) f_Mod_cover (0, 0) 102 [.ref 312, .int what_, .int best_, .int all_, .int set_] [] (lay M) Q := by
        intro x121
        replace e86 := ip e86 x121
        refine wp_aload_n d_Mod_cover_102 rfl rfl ?_
        refine wp_iload d_Mod_cover_103 rfl ?_
        obtain ⟨v122, e123, e86⟩ := ob1_some e86
        refine wl_callV1 d_Mod_cover_105 lc_Mod_seenBy lv_Mod_444 rfl sh_312 rfl rfl ⟨rfl, rfl⟩ ⟨by decide, by decide⟩ ?_
        refine s_Mod_seenBy (d := d) e123 ?_
        refine wp_iload_n d_Mod_cover_108 rfl rfl ?_
        refine wq_icmp_ne 128 d_Mod_cover_109 rfl (fun h109 => ?_) (fun h109 => ?_)
        · cases e86
          exact k112 (fun z => h109 (of_decide_eq_true z))
        · cases e86
          exact k103 (decide_eq_true h109)
      have k124 : ¬ x114 = true → wp X (d + 2) f_Mod_cover (0, 0) 128 [.ref 312, .int what_, .int best_, .int all_, .int set_] [] (lay M) Q := by
        intro x125
        replace e86 := inn e86 x125
        cases e86
        exact k112 (fun z => Bool.noConfusion z)
      refine wp_aload_n d_Mod_cover_88 rfl rfl ?_
      refine wp_iload d_Mod_cover_89 rfl ?_
      obtain ⟨v126, e127, e115⟩ := ob1_some e115
      refine wl_callV1 d_Mod_cover_91 lc_Mod_onesOf lv_Mod_438 rfl sh_312 rfl rfl ⟨rfl, rfl⟩ ⟨by decide, by decide⟩ ?_
      refine s_Mod_onesOf (d := d + 1) e127 ?_
      refine wp_aload_n d_Mod_cover_94 rfl rfl ?_
      refine wp_iload_n d_Mod_cover_95 rfl rfl ?_
      obtain ⟨v128, e129, e115⟩ := ob1_some e115
      refine wl_callV1 d_Mod_cover_96 lc_Mod_onesOf lv_Mod_438 rfl sh_312 rfl rfl ⟨rfl, rfl⟩ ⟨by decide, by decide⟩ ?_
      refine s_Mod_onesOf (d := d + 1) e129 ?_
      refine wq_icmp_ne 128 d_Mod_cover_99 rfl (fun h99 => ?_) (fun h99 => ?_)
      · cases e115
        exact k124 (fun z => h99 (of_decide_eq_true z))
      · cases e115
        exact k120 (decide_eq_true h99)
theorem s_Mod_cover {what_ : Int32} {M : mM} {r : Int32} (h : F_Mod_cover z what_ M = some r) (hq : Q (some (.int r)) (lay M)) : Sp X (d + 2) f_Mod_cover [.ref 312, .int what_] (lay M) Q := by
  refine Sp_of (by decide) rfl (Nat.le_of_ble_eq_true rfl) ?_
  refine wp_aload_n d_Mod_cover_0 rfl rfl ?_
  refine wp_iconst d_Mod_cover_1 (v := nI 0) rfl ?_
  refine wl_putC d_Mod_cover_2 lp_Mod_107 sh_312 rfl ⟨rfl, rfl⟩ ?_
  refine wp_aload_n d_Mod_cover_5 rfl rfl ?_
  refine wp_iload_n d_Mod_cover_6 rfl rfl ?_
  refine wp_iconst d_Mod_cover_7 (v := nI 0) rfl ?_
  refine wp_iconst d_Mod_cover_8 (v := nI 1) rfl ?_
  refine wl_callV3 d_Mod_cover_9 lc_Mod_isIn lv_Mod_135 rfl sh_312 rfl rfl ⟨rfl, rfl⟩ ⟨by decide, by decide⟩ ?_
  refine s_Mod_isIn (d := d + 1) rfl ?_
  refine wc_ne 17 d_Mod_cover_12 rfl (fun h12 => ?_) (fun h12 => ?_)
  · replace h := inn h (fun z => z h12)
    refine wp_iconst d_Mod_cover_17 (v := nI 1) rfl ?_
    refine wp_aload_n d_Mod_cover_18 rfl rfl ?_
    refine wl_getI d_Mod_cover_19 lf_Mod_441 sh_312 rfl rfl ?_
    refine wp_ishl d_Mod_cover_22 ?_
    refine wp_iconst d_Mod_cover_23 (v := nI 1) rfl ?_
    refine wp_isub d_Mod_cover_24 ?_
    obtain ⟨v1, e2, h⟩ := ob1_some h
    refine wx_int e2 ?_
    refine wp_istore_n d_Mod_cover_25 rfl (by decide) ?_
    refine wp_aload_n d_Mod_cover_26 rfl rfl ?_
    refine wp_iload_n d_Mod_cover_27 rfl rfl ?_
    obtain ⟨v3, e4, h⟩ := ob1_some h
    refine wl_callV1 d_Mod_cover_28 lc_Mod_seenBy lv_Mod_444 rfl sh_312 rfl rfl ⟨rfl, rfl⟩ ⟨by decide, by decide⟩ ?_
    refine s_Mod_seenBy (d := d) e4 ?_
    refine wp_istore_n d_Mod_cover_31 rfl (by decide) ?_
    refine wp_iconst d_Mod_cover_32 (v := nI 0) rfl ?_
    refine wp_istore d_Mod_cover_33 (by decide) ?_
    obtain ⟨best_84, e137, h⟩ := ob1_some h
    refine l_Mod_cover_1 ?_ _ _ _ e137
    intro u4
    refine wp_iconst d_Mod_cover_79 (v := nI 0) rfl ?_
    refine wp_istore d_Mod_cover_80 (by decide) ?_
    refine l_Mod_cover_2 hq ?_ _ _ h
    intro u4 h
    obtain ⟨v133, e134, h⟩ := ob1_some h
    have k132 : ∀ u4 : Value, wp X (d + 2) f_Mod_cover (0, 0) 147 [.ref 312, .int what_, .int best_84, .int v3, u4] [.int v133] (lay M) Q := by
      intro u4
      cases h
      exact wp_iret d_Mod_cover_147 rfl rfl rfl hq
    refine wp_iload_n d_Mod_cover_134 rfl rfl ?_
    refine wz_ne 146 d_Mod_cover_135 rfl (fun h135 => ?_) (fun h135 => ?_)
    · replace e134 := inn e134 h135
      refine wp_iload_n d_Mod_cover_146 rfl rfl ?_
      cases e134
      exact k132 _
    · replace e134 := ip e134 h135
      refine wp_aload_n d_Mod_cover_138 rfl rfl ?_
      refine wp_iload_n d_Mod_cover_139 rfl rfl ?_
      obtain ⟨v135, e136, e134⟩ := ob1_some e134
      refine wl_callV1 d_Mod_cover_140 lc_Mod_onesOf lv_Mod_438 rfl sh_312 rfl rfl ⟨rfl, rfl⟩ ⟨by decide, by decide⟩ ?_
      refine s_Mod_onesOf (d := d + 1) e136 ?_
      cases e134
      refine wp_goto 147 d_Mod_cover_143 rfl ?_
      exact k132 _
  · replace h := ip h h12
    refine wp_iconst d_Mod_cover_15 (v := (-1)) rfl ?_
    cases h
    exact wp_iret d_Mod_cover_16 rfl rfl rfl hq
end S1419
