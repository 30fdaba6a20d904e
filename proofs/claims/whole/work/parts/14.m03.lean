/-! methods as functions: printed by program -/
section S143
variable {X : mXs} {d z : Nat} {Q : Option Value → mH → Prop}
def L_Rec_days_1 (z : Nat) (n_ : Int32) : Nat → Int32 → mM → Option (mM)
  | 0, _, _ => none
  | n + 1, i_, M =>
    if i_ < n_ then
    ob1 (F_Rec_remember z M) fun M3 =>
    ob1 (F_World_liveDay z 1 28 false M3) fun M5 =>
    L_Rec_days_1 z n_ n (i_ + nI 1) M5
    else
    some (M)
def F_Rec_days (z : Nat) (n_ : Int32) (M : mM) : Option (Int32 × mM) :=
  if (¬ ((F_Rec_within n_ (nI 1) (nI 60)) = true) ∨ (nI 9999) < ((M 1 12) + n_)) then
  some ((-1), M)
  else
  ob1 (L_Rec_days_1 z n_ z (nI 0) M) fun M7 =>
  some ((M7 1 10) - (M 1 10), M7)
theorem l_Rec_days_1 {n_ : Int32}  {q2 : Value} {N' : mM} (K : ∀ u3 : Value, wp X (d + 7) f_Rec_days (0, 0) 64 [.ref 0, .int n_, q2, u3] [] (lay N') Q) : ∀ (n : Nat) (i_ : Int32) (M : mM), L_Rec_days_1 z n_ n i_ M = some (N') → wp X (d + 7) f_Rec_days (0, 0) 37 [.ref 0, .int n_, q2, .int i_] [] (lay M) Q := by
  intro n
  induction n with
  | zero => intro i_ M h; exact nn h
  | succ n ih =>
    intro i_ M h
    refine wp_iload_n d_Rec_days_37 rfl rfl ?_
    refine wp_iload_n d_Rec_days_38 rfl rfl ?_
    refine wq_icmp_ge 64 d_Rec_days_39 rfl (fun h39 => ?_) (fun h39 => ?_)
    · replace h := inn h h39
      cases h
      exact K _
    · replace h := ip h h39
      refine wp_aload_n d_Rec_days_42 rfl rfl ?_
      obtain ⟨M3, e4, h⟩ := ob1_some h
      refine wl_callV0 d_Rec_days_43 lc_Rec_remember lv_Rec_125 rfl sh_0 rfl rfl ⟨rfl, rfl⟩ ⟨by decide, by decide⟩ ?_
      refine s_Rec_remember (d := d + 3) e4 ?_
      refine wp_aload_n d_Rec_days_46 rfl rfl ?_
      refine wl_getR d_Rec_days_47 lf_Rec_12 sh_0 rfl ?_
      refine wp_aload_n d_Rec_days_50 rfl rfl ?_
      refine wl_getR d_Rec_days_51 lf_Rec_19 sh_0 rfl ?_
      refine wp_iconst d_Rec_days_54 (v := bI false) rfl ?_
      obtain ⟨M5, e6, h⟩ := ob1_some h
      refine wl_callV2 d_Rec_days_55 lc_World_liveDay lv_Rec_146 rfl (shW0 isW_1) rfl rfl ⟨rfl, rfl⟩ ⟨by decide, by decide⟩ ?_
      refine s_World_liveDay (d := d) isW_1 isTd_28 e6 ?_
      refine wp_iinc d_Rec_days_58 (v := i_ + nI 1) rfl rfl ?_
      refine wp_goto 37 d_Rec_days_61 rfl ?_
      exact ih _ _ h
theorem s_Rec_days {n_ : Int32} {M : mM} {r : Int32} {M' : mM} (h : F_Rec_days z n_ M = some (r, M')) (hq : Q (some (.int r)) (lay M')) : Sp X (d + 7) f_Rec_days [.ref 0, .int n_] (lay M) Q := by
  refine Sp_of (by decide) rfl (Nat.le_of_ble_eq_true rfl) ?_
  have k1 : ∀ u2 u3 : Value, (¬ ((F_Rec_within n_ (nI 1) (nI 60)) = true) ∨ (nI 9999) < ((M 1 12) + n_)) → wp X (d + 7) f_Rec_days (0, 0) 25 [.ref 0, .int n_, u2, u3] [] (lay M) Q := by
    intro u2 u3 x2
    replace h := ip h x2
    refine wp_iconst d_Rec_days_25 (v := (-1)) rfl ?_
    cases h
    exact wp_iret d_Rec_days_26 rfl rfl rfl hq
  refine wp_iload_n d_Rec_days_0 rfl rfl ?_
  refine wp_iconst d_Rec_days_1 (v := nI 1) rfl ?_
  refine wp_bipush d_Rec_days_2 (v := nI 60) rfl ?_
  refine wl_callS3 d_Rec_days_4 lc_Rec_within ls_Rec_96 rfl ⟨rfl, rfl⟩ ⟨by decide, by decide⟩ ?_
  refine s_Rec_within (d := d + 6) rfl ?_
  refine wc_eq 25 d_Rec_days_7 rfl (fun h7 => ?_) (fun h7 => ?_)
  · exact k1 _ _ (Or.inl h7)
  · refine wp_aload_n d_Rec_days_10 rfl rfl ?_
    refine wl_getR d_Rec_days_11 lf_Rec_12 sh_0 rfl ?_
    refine wl_getI d_Rec_days_14 lf_Rec_140 (shW0 isW_1) rfl rfl ?_
    refine wp_iload_n d_Rec_days_17 rfl rfl ?_
    refine wp_iadd d_Rec_days_18 ?_
    refine wp_sipush d_Rec_days_19 (v := nI 9999) rfl ?_
    refine wq_icmp_le 27 d_Rec_days_22 rfl (fun h22 => ?_) (fun h22 => ?_)
    · replace h := inn h (fun z => z.elim (fun z => z h7) h22)
      refine wp_aload_n d_Rec_days_27 rfl rfl ?_
      refine wl_getR d_Rec_days_28 lf_Rec_12 sh_0 rfl ?_
      refine wl_getI d_Rec_days_31 lf_Rec_143 (shW0 isW_1) rfl rfl ?_
      refine wp_istore_n d_Rec_days_34 rfl (by decide) ?_
      refine wp_iconst d_Rec_days_35 (v := nI 0) rfl ?_
      refine wp_istore_n d_Rec_days_36 rfl (by decide) ?_
      obtain ⟨M7, e8, h⟩ := ob1_some h
      refine l_Rec_days_1 ?_ _ _ _ e8
      intro u3
      refine wp_aload_n d_Rec_days_64 rfl rfl ?_
      refine wl_getR d_Rec_days_65 lf_Rec_12 sh_0 rfl ?_
      refine wl_getI d_Rec_days_68 lf_Rec_143 (shW0 isW_1) rfl rfl ?_
      refine wp_iload_n d_Rec_days_71 rfl rfl ?_
      refine wp_isub d_Rec_days_72 ?_
      cases h
      exact wp_iret d_Rec_days_73 rfl rfl rfl hq
    · exact k1 _ _ (Or.inr h22)
def L_Reader_append_1 (z : Nat) (four_ : Int32) : Nat → Int32 → mM → Option (mM)
  | 0, _, _ => none
  | n + 1, shift_, M =>
    if (¬ (shift_ < (nI 0)) ∧ (M 100 1) < (nI 400)) then
    ob1 (some ((jushr four_ shift_) &&& (nI 255))) fun v3 =>
    ob1 (wa M 101 400 (M 100 1) v3) fun M6 =>
    ob1 (some (up M6 100 1 ((M6 100 1) + (nI 1)))) fun M7 =>
    L_Reader_append_1 z four_ n (shift_ + (-8)) M7
    else
    some (M)
def F_Reader_append (z : Nat) (four_ : Int32) (M : mM) : Option mM :=
  ob1 (L_Reader_append_1 z four_ z (nI 24) M) fun M9 =>
  some M9
theorem l_Reader_append_1 {four_ : Int32}  {N' : mM} (K : ∀ u2 : Value, wp X d f_Reader_append (0, 0) 49 [.ref 100, .int four_, u2] [] (lay N') Q) : ∀ (n : Nat) (shift_ : Int32) (M : mM), L_Reader_append_1 z four_ n shift_ M = some (N') → wp X d f_Reader_append (0, 0) 3 [.ref 100, .int four_, .int shift_] [] (lay M) Q := by
  intro n
  induction n with
  | zero => intro shift_ M h; exact nn h
  | succ n ih =>
    intro shift_ M h
    have k1 : ¬ (¬ (shift_ < (nI 0)) ∧ (M 100 1) < (nI 400)) → wp X d f_Reader_append (0, 0) 49 [.ref 100, .int four_, .int shift_] [] (lay M) Q := by
      intro x2
      replace h := inn h x2
      cases h
      exact K _
    refine wp_iload_n d_Reader_append_3 rfl rfl ?_
    refine wz_lt 49 d_Reader_append_4 rfl (fun h4 => ?_) (fun h4 => ?_)
    · exact k1 (fun z => (fun z => z h4) z.1)
    · refine wp_aload_n d_Reader_append_7 rfl rfl ?_
      refine wl_getI d_Reader_append_8 lf_Reader_15 sh_100 rfl rfl ?_
      refine wp_sipush d_Reader_append_11 (v := nI 400) rfl ?_
      refine wq_icmp_ge 49 d_Reader_append_14 rfl (fun h14 => ?_) (fun h14 => ?_)
      · exact k1 (fun z => h14 z.2)
      · replace h := ip h ⟨h4, h14⟩
        refine wp_aload_n d_Reader_append_17 rfl rfl ?_
        refine wl_getR d_Reader_append_18 lf_Reader_9 sh_100 rfl ?_
        refine wp_aload_n d_Reader_append_21 rfl rfl ?_
        refine wl_getI d_Reader_append_22 lf_Reader_15 sh_100 rfl rfl ?_
        refine wp_iload_n d_Reader_append_25 rfl rfl ?_
        refine wp_iload_n d_Reader_append_26 rfl rfl ?_
        refine wp_iushr d_Reader_append_27 (v := jushr four_ shift_) rfl ?_
        refine wp_sipush d_Reader_append_28 (v := nI 255) rfl ?_
        refine wp_iand d_Reader_append_31 ?_
        obtain ⟨v3, e4, h⟩ := ob1_some h
        refine wx_int e4 ?_
        obtain ⟨M6, e5, h⟩ := ob1_some h
        refine wa_ast d_Reader_append_32 sh_101 e5 ?_
        refine wp_aload_n d_Reader_append_33 rfl rfl ?_
        refine wp_dup d_Reader_append_34 rfl ?_
        refine wl_getI d_Reader_append_35 lf_Reader_15 sh_100 rfl rfl ?_
        refine wp_iconst d_Reader_append_38 (v := nI 1) rfl ?_
        refine wp_iadd d_Reader_append_39 ?_
        refine wl_put d_Reader_append_40 lp_Reader_15 sh_100 rfl ⟨rfl, rfl⟩ ?_
        obtain ⟨M7, e8, h⟩ := ob1_some h
        refine wx_M e8 ?_
        refine wp_iinc d_Reader_append_43 (v := shift_ + (-8)) rfl rfl ?_
        refine wp_goto 3 d_Reader_append_46 rfl ?_
        exact ih _ _ h
theorem s_Reader_append {four_ : Int32} {M : mM} {M' : mM} (h : F_Reader_append z four_ M = some M') (hq : Q none (lay M')) : Sp X d f_Reader_append [.ref 100, .int four_] (lay M) Q := by
  refine Sp_of (by decide) rfl (Nat.le_of_ble_eq_true rfl) ?_
  refine wp_bipush d_Reader_append_0 (v := nI 24) rfl ?_
  refine wp_istore_n d_Reader_append_2 rfl (by decide) ?_
  obtain ⟨M9, e10, h⟩ := ob1_some h
  refine l_Reader_append_1 ?_ _ _ _ e10
  intro u2
  cases h
  exact wp_ret d_Reader_append_49 rfl rfl hq
def F_Rec_feed (z : Nat) (a_ : Int32) (b_ : Int32) (c_ : Int32) (d_ : Int32) (e_ : Int32) (M : mM) : Option (Int32 × mM) :=
  if (nI 400) < ((M 100 1) + (nI 20)) then
  some ((-1), M)
  else
  ob1 (F_Reader_append z a_ M) fun M1 =>
  ob1 (F_Reader_append z b_ M1) fun M3 =>
  ob1 (F_Reader_append z c_ M3) fun M5 =>
  ob1 (F_Reader_append z d_ M5) fun M7 =>
  ob1 (F_Reader_append z e_ M7) fun M9 =>
  some (M9 100 1, M9)
theorem s_Rec_feed {a_ : Int32} {b_ : Int32} {c_ : Int32} {d_ : Int32} {e_ : Int32} {M : mM} {r : Int32} {M' : mM} (h : F_Rec_feed z a_ b_ c_ d_ e_ M = some (r, M')) (hq : Q (some (.int r)) (lay M')) : Sp X (d + 1) f_Rec_feed [.ref 0, .int a_, .int b_, .int c_, .int d_, .int e_] (lay M) Q := by
  refine Sp_of (by decide) rfl (Nat.le_of_ble_eq_true rfl) ?_
  refine wp_aload_n d_Rec_feed_0 rfl rfl ?_
  refine wl_getR d_Rec_feed_1 lf_Rec_47 sh_0 rfl ?_
  refine wl_getI d_Rec_feed_4 lf_Rec_150 sh_100 rfl rfl ?_
  refine wp_bipush d_Rec_feed_7 (v := nI 20) rfl ?_
  refine wp_iadd d_Rec_feed_9 ?_
  refine wp_sipush d_Rec_feed_10 (v := nI 400) rfl ?_
  refine wq_icmp_le 18 d_Rec_feed_13 rfl (fun h13 => ?_) (fun h13 => ?_)
  · replace h := inn h h13
    refine wp_aload_n d_Rec_feed_18 rfl rfl ?_
    refine wl_getR d_Rec_feed_19 lf_Rec_47 sh_0 rfl ?_
    refine wp_iload_n d_Rec_feed_22 rfl rfl ?_
    obtain ⟨M1, e2, h⟩ := ob1_some h
    refine wl_callV1 d_Rec_feed_23 lc_Reader_append lv_Rec_153 rfl sh_100 rfl rfl ⟨rfl, rfl⟩ ⟨by decide, by decide⟩ ?_
    refine s_Reader_append (d := d) e2 ?_
    refine wp_aload_n d_Rec_feed_26 rfl rfl ?_
    refine wl_getR d_Rec_feed_27 lf_Rec_47 sh_0 rfl ?_
    refine wp_iload_n d_Rec_feed_30 rfl rfl ?_
    obtain ⟨M3, e4, h⟩ := ob1_some h
    refine wl_callV1 d_Rec_feed_31 lc_Reader_append lv_Rec_153 rfl sh_100 rfl rfl ⟨rfl, rfl⟩ ⟨by decide, by decide⟩ ?_
    refine s_Reader_append (d := d) e4 ?_
    refine wp_aload_n d_Rec_feed_34 rfl rfl ?_
    refine wl_getR d_Rec_feed_35 lf_Rec_47 sh_0 rfl ?_
    refine wp_iload_n d_Rec_feed_38 rfl rfl ?_
    obtain ⟨M5, e6, h⟩ := ob1_some h
    refine wl_callV1 d_Rec_feed_39 lc_Reader_append lv_Rec_153 rfl sh_100 rfl rfl ⟨rfl, rfl⟩ ⟨by decide, by decide⟩ ?_
    refine s_Reader_append (d := d) e6 ?_
    refine wp_aload_n d_Rec_feed_42 rfl rfl ?_
    refine wl_getR d_Rec_feed_43 lf_Rec_47 sh_0 rfl ?_
    refine wp_iload d_Rec_feed_46 rfl ?_
    obtain ⟨M7, e8, h⟩ := ob1_some h
    refine wl_callV1 d_Rec_feed_48 lc_Reader_append lv_Rec_153 rfl sh_100 rfl rfl ⟨rfl, rfl⟩ ⟨by decide, by decide⟩ ?_
    refine s_Reader_append (d := d) e8 ?_
    refine wp_aload_n d_Rec_feed_51 rfl rfl ?_
    refine wl_getR d_Rec_feed_52 lf_Rec_47 sh_0 rfl ?_
    refine wp_iload d_Rec_feed_55 rfl ?_
    obtain ⟨M9, e10, h⟩ := ob1_some h
    refine wl_callV1 d_Rec_feed_57 lc_Reader_append lv_Rec_153 rfl sh_100 rfl rfl ⟨rfl, rfl⟩ ⟨by decide, by decide⟩ ?_
    refine s_Reader_append (d := d) e10 ?_
    refine wp_aload_n d_Rec_feed_60 rfl rfl ?_
    refine wl_getR d_Rec_feed_61 lf_Rec_47 sh_0 rfl ?_
    refine wl_getI d_Rec_feed_64 lf_Rec_150 sh_100 rfl rfl ?_
    cases h
    exact wp_iret d_Rec_feed_67 rfl rfl rfl hq
  · replace h := ip h h13
    refine wp_iconst d_Rec_feed_16 (v := (-1)) rfl ?_
    cases h
    exact wp_iret d_Rec_feed_17 rfl rfl rfl hq
def F_Rec_end (n_ : Int32) (M : mM) : Option (Bool × mM) :=
  if (n_ < (nI 0) ∨ (M 100 1) < n_) then
  some (false, M)
  else
  ob1 (some (up M 100 1 n_)) fun M3 =>
  some (true, M3)
theorem s_Rec_end {n_ : Int32} {M : mM} {r : Bool} {M' : mM} (h : F_Rec_end n_ M = some (r, M')) (hq : Q (some (.int (bI r))) (lay M')) : Sp X d f_Rec_end [.ref 0, .int n_] (lay M) Q := by
  refine Sp_of (by decide) rfl (Nat.le_of_ble_eq_true rfl) ?_
  have k1 : (n_ < (nI 0) ∨ (M 100 1) < n_) → wp X d f_Rec_end (0, 0) 15 [.ref 0, .int n_] [] (lay M) Q := by
    intro x2
    replace h := ip h x2
    refine wp_iconst d_Rec_end_15 (v := bI false) rfl ?_
    cases h
    exact wb_iret d_Rec_end_16 rfl rfl hq
  refine wp_iload_n d_Rec_end_0 rfl rfl ?_
  refine wz_lt 15 d_Rec_end_1 rfl (fun h1 => ?_) (fun h1 => ?_)
  · exact k1 (Or.inl h1)
  · refine wp_iload_n d_Rec_end_4 rfl rfl ?_
    refine wp_aload_n d_Rec_end_5 rfl rfl ?_
    refine wl_getR d_Rec_end_6 lf_Rec_47 sh_0 rfl ?_
    refine wl_getI d_Rec_end_9 lf_Rec_150 sh_100 rfl rfl ?_
    refine wq_icmp_le 17 d_Rec_end_12 rfl (fun h12 => ?_) (fun h12 => ?_)
    · replace h := inn h (fun z => z.elim h1 h12)
      refine wp_aload_n d_Rec_end_17 rfl rfl ?_
      refine wl_getR d_Rec_end_18 lf_Rec_47 sh_0 rfl ?_
      refine wp_iload_n d_Rec_end_21 rfl rfl ?_
      refine wl_put d_Rec_end_22 lp_Rec_150 sh_100 rfl ⟨rfl, rfl⟩ ?_
      obtain ⟨M3, e4, h⟩ := ob1_some h
      refine wx_M e4 ?_
      refine wp_iconst d_Rec_end_25 (v := bI true) rfl ?_
      cases h
      exact wb_iret d_Rec_end_26 rfl rfl hq
    · exact k1 (Or.inr h12)
def F_Reader_fail (what_ : Int32) (M : mM) : Option (Bool × mM) :=
  ob1 (some (up M 100 2 what_)) fun M1 =>
  ob1 (ra M1 107 401 (M1 100 11)) fun v4 =>
  ob1 (some (up M1 100 3 v4)) fun M5 =>
  some (false, M5)
theorem s_Reader_fail {what_ : Int32} {M : mM} {r : Bool} {M' : mM} (h : F_Reader_fail what_ M = some (r, M')) (hq : Q (some (.int (bI r))) (lay M')) : Sp X d f_Reader_fail [.ref 100, .int what_] (lay M) Q := by
  refine Sp_of (by decide) rfl (Nat.le_of_ble_eq_true rfl) ?_
  refine wp_aload_n d_Reader_fail_0 rfl rfl ?_
  refine wp_iload_n d_Reader_fail_1 rfl rfl ?_
  refine wl_put d_Reader_fail_2 lp_Reader_19 sh_100 rfl ⟨rfl, rfl⟩ ?_
  obtain ⟨M1, e2, h⟩ := ob1_some h
  refine wx_M e2 ?_
  refine wp_aload_n d_Reader_fail_5 rfl rfl ?_
  refine wp_aload_n d_Reader_fail_6 rfl rfl ?_
  refine wl_getR d_Reader_fail_7 lf_Reader_46 sh_100 rfl ?_
  refine wp_aload_n d_Reader_fail_10 rfl rfl ?_
  refine wl_getI d_Reader_fail_11 lf_Reader_52 sh_100 rfl rfl ?_
  obtain ⟨v4, e3, h⟩ := ob1_some h
  refine wa_ald d_Reader_fail_14 sh_107 e3 ?_
  refine wl_put d_Reader_fail_15 lp_Reader_22 sh_100 rfl ⟨rfl, rfl⟩ ?_
  obtain ⟨M5, e6, h⟩ := ob1_some h
  refine wx_M e6 ?_
  refine wp_iconst d_Reader_fail_18 (v := bI false) rfl ?_
  cases h
  exact wb_iret d_Reader_fail_19 rfl rfl hq
def F_Reader_isWord (least_ : Int32) (most_ : Int32) (M : mM) : Option (Bool) :=
  ob1 (ob1 (ob1 (ob1 (ra M 105 401 (M 100 11)) fun v67 =>
  some (decide (v67 = (nI 3)))) fun x56 =>
  if x56 = true then ob1 (ra M 106 401 (M 100 11)) fun v63 =>
  some (decide (¬ (v63 < least_)))
  else some (false)) fun x36 =>
  if x36 = true then ob1 (ra M 106 401 (M 100 11)) fun v53 =>
  some (decide (¬ (most_ < v53)))
  else some (false)) fun x34 =>
  some (x34)
theorem s_Reader_isWord {least_ : Int32} {most_ : Int32} {M : mM} {r : Bool} (h : F_Reader_isWord least_ most_ M = some r) (hq : Q (some (.int (bI r))) (lay M)) : Sp X d f_Reader_isWord [.ref 100, .int least_, .int most_] (lay M) Q := by
  refine Sp_of (by decide) rfl (Nat.le_of_ble_eq_true rfl) ?_
  obtain ⟨x34, e35, h⟩ := ob1_some h
  have k33 : wp X d f_Reader_isWord (0, 0) 44 [.ref 100, .int least_, .int most_] [.int (bI x34)] (lay M) Q := by
    cases h
    exact wb_iret d_Reader_isWord_44 rfl rfl hq
  obtain ⟨x36, e37, e35⟩ := ob1_some e35
  have k50 : x36 = true → wp X d f_Reader_isWord (0, 0) 26 [.ref 100, .int least_, .int most_] [] (lay M) Q := by
    intro x51
    replace e35 := ip e35 x51
    refine wp_aload_n d_Reader_isWord_26 rfl rfl ?_
    refine wl_getR d_Reader_isWord_27 lf_Reader_43 sh_100 rfl ?_
    refine wp_aload_n d_Reader_isWord_30 rfl rfl ?_
    refine wl_getI d_Reader_isWord_31 lf_Reader_52 sh_100 rfl rfl ?_
    obtain ⟨v53, e52, e35⟩ := ob1_some e35
    refine wa_ald d_Reader_isWord_34 sh_106 e52 ?_
    refine wp_iload_n d_Reader_isWord_35 rfl rfl ?_
    refine wq_icmp_gt 43 d_Reader_isWord_36 rfl (fun h36 => ?_) (fun h36 => ?_)
    · cases e35
      refine wp_iconst d_Reader_isWord_43 (v := nI 0) rfl ?_
      exact wj_b0 (fun z => (fun z => z h36) (of_decide_eq_true z)) (k33)
    · cases e35
      refine wp_iconst d_Reader_isWord_39 (v := nI 1) rfl ?_
      refine wp_goto 44 d_Reader_isWord_40 rfl ?_
      exact wj_b1 (decide_eq_true h36) (k33)
  have k54 : ¬ x36 = true → wp X d f_Reader_isWord (0, 0) 43 [.ref 100, .int least_, .int most_] [] (lay M) Q := by
    intro x55
    replace e35 := inn e35 x55
    cases e35
    refine wp_iconst d_Reader_isWord_43 (v := nI 0) rfl ?_
    exact wj_b0 (fun z => Bool.noConfusion z) (k33)
  obtain ⟨x56, e57, e37⟩ := ob1_some e37
  have k60 : x56 = true → wp X d f_Reader_isWord (0, 0) 13 [.ref 100, .int least_, .int most_] [] (lay M) Q := by
    intro x61
    replace e37 := ip e37 x61
    refine wp_aload_n d_Reader_isWord_13 rfl rfl ?_
    refine wl_getR d_Reader_isWord_14 lf_Reader_43 sh_100 rfl ?_
    refine wp_aload_n d_Reader_isWord_17 rfl rfl ?_
    refine wl_getI d_Reader_isWord_18 lf_Reader_52 sh_100 rfl rfl ?_
    obtain ⟨v63, e62, e37⟩ := ob1_some e37
    refine wa_ald d_Reader_isWord_21 sh_106 e62 ?_
    refine wp_iload_n d_Reader_isWord_22 rfl rfl ?_
    refine wq_icmp_lt 43 d_Reader_isWord_23 rfl (fun h23 => ?_) (fun h23 => ?_)
    · cases e37
      exact k54 (fun z => (fun z => z h23) (of_decide_eq_true z))
    · cases e37
      exact k50 (decide_eq_true h23)
  have k64 : ¬ x56 = true → wp X d f_Reader_isWord (0, 0) 43 [.ref 100, .int least_, .int most_] [] (lay M) Q := by
    intro x65
    replace e37 := inn e37 x65
    cases e37
    exact k54 (fun z => Bool.noConfusion z)
  refine wp_aload_n d_Reader_isWord_0 rfl rfl ?_
  refine wl_getR d_Reader_isWord_1 lf_Reader_40 sh_100 rfl ?_
  refine wp_aload_n d_Reader_isWord_4 rfl rfl ?_
  refine wl_getI d_Reader_isWord_5 lf_Reader_52 sh_100 rfl rfl ?_
  obtain ⟨v67, e66, e57⟩ := ob1_some e57
  refine wa_ald d_Reader_isWord_8 sh_105 e66 ?_
  refine wp_iconst d_Reader_isWord_9 (v := nI 3) rfl ?_
  refine wq_icmp_ne 43 d_Reader_isWord_10 rfl (fun h10 => ?_) (fun h10 => ?_)
  · cases e57
    exact k64 (fun z => h10 (of_decide_eq_true z))
  · cases e57
    exact k60 (decide_eq_true h10)
def F_Reader_step (M : mM) : Option (Bool × mM) :=
  ob1 (if (M 100 11) < ((M 100 10) - (nI 1)) then
  ob1 (some (up M 100 11 ((M 100 11) + (nI 1)))) fun M6 =>
  some (M6)
  else
  some (M)) fun M4 =>
  some (true, M4)
theorem s_Reader_step {M : mM} {r : Bool} {M' : mM} (h : F_Reader_step M = some (r, M')) (hq : Q (some (.int (bI r))) (lay M')) : Sp X d f_Reader_step [.ref 100] (lay M) Q := by
  refine Sp_of (by decide) rfl (Nat.le_of_ble_eq_true rfl) ?_
  obtain ⟨M4, e5, h⟩ := ob1_some h
  have k3 : wp X d f_Reader_step (0, 0) 23 [.ref 100] [] (lay M4) Q := by
    refine wp_iconst d_Reader_step_23 (v := bI true) rfl ?_
    cases h
    exact wb_iret d_Reader_step_24 rfl rfl hq
  refine wp_aload_n d_Reader_step_0 rfl rfl ?_
  refine wl_getI d_Reader_step_1 lf_Reader_52 sh_100 rfl rfl ?_
  refine wp_aload_n d_Reader_step_4 rfl rfl ?_
  refine wl_getI d_Reader_step_5 lf_Reader_49 sh_100 rfl rfl ?_
  refine wp_iconst d_Reader_step_8 (v := nI 1) rfl ?_
  refine wp_isub d_Reader_step_9 ?_
  refine wq_icmp_ge 23 d_Reader_step_10 rfl (fun h10 => ?_) (fun h10 => ?_)
  · replace e5 := inn e5 h10
    cases e5
    exact k3
  · replace e5 := ip e5 h10
    refine wp_aload_n d_Reader_step_13 rfl rfl ?_
    refine wp_dup d_Reader_step_14 rfl ?_
    refine wl_getI d_Reader_step_15 lf_Reader_52 sh_100 rfl rfl ?_
    refine wp_iconst d_Reader_step_18 (v := nI 1) rfl ?_
    refine wp_iadd d_Reader_step_19 ?_
    refine wl_put d_Reader_step_20 lp_Reader_52 sh_100 rfl ⟨rfl, rfl⟩ ?_
    obtain ⟨M6, e7, e5⟩ := ob1_some e5
    refine wx_M e7 ?_
    cases e5
    exact k3
def F_Reader_keep (column_ : Int32) (M : mM) : Option (Bool × mM) :=
  ob1 (ra M 106 401 (M 100 11)) fun v2 =>
  ob1 (wa M 108 5 column_ v2) fun M4 =>
  ob2 (F_Reader_step M4) fun v5 M6 =>
  some (v5, M6)
theorem s_Reader_keep {column_ : Int32} {M : mM} {r : Bool} {M' : mM} (h : F_Reader_keep column_ M = some (r, M')) (hq : Q (some (.int (bI r))) (lay M')) : Sp X (d + 1) f_Reader_keep [.ref 100, .int column_] (lay M) Q := by
  refine Sp_of (by decide) rfl (Nat.le_of_ble_eq_true rfl) ?_
  refine wp_aload_n d_Reader_keep_0 rfl rfl ?_
  refine wl_getR d_Reader_keep_1 lf_Reader_55 sh_100 rfl ?_
  refine wp_iload_n d_Reader_keep_4 rfl rfl ?_
  refine wp_aload_n d_Reader_keep_5 rfl rfl ?_
  refine wl_getR d_Reader_keep_6 lf_Reader_43 sh_100 rfl ?_
  refine wp_aload_n d_Reader_keep_9 rfl rfl ?_
  refine wl_getI d_Reader_keep_10 lf_Reader_52 sh_100 rfl rfl ?_
  obtain ⟨v2, e1, h⟩ := ob1_some h
  refine wa_ald d_Reader_keep_13 sh_106 e1 ?_
  obtain ⟨M4, e3, h⟩ := ob1_some h
  refine wa_ast d_Reader_keep_14 sh_108 e3 ?_
  refine wp_aload_n d_Reader_keep_15 rfl rfl ?_
  obtain ⟨v5, M6, e7, h⟩ := ob2_some h
  refine wl_callV0 d_Reader_keep_16 lc_Reader_step lv_Reader_140 rfl sh_100 rfl rfl ⟨rfl, rfl⟩ ⟨by decide, by decide⟩ ?_
  refine s_Reader_step (d := d) e7 ?_
  cases h
  exact wb_iret d_Reader_keep_19 rfl rfl hq
def F_Reader_takeWord (least_ : Int32) (most_ : Int32) (column_ : Int32) (M : mM) : Option (Bool × mM) :=
  ob1 (ob1 (ob1 (F_Reader_isWord least_ most_ M) fun v19 =>
  some (v19)) fun x17 => some (!x17)) fun x1 =>
  if x1 = true then
  ob2 (F_Reader_fail (nI 1) M) fun v9 M10 =>
  some (v9, M10)
  else
  ob2 (F_Reader_keep column_ M) fun v14 M15 =>
  some (v14, M15)
theorem s_Reader_takeWord {least_ : Int32} {most_ : Int32} {column_ : Int32} {M : mM} {r : Bool} {M' : mM} (h : F_Reader_takeWord least_ most_ column_ M = some (r, M')) (hq : Q (some (.int (bI r))) (lay M')) : Sp X (d + 2) f_Reader_takeWord [.ref 100, .int least_, .int most_, .int column_] (lay M) Q := by
  refine Sp_of (by decide) rfl (Nat.le_of_ble_eq_true rfl) ?_
  obtain ⟨x1, e2, h⟩ := ob1_some h
  have k7 : x1 = true → wp X (d + 2) f_Reader_takeWord (0, 0) 9 [.ref 100, .int least_, .int most_, .int column_] [] (lay M) Q := by
    intro x8
    replace h := ip h x8
    refine wp_aload_n d_Reader_takeWord_9 rfl rfl ?_
    refine wp_iconst d_Reader_takeWord_10 (v := nI 1) rfl ?_
    obtain ⟨v9, M10, e11, h⟩ := ob2_some h
    refine wl_callV1 d_Reader_takeWord_11 lc_Reader_fail lv_Reader_127 rfl sh_100 rfl rfl ⟨rfl, rfl⟩ ⟨by decide, by decide⟩ ?_
    refine s_Reader_fail (d := d + 1) e11 ?_
    cases h
    exact wb_iret d_Reader_takeWord_14 rfl rfl hq
  have k12 : ¬ x1 = true → wp X (d + 2) f_Reader_takeWord (0, 0) 15 [.ref 100, .int least_, .int most_, .int column_] [] (lay M) Q := by
    intro x13
    replace h := inn h x13
    refine wp_aload_n d_Reader_takeWord_15 rfl rfl ?_
    refine wp_iload_n d_Reader_takeWord_16 rfl rfl ?_
    obtain ⟨v14, M15, e16, h⟩ := ob2_some h
    refine wl_callV1 d_Reader_takeWord_17 lc_Reader_keep lv_Reader_133 rfl sh_100 rfl rfl ⟨rfl, rfl⟩ ⟨by decide, by decide⟩ ?_
    refine s_Reader_keep (d := d) e16 ?_
    cases h
    exact wb_iret d_Reader_takeWord_20 rfl rfl hq
  obtain ⟨x17, e18, e2⟩ := ob1_some e2
  cases e2
  refine wp_aload_n d_Reader_takeWord_0 rfl rfl ?_
  refine wp_iload_n d_Reader_takeWord_1 rfl rfl ?_
  refine wp_iload_n d_Reader_takeWord_2 rfl rfl ?_
  obtain ⟨v19, e20, e18⟩ := ob1_some e18
  refine wl_callV2 d_Reader_takeWord_3 lc_Reader_isWord lv_Reader_120 rfl sh_100 rfl rfl ⟨rfl, rfl⟩ ⟨by decide, by decide⟩ ?_
  refine s_Reader_isWord (d := d + 1) e20 ?_
  refine wc_ne 15 d_Reader_takeWord_6 rfl (fun h6 => ?_) (fun h6 => ?_)
  · cases e18
    exact k12 (nb_t h6)
  · cases e18
    exact k7 (nb_f h6)
def F_Reader_takeFirst (least_ : Int32) (most_ : Int32) (M : mM) : Option (Bool × mM) :=
  ob1 (ob1 (ob1 (F_Reader_isWord least_ most_ M) fun v31 =>
  some (v31)) fun x23 =>
  if x23 = true then some (decide ((F_Rows_isFull 102 5 16 M) = true))
  else some (false)) fun x1 =>
  if x1 = true then
  ob2 (F_Reader_fail (nI 3) M) fun v15 M16 =>
  some (v15, M16)
  else
  ob2 (F_Reader_takeWord least_ most_ (nI 0) M) fun v20 M21 =>
  some (v20, M21)
theorem s_Reader_takeFirst {least_ : Int32} {most_ : Int32} {M : mM} {r : Bool} {M' : mM} (h : F_Reader_takeFirst least_ most_ M = some (r, M')) (hq : Q (some (.int (bI r))) (lay M')) : Sp X (d + 3) f_Reader_takeFirst [.ref 100, .int least_, .int most_] (lay M) Q := by
  refine Sp_of (by decide) rfl (Nat.le_of_ble_eq_true rfl) ?_
  obtain ⟨x1, e2, h⟩ := ob1_some h
  have k13 : x1 = true → wp X (d + 3) f_Reader_takeFirst (0, 0) 19 [.ref 100, .int least_, .int most_] [] (lay M) Q := by
    intro x14
    replace h := ip h x14
    refine wp_aload_n d_Reader_takeFirst_19 rfl rfl ?_
    refine wp_iconst d_Reader_takeFirst_20 (v := nI 3) rfl ?_
    obtain ⟨v15, M16, e17, h⟩ := ob2_some h
    refine wl_callV1 d_Reader_takeFirst_21 lc_Reader_fail lv_Reader_127 rfl sh_100 rfl rfl ⟨rfl, rfl⟩ ⟨by decide, by decide⟩ ?_
    refine s_Reader_fail (d := d + 2) e17 ?_
    cases h
    exact wb_iret d_Reader_takeFirst_24 rfl rfl hq
  have k18 : ¬ x1 = true → wp X (d + 3) f_Reader_takeFirst (0, 0) 25 [.ref 100, .int least_, .int most_] [] (lay M) Q := by
    intro x19
    replace h := inn h x19
    refine wp_aload_n d_Reader_takeFirst_25 rfl rfl ?_
    refine wp_iload_n d_Reader_takeFirst_26 rfl rfl ?_
    refine wp_iload_n d_Reader_takeFirst_27 rfl rfl ?_
    refine wp_iconst d_Reader_takeFirst_28 (v := nI 0) rfl ?_
    obtain ⟨v20, M21, e22, h⟩ := ob2_some h
    refine wl_callV3 d_Reader_takeFirst_29 lc_Reader_takeWord lv_Reader_130 rfl sh_100 rfl rfl ⟨rfl, rfl⟩ ⟨by decide, by decide⟩ ?_
    refine s_Reader_takeWord (d := d) e22 ?_
    cases h
    exact wb_iret d_Reader_takeFirst_32 rfl rfl hq
  obtain ⟨x23, e24, e2⟩ := ob1_some e2
  have k27 : x23 = true → wp X (d + 3) f_Reader_takeFirst (0, 0) 9 [.ref 100, .int least_, .int most_] [] (lay M) Q := by
    intro x28
    replace e2 := ip e2 x28
    refine wp_aload_n d_Reader_takeFirst_9 rfl rfl ?_
    refine wl_getR d_Reader_takeFirst_10 lf_Reader_30 sh_100 rfl ?_
    refine wl_callV0 d_Reader_takeFirst_13 lc_Rows_isFull lv_Reader_124 rfl (isR0 isR_found) rfl rfl ⟨rfl, rfl⟩ ⟨by decide, by decide⟩ ?_
    refine s_Rows_isFull (d := d + 2) isR_found rfl ?_
    refine wc_eq 25 d_Reader_takeFirst_16 rfl (fun h16 => ?_) (fun h16 => ?_)
    · cases e2
      exact k18 (fun z => h16 (of_decide_eq_true z))
    · cases e2
      exact k13 (decide_eq_true h16)
  have k29 : ¬ x23 = true → wp X (d + 3) f_Reader_takeFirst (0, 0) 25 [.ref 100, .int least_, .int most_] [] (lay M) Q := by
    intro x30
    replace e2 := inn e2 x30
    cases e2
    exact k18 (fun z => Bool.noConfusion z)
  refine wp_aload_n d_Reader_takeFirst_0 rfl rfl ?_
  refine wp_iload_n d_Reader_takeFirst_1 rfl rfl ?_
  refine wp_iload_n d_Reader_takeFirst_2 rfl rfl ?_
  obtain ⟨v31, e32, e24⟩ := ob1_some e24
  refine wl_callV2 d_Reader_takeFirst_3 lc_Reader_isWord lv_Reader_120 rfl sh_100 rfl rfl ⟨rfl, rfl⟩ ⟨by decide, by decide⟩ ?_
  refine s_Reader_isWord (d := d + 2) e32 ?_
  refine wc_eq 25 d_Reader_takeFirst_6 rfl (fun h6 => ?_) (fun h6 => ?_)
  · cases e24
    exact k29 h6
  · cases e24
    exact k27 h6
def F_Reader_takeNumber (least_ : Int32) (most_ : Int32) (column_ : Int32) (M : mM) : Option (Bool × mM) :=
  ob1 (ob1 (ra M 105 401 (M 100 11)) fun v49 =>
  some (decide (¬ (v49 = (nI 2))))) fun x1 =>
  if x1 = true then
  ob2 (F_Reader_fail (nI 1) M) fun v7 M8 =>
  some (v7, M8)
  else
  ob1 (ob1 (ob1 (ra M 106 401 (M 100 11)) fun v47 =>
  some (decide (v47 < least_))) fun x36 =>
  if x36 = true then some (true)
  else ob1 (ra M 106 401 (M 100 11)) fun v45 =>
  some (decide (most_ < v45))) fun x12 =>
  if x12 = true then
  ob2 (F_Reader_fail (nI 2) M) fun v28 M29 =>
  some (v28, M29)
  else
  ob2 (F_Reader_keep column_ M) fun v33 M34 =>
  some (v33, M34)
theorem s_Reader_takeNumber {least_ : Int32} {most_ : Int32} {column_ : Int32} {M : mM} {r : Bool} {M' : mM} (h : F_Reader_takeNumber least_ most_ column_ M = some (r, M')) (hq : Q (some (.int (bI r))) (lay M')) : Sp X (d + 2) f_Reader_takeNumber [.ref 100, .int least_, .int most_, .int column_] (lay M) Q := by
  refine Sp_of (by decide) rfl (Nat.le_of_ble_eq_true rfl) ?_
  obtain ⟨x1, e2, h⟩ := ob1_some h
  have k5 : x1 = true → wp X (d + 2) f_Reader_takeNumber (0, 0) 13 [.ref 100, .int least_, .int most_, .int column_] [] (lay M) Q := by
    intro x6
    replace h := ip h x6
    refine wp_aload_n d_Reader_takeNumber_13 rfl rfl ?_
    refine wp_iconst d_Reader_takeNumber_14 (v := nI 1) rfl ?_
    obtain ⟨v7, M8, e9, h⟩ := ob2_some h
    refine wl_callV1 d_Reader_takeNumber_15 lc_Reader_fail lv_Reader_127 rfl sh_100 rfl rfl ⟨rfl, rfl⟩ ⟨by decide, by decide⟩ ?_
    refine s_Reader_fail (d := d + 1) e9 ?_
    cases h
    exact wb_iret d_Reader_takeNumber_18 rfl rfl hq
  have k10 : ¬ x1 = true → wp X (d + 2) f_Reader_takeNumber (0, 0) 19 [.ref 100, .int least_, .int most_, .int column_] [] (lay M) Q := by
    intro x11
    replace h := inn h x11
    obtain ⟨x12, e13, h⟩ := ob1_some h
    have k26 : x12 = true → wp X (d + 2) f_Reader_takeNumber (0, 0) 45 [.ref 100, .int least_, .int most_, .int column_] [] (lay M) Q := by
      intro x27
      replace h := ip h x27
      refine wp_aload_n d_Reader_takeNumber_45 rfl rfl ?_
      refine wp_iconst d_Reader_takeNumber_46 (v := nI 2) rfl ?_
      obtain ⟨v28, M29, e30, h⟩ := ob2_some h
      refine wl_callV1 d_Reader_takeNumber_47 lc_Reader_fail lv_Reader_127 rfl sh_100 rfl rfl ⟨rfl, rfl⟩ ⟨by decide, by decide⟩ ?_
      refine s_Reader_fail (d := d + 1) e30 ?_
      cases h
      exact wb_iret d_Reader_takeNumber_50 rfl rfl hq
    have k31 : ¬ x12 = true → wp X (d + 2) f_Reader_takeNumber (0, 0) 51 [.ref 100, .int least_, .int most_, .int column_] [] (lay M) Q := by
      intro x32
      replace h := inn h x32
      refine wp_aload_n d_Reader_takeNumber_51 rfl rfl ?_
      refine wp_iload_n d_Reader_takeNumber_52 rfl rfl ?_
      obtain ⟨v33, M34, e35, h⟩ := ob2_some h
      refine wl_callV1 d_Reader_takeNumber_53 lc_Reader_keep lv_Reader_133 rfl sh_100 rfl rfl ⟨rfl, rfl⟩ ⟨by decide, by decide⟩ ?_
      refine s_Reader_keep (d := d) e35 ?_
      cases h
      exact wb_iret d_Reader_takeNumber_56 rfl rfl hq
    obtain ⟨x36, e37, e13⟩ := ob1_some e13
    have k40 : x36 = true → wp X (d + 2) f_Reader_takeNumber (0, 0) 45 [.ref 100, .int least_, .int most_, .int column_] [] (lay M) Q := by
      intro x41
      replace e13 := ip e13 x41
      cases e13
      exact k26 rfl
    have k42 : ¬ x36 = true → wp X (d + 2) f_Reader_takeNumber (0, 0) 32 [.ref 100, .int least_, .int most_, .int column_] [] (lay M) Q := by
      intro x43
      replace e13 := inn e13 x43
      refine wp_aload_n d_Reader_takeNumber_32 rfl rfl ?_
      refine wl_getR d_Reader_takeNumber_33 lf_Reader_43 sh_100 rfl ?_
      refine wp_aload_n d_Reader_takeNumber_36 rfl rfl ?_
      refine wl_getI d_Reader_takeNumber_37 lf_Reader_52 sh_100 rfl rfl ?_
      obtain ⟨v45, e44, e13⟩ := ob1_some e13
      refine wa_ald d_Reader_takeNumber_40 sh_106 e44 ?_
      refine wp_iload_n d_Reader_takeNumber_41 rfl rfl ?_
      refine wq_icmp_le 51 d_Reader_takeNumber_42 rfl (fun h42 => ?_) (fun h42 => ?_)
      · cases e13
        exact k31 (fun z => h42 (of_decide_eq_true z))
      · cases e13
        exact k26 (decide_eq_true h42)
    refine wp_aload_n d_Reader_takeNumber_19 rfl rfl ?_
    refine wl_getR d_Reader_takeNumber_20 lf_Reader_43 sh_100 rfl ?_
    refine wp_aload_n d_Reader_takeNumber_23 rfl rfl ?_
    refine wl_getI d_Reader_takeNumber_24 lf_Reader_52 sh_100 rfl rfl ?_
    obtain ⟨v47, e46, e37⟩ := ob1_some e37
    refine wa_ald d_Reader_takeNumber_27 sh_106 e46 ?_
    refine wp_iload_n d_Reader_takeNumber_28 rfl rfl ?_
    refine wq_icmp_lt 45 d_Reader_takeNumber_29 rfl (fun h29 => ?_) (fun h29 => ?_)
    · cases e37
      exact k40 (decide_eq_true h29)
    · cases e37
      exact k42 (fun z => h29 (of_decide_eq_true z))
  refine wp_aload_n d_Reader_takeNumber_0 rfl rfl ?_
  refine wl_getR d_Reader_takeNumber_1 lf_Reader_40 sh_100 rfl ?_
  refine wp_aload_n d_Reader_takeNumber_4 rfl rfl ?_
  refine wl_getI d_Reader_takeNumber_5 lf_Reader_52 sh_100 rfl rfl ?_
  obtain ⟨v49, e48, e2⟩ := ob1_some e2
  refine wa_ald d_Reader_takeNumber_8 sh_105 e48 ?_
  refine wp_iconst d_Reader_takeNumber_9 (v := nI 2) rfl ?_
  refine wq_icmp_eq 19 d_Reader_takeNumber_10 rfl (fun h10 => ?_) (fun h10 => ?_)
  · cases e2
    exact k10 (fun z => (fun z => z h10) (of_decide_eq_true z))
  · cases e2
    exact k5 (decide_eq_true h10)
def F_Reader_isSign (sign_ : Int32) (M : mM) : Option (Bool) :=
  ob1 (ob1 (ob1 (ra M 105 401 (M 100 11)) fun v27 =>
  some (decide (v27 = (nI 4)))) fun x16 =>
  if x16 = true then ob1 (ra M 106 401 (M 100 11)) fun v23 =>
  some (decide (v23 = sign_))
  else some (false)) fun x14 =>
  some (x14)
theorem s_Reader_isSign {sign_ : Int32} {M : mM} {r : Bool} (h : F_Reader_isSign sign_ M = some r) (hq : Q (some (.int (bI r))) (lay M)) : Sp X d f_Reader_isSign [.ref 100, .int sign_] (lay M) Q := by
  refine Sp_of (by decide) rfl (Nat.le_of_ble_eq_true rfl) ?_
  obtain ⟨x14, e15, h⟩ := ob1_some h
  have k13 : wp X d f_Reader_isSign (0, 0) 31 [.ref 100, .int sign_] [.int (bI x14)] (lay M) Q := by
    cases h
    exact wb_iret d_Reader_isSign_31 rfl rfl hq
  obtain ⟨x16, e17, e15⟩ := ob1_some e15
  have k20 : x16 = true → wp X d f_Reader_isSign (0, 0) 13 [.ref 100, .int sign_] [] (lay M) Q := by
    intro x21
    replace e15 := ip e15 x21
    refine wp_aload_n d_Reader_isSign_13 rfl rfl ?_
    refine wl_getR d_Reader_isSign_14 lf_Reader_43 sh_100 rfl ?_
    refine wp_aload_n d_Reader_isSign_17 rfl rfl ?_
    refine wl_getI d_Reader_isSign_18 lf_Reader_52 sh_100 rfl rfl ?_
    obtain ⟨v23, e22, e15⟩ := ob1_some e15
    refine wa_ald d_Reader_isSign_21 sh_106 e22 ?_
    refine wp_iload_n d_Reader_isSign_22 rfl rfl ?_
    refine wq_icmp_ne 30 d_Reader_isSign_23 rfl (fun h23 => ?_) (fun h23 => ?_)
    · cases e15
      refine wp_iconst d_Reader_isSign_30 (v := nI 0) rfl ?_
      exact wj_b0 (fun z => h23 (of_decide_eq_true z)) (k13)
    · cases e15
      refine wp_iconst d_Reader_isSign_26 (v := nI 1) rfl ?_
      refine wp_goto 31 d_Reader_isSign_27 rfl ?_
      exact wj_b1 (decide_eq_true h23) (k13)
  have k24 : ¬ x16 = true → wp X d f_Reader_isSign (0, 0) 30 [.ref 100, .int sign_] [] (lay M) Q := by
    intro x25
    replace e15 := inn e15 x25
    cases e15
    refine wp_iconst d_Reader_isSign_30 (v := nI 0) rfl ?_
    exact wj_b0 (fun z => Bool.noConfusion z) (k13)
  refine wp_aload_n d_Reader_isSign_0 rfl rfl ?_
  refine wl_getR d_Reader_isSign_1 lf_Reader_40 sh_100 rfl ?_
  refine wp_aload_n d_Reader_isSign_4 rfl rfl ?_
  refine wl_getI d_Reader_isSign_5 lf_Reader_52 sh_100 rfl rfl ?_
  obtain ⟨v27, e26, e17⟩ := ob1_some e17
  refine wa_ald d_Reader_isSign_8 sh_105 e26 ?_
  refine wp_iconst d_Reader_isSign_9 (v := nI 4) rfl ?_
  refine wq_icmp_ne 30 d_Reader_isSign_10 rfl (fun h10 => ?_) (fun h10 => ?_)
  · cases e17
    exact k24 (fun z => h10 (of_decide_eq_true z))
  · cases e17
    exact k20 (decide_eq_true h10)
def F_Reader_takeSign (sign_ : Int32) (M : mM) : Option (Bool × mM) :=
  ob1 (ob1 (ob1 (F_Reader_isSign sign_ M) fun v19 =>
  some (v19)) fun x17 => some (!x17)) fun x1 =>
  if x1 = true then
  ob2 (F_Reader_fail (nI 1) M) fun v9 M10 =>
  some (v9, M10)
  else
  ob2 (F_Reader_step M) fun v14 M15 =>
  some (v14, M15)
theorem s_Reader_takeSign {sign_ : Int32} {M : mM} {r : Bool} {M' : mM} (h : F_Reader_takeSign sign_ M = some (r, M')) (hq : Q (some (.int (bI r))) (lay M')) : Sp X (d + 1) f_Reader_takeSign [.ref 100, .int sign_] (lay M) Q := by
  refine Sp_of (by decide) rfl (Nat.le_of_ble_eq_true rfl) ?_
  obtain ⟨x1, e2, h⟩ := ob1_some h
  have k7 : x1 = true → wp X (d + 1) f_Reader_takeSign (0, 0) 8 [.ref 100, .int sign_] [] (lay M) Q := by
    intro x8
    replace h := ip h x8
    refine wp_aload_n d_Reader_takeSign_8 rfl rfl ?_
    refine wp_iconst d_Reader_takeSign_9 (v := nI 1) rfl ?_
    obtain ⟨v9, M10, e11, h⟩ := ob2_some h
    refine wl_callV1 d_Reader_takeSign_10 lc_Reader_fail lv_Reader_127 rfl sh_100 rfl rfl ⟨rfl, rfl⟩ ⟨by decide, by decide⟩ ?_
    refine s_Reader_fail (d := d) e11 ?_
    cases h
    exact wb_iret d_Reader_takeSign_13 rfl rfl hq
  have k12 : ¬ x1 = true → wp X (d + 1) f_Reader_takeSign (0, 0) 14 [.ref 100, .int sign_] [] (lay M) Q := by
    intro x13
    replace h := inn h x13
    refine wp_aload_n d_Reader_takeSign_14 rfl rfl ?_
    obtain ⟨v14, M15, e16, h⟩ := ob2_some h
    refine wl_callV0 d_Reader_takeSign_15 lc_Reader_step lv_Reader_140 rfl sh_100 rfl rfl ⟨rfl, rfl⟩ ⟨by decide, by decide⟩ ?_
    refine s_Reader_step (d := d) e16 ?_
    cases h
    exact wb_iret d_Reader_takeSign_18 rfl rfl hq
  obtain ⟨x17, e18, e2⟩ := ob1_some e2
  cases e2
  refine wp_aload_n d_Reader_takeSign_0 rfl rfl ?_
  refine wp_iload_n d_Reader_takeSign_1 rfl rfl ?_
  obtain ⟨v19, e20, e18⟩ := ob1_some e18
  refine wl_callV1 d_Reader_takeSign_2 lc_Reader_isSign lv_Reader_136 rfl sh_100 rfl rfl ⟨rfl, rfl⟩ ⟨by decide, by decide⟩ ?_
  refine s_Reader_isSign (d := d) e20 ?_
  refine wc_ne 14 d_Reader_takeSign_5 rfl (fun h5 => ?_) (fun h5 => ?_)
  · cases e18
    exact k12 (nb_t h5)
  · cases e18
    exact k7 (nb_f h5)
def F_Reader_readFlight (M : mM) : Option (Bool × mM) :=
  ob2 (ob2 (ob2 (ob2 (ob2 (F_Reader_takeFirst (nI 18) (nI 18) M) fun v535 M536 =>
  some (v535, M536)) fun x532 M534 => some (!x532, M534)) fun x513 M515 =>
  if x513 = true then some (true, M515)
  else ob2 (ob2 (F_Reader_takeNumber (nI 0) (nI 999) (nI 0) M515) fun v529 M530 =>
  some (v529, M530)) fun x526 M528 => some (!x526, M528)) fun x475 M477 =>
  if x475 = true then some (true, M477)
  else ob2 (ob2 (F_Reader_takeWord (nI 20) (nI 25) (nI 1) M477) fun v510 M511 =>
  some (v510, M511)) fun x507 M509 => some (!x507, M509)) fun x1 M3 =>
  if x1 = true then
  some (false, M3)
  else
  ob1 (ra M3 108 5 (nI 1)) fun v72 =>
  ob1 (wa M3 108 5 (nI 1) (v72 - (nI 20))) fun M74 =>
  ob2 (ob2 (ob2 (ob2 (ob2 (ob2 (F_Reader_takeNumber (nI 1) (nI 9) (nI 2) M74) fun v472 M473 =>
  some (v472, M473)) fun x459 M461 =>
  if x459 = true then ob2 (F_Reader_takeNumber (nI 0) (nI 9) (nI 3) M461) fun v467 M468 =>
  some (v467, M468)
  else some (false, M461)) fun x433 M435 =>
  if x433 = true then ob2 (F_Reader_takeWord (nI 19) (nI 19) (nI 4) M435) fun v454 M455 =>
  some (v454, M455)
  else some (false, M435)) fun x381 M383 =>
  if x381 = true then ob2 (F_Reader_takeNumber (nI 0) (nI 59) (nI 4) M383) fun v428 M429 =>
  some (v428, M429)
  else some (false, M383)) fun x277 M279 =>
  if x277 = true then ob2 (F_Reader_takeSign (nI 59) M279) fun v376 M377 =>
  some (v376, M377)
  else some (false, M279)) fun x274 M276 =>
  some (x274, M276)
theorem s_Reader_readFlight {M : mM} {r : Bool} {M' : mM} (h : F_Reader_readFlight M = some (r, M')) (hq : Q (some (.int (bI r))) (lay M')) : Sp X (d + 4) f_Reader_readFlight [.ref 100] (lay M) Q := by
  refine Sp_of (by decide) rfl (Nat.le_of_ble_eq_true rfl) ?_
  obtain ⟨x1, M3, e2, h⟩ := ob2_some h
  have k67 : x1 = true → wp X (d + 4) f_Reader_readFlight (0, 0) 35 [.ref 100] [] (lay M3) Q := by
    intro x68
    replace h := ip h x68
    refine wp_iconst d_Reader_readFlight_35 (v := bI false) rfl ?_
    cases h
    exact wb_iret d_Reader_readFlight_36 rfl rfl hq
  have k69 : ¬ x1 = true → wp X (d + 4) f_Reader_readFlight (0, 0) 37 [.ref 100] [] (lay M3) Q := by
    intro x70
    replace h := inn h x70
    refine wp_aload_n d_Reader_readFlight_37 rfl rfl ?_
    refine wl_getR d_Reader_readFlight_38 lf_Reader_55 sh_100 rfl ?_
    refine wp_iconst d_Reader_readFlight_41 (v := nI 1) rfl ?_
    refine wp_dup2 d_Reader_readFlight_42 rfl rfl ?_
    obtain ⟨v72, e71, h⟩ := ob1_some h
    refine wa_ald d_Reader_readFlight_43 sh_108 e71 ?_
    refine wp_bipush d_Reader_readFlight_44 (v := nI 20) rfl ?_
    refine wp_isub d_Reader_readFlight_46 ?_
    obtain ⟨M74, e73, h⟩ := ob1_some h
    refine wa_ast d_Reader_readFlight_47 sh_108 e73 ?_
    obtain ⟨x274, M276, e275, h⟩ := ob2_some h
    have k273 : wp X (d + 4) f_Reader_readFlight (0, 0) 107 [.ref 100] [.int (bI x274)] (lay M276) Q := by
      cases h
      exact wb_iret d_Reader_readFlight_107 rfl rfl hq
    obtain ⟨x277, M279, e278, e275⟩ := ob2_some e275
    have k374 : x277 = true → wp X (d + 4) f_Reader_readFlight (0, 0) 93 [.ref 100] [] (lay M279) Q := by
      intro x375
      replace e275 := ip e275 x375
      refine wp_aload_n d_Reader_readFlight_93 rfl rfl ?_
      refine wp_bipush d_Reader_readFlight_94 (v := nI 59) rfl ?_
      obtain ⟨v376, M377, e378, e275⟩ := ob2_some e275
      refine wl_callV1 d_Reader_readFlight_96 lc_Reader_takeSign lv_Reader_149 rfl sh_100 rfl rfl ⟨rfl, rfl⟩ ⟨by decide, by decide⟩ ?_
      refine s_Reader_takeSign (d := d + 2) e378 ?_
      refine wc_eq 106 d_Reader_readFlight_99 rfl (fun h99 => ?_) (fun h99 => ?_)
      · cases e275
        refine wp_iconst d_Reader_readFlight_106 (v := nI 0) rfl ?_
        exact wj_b0 h99 (k273)
      · cases e275
        refine wp_iconst d_Reader_readFlight_102 (v := nI 1) rfl ?_
        refine wp_goto 107 d_Reader_readFlight_103 rfl ?_
        exact wj_b1 h99 (k273)
    have k379 : ¬ x277 = true → wp X (d + 4) f_Reader_readFlight (0, 0) 106 [.ref 100] [] (lay M279) Q := by
      intro x380
      replace e275 := inn e275 x380
      cases e275
      refine wp_iconst d_Reader_readFlight_106 (v := nI 0) rfl ?_
      exact wj_b0 (fun z => Bool.noConfusion z) (k273)
    obtain ⟨x381, M383, e382, e278⟩ := ob2_some e278
    have k426 : x381 = true → wp X (d + 4) f_Reader_readFlight (0, 0) 82 [.ref 100] [] (lay M383) Q := by
      intro x427
      replace e278 := ip e278 x427
      refine wp_aload_n d_Reader_readFlight_82 rfl rfl ?_
      refine wp_iconst d_Reader_readFlight_83 (v := nI 0) rfl ?_
      refine wp_bipush d_Reader_readFlight_84 (v := nI 59) rfl ?_
      refine wp_iconst d_Reader_readFlight_86 (v := nI 4) rfl ?_
      obtain ⟨v428, M429, e430, e278⟩ := ob2_some e278
      refine wl_callV3 d_Reader_readFlight_87 lc_Reader_takeNumber lv_Reader_146 rfl sh_100 rfl rfl ⟨rfl, rfl⟩ ⟨by decide, by decide⟩ ?_
      refine s_Reader_takeNumber (d := d + 1) e430 ?_
      refine wc_eq 106 d_Reader_readFlight_90 rfl (fun h90 => ?_) (fun h90 => ?_)
      · cases e278
        exact k379 h90
      · cases e278
        exact k374 h90
    have k431 : ¬ x381 = true → wp X (d + 4) f_Reader_readFlight (0, 0) 106 [.ref 100] [] (lay M383) Q := by
      intro x432
      replace e278 := inn e278 x432
      cases e278
      exact k379 (fun z => Bool.noConfusion z)
    obtain ⟨x433, M435, e434, e382⟩ := ob2_some e382
    have k452 : x433 = true → wp X (d + 4) f_Reader_readFlight (0, 0) 70 [.ref 100] [] (lay M435) Q := by
      intro x453
      replace e382 := ip e382 x453
      refine wp_aload_n d_Reader_readFlight_70 rfl rfl ?_
      refine wp_bipush d_Reader_readFlight_71 (v := nI 19) rfl ?_
      refine wp_bipush d_Reader_readFlight_73 (v := nI 19) rfl ?_
      refine wp_iconst d_Reader_readFlight_75 (v := nI 4) rfl ?_
      obtain ⟨v454, M455, e456, e382⟩ := ob2_some e382
      refine wl_callV3 d_Reader_readFlight_76 lc_Reader_takeWord lv_Reader_130 rfl sh_100 rfl rfl ⟨rfl, rfl⟩ ⟨by decide, by decide⟩ ?_
      refine s_Reader_takeWord (d := d + 1) e456 ?_
      refine wc_eq 106 d_Reader_readFlight_79 rfl (fun h79 => ?_) (fun h79 => ?_)
      · cases e382
        exact k431 h79
      · cases e382
        exact k426 h79
    have k457 : ¬ x433 = true → wp X (d + 4) f_Reader_readFlight (0, 0) 106 [.ref 100] [] (lay M435) Q := by
      intro x458
      replace e382 := inn e382 x458
      cases e382
      exact k431 (fun z => Bool.noConfusion z)
    obtain ⟨x459, M461, e460, e434⟩ := ob2_some e434
    have k465 : x459 = true → wp X (d + 4) f_Reader_readFlight (0, 0) 59 [.ref 100] [] (lay M461) Q := by
      intro x466
      replace e434 := ip e434 x466
      refine wp_aload_n d_Reader_readFlight_59 rfl rfl ?_
      refine wp_iconst d_Reader_readFlight_60 (v := nI 0) rfl ?_
      refine wp_bipush d_Reader_readFlight_61 (v := nI 9) rfl ?_
      refine wp_iconst d_Reader_readFlight_63 (v := nI 3) rfl ?_
      obtain ⟨v467, M468, e469, e434⟩ := ob2_some e434
      refine wl_callV3 d_Reader_readFlight_64 lc_Reader_takeNumber lv_Reader_146 rfl sh_100 rfl rfl ⟨rfl, rfl⟩ ⟨by decide, by decide⟩ ?_
      refine s_Reader_takeNumber (d := d + 1) e469 ?_
      refine wc_eq 106 d_Reader_readFlight_67 rfl (fun h67 => ?_) (fun h67 => ?_)
      · cases e434
        exact k457 h67
      · cases e434
        exact k452 h67
    have k470 : ¬ x459 = true → wp X (d + 4) f_Reader_readFlight (0, 0) 106 [.ref 100] [] (lay M461) Q := by
      intro x471
      replace e434 := inn e434 x471
      cases e434
      exact k457 (fun z => Bool.noConfusion z)
    refine wp_aload_n d_Reader_readFlight_48 rfl rfl ?_
    refine wp_iconst d_Reader_readFlight_49 (v := nI 1) rfl ?_
    refine wp_bipush d_Reader_readFlight_50 (v := nI 9) rfl ?_
    refine wp_iconst d_Reader_readFlight_52 (v := nI 2) rfl ?_
    obtain ⟨v472, M473, e474, e460⟩ := ob2_some e460
    refine wl_callV3 d_Reader_readFlight_53 lc_Reader_takeNumber lv_Reader_146 rfl sh_100 rfl rfl ⟨rfl, rfl⟩ ⟨by decide, by decide⟩ ?_
    refine s_Reader_takeNumber (d := d + 1) e474 ?_
    refine wc_eq 106 d_Reader_readFlight_56 rfl (fun h56 => ?_) (fun h56 => ?_)
    · cases e460
      exact k470 h56
    · cases e460
      exact k465 h56
  obtain ⟨x475, M477, e476, e2⟩ := ob2_some e2
  have k503 : x475 = true → wp X (d + 4) f_Reader_readFlight (0, 0) 35 [.ref 100] [] (lay M477) Q := by
    intro x504
    replace e2 := ip e2 x504
    cases e2
    exact k67 rfl
  have k505 : ¬ x475 = true → wp X (d + 4) f_Reader_readFlight (0, 0) 23 [.ref 100] [] (lay M477) Q := by
    intro x506
    replace e2 := inn e2 x506
    obtain ⟨x507, M509, e508, e2⟩ := ob2_some e2
    cases e2
    refine wp_aload_n d_Reader_readFlight_23 rfl rfl ?_
    refine wp_bipush d_Reader_readFlight_24 (v := nI 20) rfl ?_
    refine wp_bipush d_Reader_readFlight_26 (v := nI 25) rfl ?_
    refine wp_iconst d_Reader_readFlight_28 (v := nI 1) rfl ?_
    obtain ⟨v510, M511, e512, e508⟩ := ob2_some e508
    refine wl_callV3 d_Reader_readFlight_29 lc_Reader_takeWord lv_Reader_130 rfl sh_100 rfl rfl ⟨rfl, rfl⟩ ⟨by decide, by decide⟩ ?_
    refine s_Reader_takeWord (d := d + 1) e512 ?_
    refine wc_ne 37 d_Reader_readFlight_32 rfl (fun h32 => ?_) (fun h32 => ?_)
    · cases e508
      exact k69 (nb_t h32)
    · cases e508
      exact k67 (nb_f h32)
  obtain ⟨x513, M515, e514, e476⟩ := ob2_some e476
  have k522 : x513 = true → wp X (d + 4) f_Reader_readFlight (0, 0) 35 [.ref 100] [] (lay M515) Q := by
    intro x523
    replace e476 := ip e476 x523
    cases e476
    exact k503 rfl
  have k524 : ¬ x513 = true → wp X (d + 4) f_Reader_readFlight (0, 0) 11 [.ref 100] [] (lay M515) Q := by
    intro x525
    replace e476 := inn e476 x525
    obtain ⟨x526, M528, e527, e476⟩ := ob2_some e476
    cases e476
    refine wp_aload_n d_Reader_readFlight_11 rfl rfl ?_
    refine wp_iconst d_Reader_readFlight_12 (v := nI 0) rfl ?_
    refine wp_sipush d_Reader_readFlight_13 (v := nI 999) rfl ?_
    refine wp_iconst d_Reader_readFlight_16 (v := nI 0) rfl ?_
    obtain ⟨v529, M530, e531, e527⟩ := ob2_some e527
    refine wl_callV3 d_Reader_readFlight_17 lc_Reader_takeNumber lv_Reader_146 rfl sh_100 rfl rfl ⟨rfl, rfl⟩ ⟨by decide, by decide⟩ ?_
    refine s_Reader_takeNumber (d := d + 1) e531 ?_
    refine wc_eq 35 d_Reader_readFlight_20 rfl (fun h20 => ?_) (fun h20 => ?_)
    · cases e527
      exact k503 (nb_f h20)
    · cases e527
      exact k505 (nb_t h20)
  obtain ⟨x532, M534, e533, e514⟩ := ob2_some e514
  cases e514
  refine wp_aload_n d_Reader_readFlight_0 rfl rfl ?_
  refine wp_bipush d_Reader_readFlight_1 (v := nI 18) rfl ?_
  refine wp_bipush d_Reader_readFlight_3 (v := nI 18) rfl ?_
  obtain ⟨v535, M536, e537, e533⟩ := ob2_some e533
  refine wl_callV2 d_Reader_readFlight_5 lc_Reader_takeFirst lv_Reader_143 rfl sh_100 rfl rfl ⟨rfl, rfl⟩ ⟨by decide, by decide⟩ ?_
  refine s_Reader_takeFirst (d := d) e537 ?_
  refine wc_eq 35 d_Reader_readFlight_8 rfl (fun h8 => ?_) (fun h8 => ?_)
  · cases e533
    exact k522 (nb_f h8)
  · cases e533
    exact k524 (nb_t h8)
def F_Reader_emit (c_ : Int32) (M : mM) : Option (Bool × mM) :=
  ob1 (if (M 100 6) < (nI 400) then
  ob1 (wa M 104 400 (M 100 6) c_) fun M9 =>
  ob1 (some (up M9 100 6 ((M9 100 6) + (nI 1)))) fun M10 =>
  some (M10)
  else
  some (M)) fun M6 =>
  some (true, M6)
theorem s_Reader_emit {c_ : Int32} {M : mM} {r : Bool} {M' : mM} (h : F_Reader_emit c_ M = some (r, M')) (hq : Q (some (.int (bI r))) (lay M')) : Sp X d f_Reader_emit [.ref 100, .int c_] (lay M) Q := by
  refine Sp_of (by decide) rfl (Nat.le_of_ble_eq_true rfl) ?_
  obtain ⟨M6, e7, h⟩ := ob1_some h
  have k5 : wp X d f_Reader_emit (0, 0) 30 [.ref 100, .int c_] [] (lay M6) Q := by
    refine wp_iconst d_Reader_emit_30 (v := bI true) rfl ?_
    cases h
    exact wb_iret d_Reader_emit_31 rfl rfl hq
  refine wp_aload_n d_Reader_emit_0 rfl rfl ?_
  refine wl_getI d_Reader_emit_1 lf_Reader_37 sh_100 rfl rfl ?_
  refine wp_sipush d_Reader_emit_4 (v := nI 400) rfl ?_
  refine wq_icmp_ge 30 d_Reader_emit_7 rfl (fun h7 => ?_) (fun h7 => ?_)
  · replace e7 := inn e7 h7
    cases e7
    exact k5
  · replace e7 := ip e7 h7
    refine wp_aload_n d_Reader_emit_10 rfl rfl ?_
    refine wl_getR d_Reader_emit_11 lf_Reader_34 sh_100 rfl ?_
    refine wp_aload_n d_Reader_emit_14 rfl rfl ?_
    refine wl_getI d_Reader_emit_15 lf_Reader_37 sh_100 rfl rfl ?_
    refine wp_iload_n d_Reader_emit_18 rfl rfl ?_
    obtain ⟨M9, e8, e7⟩ := ob1_some e7
    refine wa_ast d_Reader_emit_19 sh_104 e8 ?_
    refine wp_aload_n d_Reader_emit_20 rfl rfl ?_
    refine wp_dup d_Reader_emit_21 rfl ?_
    refine wl_getI d_Reader_emit_22 lf_Reader_37 sh_100 rfl rfl ?_
    refine wp_iconst d_Reader_emit_25 (v := nI 1) rfl ?_
    refine wp_iadd d_Reader_emit_26 ?_
    refine wl_put d_Reader_emit_27 lp_Reader_37 sh_100 rfl ⟨rfl, rfl⟩ ?_
    obtain ⟨M10, e11, e7⟩ := ob1_some e7
    refine wx_M e11 ?_
    cases e7
    exact k5
def F_Reader_divisor (M : mM) : Option (Bool × mM) :=
  ob1 (ob1 (ra M 105 401 (M 100 11)) fun v34 =>
  some (decide (¬ (v34 = (nI 2))))) fun x1 =>
  if x1 = true then
  ob2 (F_Reader_fail (nI 1) M) fun v7 M8 =>
  some (v7, M8)
  else
  ob1 (ob1 (ra M 106 401 (M 100 11)) fun v32 =>
  some (decide (v32 = (nI 0)))) fun x12 =>
  if x12 = true then
  ob2 (F_Reader_fail (nI 2) M) fun v18 M19 =>
  some (v18, M19)
  else
  ob1 (ra M 106 401 (M 100 11)) fun v24 =>
  ob2 (F_Reader_emit ((nI 20000) + v24) M) fun v25 M26 =>
  ob2 (F_Reader_step M26) fun v28 M29 =>
  some (v28, M29)
theorem s_Reader_divisor {M : mM} {r : Bool} {M' : mM} (h : F_Reader_divisor M = some (r, M')) (hq : Q (some (.int (bI r))) (lay M')) : Sp X (d + 1) f_Reader_divisor [.ref 100] (lay M) Q := by
  refine Sp_of (by decide) rfl (Nat.le_of_ble_eq_true rfl) ?_
  obtain ⟨x1, e2, h⟩ := ob1_some h
  have k5 : x1 = true → wp X (d + 1) f_Reader_divisor (0, 0) 13 [.ref 100] [] (lay M) Q := by
    intro x6
    replace h := ip h x6
    refine wp_aload_n d_Reader_divisor_13 rfl rfl ?_
    refine wp_iconst d_Reader_divisor_14 (v := nI 1) rfl ?_
    obtain ⟨v7, M8, e9, h⟩ := ob2_some h
    refine wl_callV1 d_Reader_divisor_15 lc_Reader_fail lv_Reader_127 rfl sh_100 rfl rfl ⟨rfl, rfl⟩ ⟨by decide, by decide⟩ ?_
    refine s_Reader_fail (d := d) e9 ?_
    cases h
    exact wb_iret d_Reader_divisor_18 rfl rfl hq
  have k10 : ¬ x1 = true → wp X (d + 1) f_Reader_divisor (0, 0) 19 [.ref 100] [] (lay M) Q := by
    intro x11
    replace h := inn h x11
    obtain ⟨x12, e13, h⟩ := ob1_some h
    have k16 : x12 = true → wp X (d + 1) f_Reader_divisor (0, 0) 31 [.ref 100] [] (lay M) Q := by
      intro x17
      replace h := ip h x17
      refine wp_aload_n d_Reader_divisor_31 rfl rfl ?_
      refine wp_iconst d_Reader_divisor_32 (v := nI 2) rfl ?_
      obtain ⟨v18, M19, e20, h⟩ := ob2_some h
      refine wl_callV1 d_Reader_divisor_33 lc_Reader_fail lv_Reader_127 rfl sh_100 rfl rfl ⟨rfl, rfl⟩ ⟨by decide, by decide⟩ ?_
      refine s_Reader_fail (d := d) e20 ?_
      cases h
      exact wb_iret d_Reader_divisor_36 rfl rfl hq
    have k21 : ¬ x12 = true → wp X (d + 1) f_Reader_divisor (0, 0) 37 [.ref 100] [] (lay M) Q := by
      intro x22
      replace h := inn h x22
      refine wp_aload_n d_Reader_divisor_37 rfl rfl ?_
      refine wp_sipush d_Reader_divisor_38 (v := nI 20000) rfl ?_
      refine wp_aload_n d_Reader_divisor_41 rfl rfl ?_
      refine wl_getR d_Reader_divisor_42 lf_Reader_43 sh_100 rfl ?_
      refine wp_aload_n d_Reader_divisor_45 rfl rfl ?_
      refine wl_getI d_Reader_divisor_46 lf_Reader_52 sh_100 rfl rfl ?_
      obtain ⟨v24, e23, h⟩ := ob1_some h
      refine wa_ald d_Reader_divisor_49 sh_106 e23 ?_
      refine wp_iadd d_Reader_divisor_50 ?_
      obtain ⟨v25, M26, e27, h⟩ := ob2_some h
      refine wl_callV1 d_Reader_divisor_51 lc_Reader_emit lv_Reader_163 rfl sh_100 rfl rfl ⟨rfl, rfl⟩ ⟨by decide, by decide⟩ ?_
      refine s_Reader_emit (d := d) e27 ?_
      refine wp_pop d_Reader_divisor_54 rfl ?_
      refine wp_aload_n d_Reader_divisor_55 rfl rfl ?_
      obtain ⟨v28, M29, e30, h⟩ := ob2_some h
      refine wl_callV0 d_Reader_divisor_56 lc_Reader_step lv_Reader_140 rfl sh_100 rfl rfl ⟨rfl, rfl⟩ ⟨by decide, by decide⟩ ?_
      refine s_Reader_step (d := d) e30 ?_
      cases h
      exact wb_iret d_Reader_divisor_59 rfl rfl hq
    refine wp_aload_n d_Reader_divisor_19 rfl rfl ?_
    refine wl_getR d_Reader_divisor_20 lf_Reader_43 sh_100 rfl ?_
    refine wp_aload_n d_Reader_divisor_23 rfl rfl ?_
    refine wl_getI d_Reader_divisor_24 lf_Reader_52 sh_100 rfl rfl ?_
    obtain ⟨v32, e31, e13⟩ := ob1_some e13
    refine wa_ald d_Reader_divisor_27 sh_106 e31 ?_
    refine wz_ne 37 d_Reader_divisor_28 rfl (fun h28 => ?_) (fun h28 => ?_)
    · cases e13
      exact k21 (fun z => h28 (of_decide_eq_true z))
    · cases e13
      exact k16 (decide_eq_true h28)
  refine wp_aload_n d_Reader_divisor_0 rfl rfl ?_
  refine wl_getR d_Reader_divisor_1 lf_Reader_40 sh_100 rfl ?_
  refine wp_aload_n d_Reader_divisor_4 rfl rfl ?_
  refine wl_getI d_Reader_divisor_5 lf_Reader_52 sh_100 rfl rfl ?_
  obtain ⟨v34, e33, e2⟩ := ob1_some e2
  refine wa_ald d_Reader_divisor_8 sh_105 e33 ?_
  refine wp_iconst d_Reader_divisor_9 (v := nI 2) rfl ?_
  refine wq_icmp_eq 19 d_Reader_divisor_10 rfl (fun h10 => ?_) (fun h10 => ?_)
  · cases e2
    exact k10 (fun z => (fun z => z h10) (of_decide_eq_true z))
  · cases e2
    exact k5 (decide_eq_true h10)
def F_Reader_unit (M : mM) : Option (Bool × mM) :=
  ob1 (ob1 (ra M 105 401 (M 100 11)) fun v41 =>
  some (decide (v41 = (nI 2)))) fun x4 =>
  ob1 (if ¬ (x4 = true) then ob1 (ob1 (F_Reader_isWord (nI 7) (nI 17) M) fun v38 =>
  some (v38)) fun x36 => some (!x36)
  else some (false)) fun x6 =>
  if x6 = true then
  ob2 (F_Reader_fail (nI 1) M) fun v14 M15 =>
  some (v14, M15)
  else
  ob1 (if x4 = true then
  ob1 (ra M 106 401 (M 100 11)) fun v35 =>
  some (v35)
  else
  ob1 (ra M 106 401 (M 100 11)) fun v33 =>
  some ((nI 10000) + v33)) fun v24 =>
  ob2 (F_Reader_emit v24 M) fun v26 M27 =>
  ob2 (F_Reader_step M27) fun v29 M30 =>
  some (v29, M30)
theorem s_Reader_unit {M : mM} {r : Bool} {M' : mM} (h : F_Reader_unit M = some (r, M')) (hq : Q (some (.int (bI r))) (lay M')) : Sp X (d + 1) f_Reader_unit [.ref 100] (lay M) Q := by
  refine Sp_of (by decide) rfl (Nat.le_of_ble_eq_true rfl) ?_
  obtain ⟨x4, e5, h⟩ := ob1_some h
  have k3 : ∀ u1 : Value, wp X (d + 1) f_Reader_unit (0, 0) 18 [.ref 100, u1] [.int (bI x4)] (lay M) Q := by
    intro u1
    refine wp_istore_n d_Reader_unit_18 rfl (by decide) ?_
    obtain ⟨x6, e7, h⟩ := ob1_some h
    have k12 : x6 = true → wp X (d + 1) f_Reader_unit (0, 0) 34 [.ref 100, .int (bI x4)] [] (lay M) Q := by
      intro x13
      replace h := ip h x13
      refine wp_aload_n d_Reader_unit_34 rfl rfl ?_
      refine wp_iconst d_Reader_unit_35 (v := nI 1) rfl ?_
      obtain ⟨v14, M15, e16, h⟩ := ob2_some h
      refine wl_callV1 d_Reader_unit_36 lc_Reader_fail lv_Reader_127 rfl sh_100 rfl rfl ⟨rfl, rfl⟩ ⟨by decide, by decide⟩ ?_
      refine s_Reader_fail (d := d) e16 ?_
      cases h
      exact wb_iret d_Reader_unit_39 rfl rfl hq
    have k17 : ¬ x6 = true → wp X (d + 1) f_Reader_unit (0, 0) 40 [.ref 100, .int (bI x4)] [] (lay M) Q := by
      intro x18
      replace h := inn h x18
      refine wp_aload_n d_Reader_unit_40 rfl rfl ?_
      obtain ⟨v24, e25, h⟩ := ob1_some h
      have k23 : wp X (d + 1) f_Reader_unit (0, 0) 70 [.ref 100, .int (bI x4)] [.int v24, .ref 100] (lay M) Q := by
        obtain ⟨v26, M27, e28, h⟩ := ob2_some h
        refine wl_callV1 d_Reader_unit_70 lc_Reader_emit lv_Reader_163 rfl sh_100 rfl rfl ⟨rfl, rfl⟩ ⟨by decide, by decide⟩ ?_
        refine s_Reader_emit (d := d) e28 ?_
        refine wp_pop d_Reader_unit_73 rfl ?_
        refine wp_aload_n d_Reader_unit_74 rfl rfl ?_
        obtain ⟨v29, M30, e31, h⟩ := ob2_some h
        refine wl_callV0 d_Reader_unit_75 lc_Reader_step lv_Reader_140 rfl sh_100 rfl rfl ⟨rfl, rfl⟩ ⟨by decide, by decide⟩ ?_
        refine s_Reader_step (d := d) e31 ?_
        cases h
        exact wb_iret d_Reader_unit_78 rfl rfl hq
      refine wp_iload_n d_Reader_unit_41 rfl rfl ?_
      refine wc_eq 57 d_Reader_unit_42 rfl (fun h42 => ?_) (fun h42 => ?_)
      · replace e25 := inn e25 h42
        refine wp_sipush d_Reader_unit_57 (v := nI 10000) rfl ?_
        refine wp_aload_n d_Reader_unit_60 rfl rfl ?_
        refine wl_getR d_Reader_unit_61 lf_Reader_43 sh_100 rfl ?_
        refine wp_aload_n d_Reader_unit_64 rfl rfl ?_
        refine wl_getI d_Reader_unit_65 lf_Reader_52 sh_100 rfl rfl ?_
        obtain ⟨v33, e32, e25⟩ := ob1_some e25
        refine wa_ald d_Reader_unit_68 sh_106 e32 ?_
        refine wp_iadd d_Reader_unit_69 ?_
        cases e25
        exact k23
      · replace e25 := ip e25 h42
        refine wp_aload_n d_Reader_unit_45 rfl rfl ?_
        refine wl_getR d_Reader_unit_46 lf_Reader_43 sh_100 rfl ?_
        refine wp_aload_n d_Reader_unit_49 rfl rfl ?_
        refine wl_getI d_Reader_unit_50 lf_Reader_52 sh_100 rfl rfl ?_
        obtain ⟨v35, e34, e25⟩ := ob1_some e25
        refine wa_ald d_Reader_unit_53 sh_106 e34 ?_
        cases e25
        refine wp_goto 70 d_Reader_unit_54 rfl ?_
        exact k23
    refine wp_iload_n d_Reader_unit_19 rfl rfl ?_
    refine wc_ne 40 d_Reader_unit_20 rfl (fun h20 => ?_) (fun h20 => ?_)
    · replace e7 := inn e7 (fun z => z h20)
      cases e7
      exact k17 (fun z => Bool.noConfusion z)
    · replace e7 := ip e7 h20
      obtain ⟨x36, e37, e7⟩ := ob1_some e7
      cases e7
      refine wp_aload_n d_Reader_unit_23 rfl rfl ?_
      refine wp_bipush d_Reader_unit_24 (v := nI 7) rfl ?_
      refine wp_bipush d_Reader_unit_26 (v := nI 17) rfl ?_
      obtain ⟨v38, e39, e37⟩ := ob1_some e37
      refine wl_callV2 d_Reader_unit_28 lc_Reader_isWord lv_Reader_120 rfl sh_100 rfl rfl ⟨rfl, rfl⟩ ⟨by decide, by decide⟩ ?_
      refine s_Reader_isWord (d := d) e39 ?_
      refine wc_ne 40 d_Reader_unit_31 rfl (fun h31 => ?_) (fun h31 => ?_)
      · cases e37
        exact k17 (nb_t h31)
      · cases e37
        exact k12 (nb_f h31)
  refine wp_aload_n d_Reader_unit_0 rfl rfl ?_
  refine wl_getR d_Reader_unit_1 lf_Reader_40 sh_100 rfl ?_
  refine wp_aload_n d_Reader_unit_4 rfl rfl ?_
  refine wl_getI d_Reader_unit_5 lf_Reader_52 sh_100 rfl rfl ?_
  obtain ⟨v41, e40, e5⟩ := ob1_some e5
  refine wa_ald d_Reader_unit_8 sh_105 e40 ?_
  refine wp_iconst d_Reader_unit_9 (v := nI 2) rfl ?_
  refine wq_icmp_ne 17 d_Reader_unit_10 rfl (fun h10 => ?_) (fun h10 => ?_)
  · cases e5
    refine wp_iconst d_Reader_unit_17 (v := nI 0) rfl ?_
    exact wj_b0 (fun z => h10 (of_decide_eq_true z)) (k3 _)
  · cases e5
    refine wp_iconst d_Reader_unit_13 (v := nI 1) rfl ?_
    refine wp_goto 18 d_Reader_unit_14 rfl ?_
    exact wj_b1 (decide_eq_true h10) (k3 _)
def L_Reader_expression_1 (z : Nat) (kt : Int32 → Bool → mM → Option (Bool × mM)) : Nat → Int32 → Bool → Int32 → mM → Option (Bool × mM)
  | 0, _, _, _, _ => none
  | n + 1, waiting_, well_, n_, M =>
    if (n_ < (nI 400) ∧ well_ = true) then
    jn (fun (waiting_253 : Int32) (well_254 : Bool) (M255 : mM) =>
    L_Reader_expression_1 z kt n waiting_253 well_254 (n_ + nI 1) M255) fun kj256 =>
    ob1 (ob1 (F_Reader_isSign (nI 42) M) fun v400 =>
    some (v400)) fun x257 =>
    if x257 = true then
    ob2 (F_Reader_step M) fun v263 M264 =>
    ob2 (ob2 (ob2 (F_Reader_unit M264) fun v299 M300 =>
    some (v299, M300)) fun x286 M288 =>
    if x286 = true then ob2 (F_Reader_emit (nI 11002) M288) fun v294 M295 =>
    some (v294, M295)
    else some (false, M288)) fun x283 M285 =>
    kj256 waiting_ x283 M285
    else
    ob1 (ob1 (F_Reader_isSign (nI 47) M) fun v398 =>
    some (v398)) fun x304 =>
    if x304 = true then
    ob2 (F_Reader_step M) fun v310 M311 =>
    ob2 (F_Reader_divisor M311) fun v313 M314 =>
    kj256 waiting_ v313 M314
    else
    ob1 (if ¬ (waiting_ = (-1)) then
    ob2 (F_Reader_emit waiting_ M) fun v395 M396 =>
    some (M396)
    else
    some (M)) fun M322 =>
    ob1 (ob1 (ob1 (ob1 (F_Reader_isSign (nI 43) M322) fun v393 =>
    some (v393)) fun x391 => some (!x391)) fun x377 =>
    if x377 = true then ob1 (ob1 (F_Reader_isSign (nI 45) M322) fun v387 =>
    some (v387)) fun x385 => some (!x385)
    else some (false)) fun x324 =>
    if x324 = true then
    some (true, M322)
    else
    ob1 (ob1 (ob1 (F_Reader_isSign (nI 43) M322) fun v375 =>
    some (v375)) fun x367 =>
    if x367 = true then
    some (nI 11000)
    else
    some (nI 11001)) fun v359 =>
    ob2 (F_Reader_step M322) fun v361 M362 =>
    ob2 (F_Reader_unit M362) fun v364 M365 =>
    kj256 v359 v364 M365
    else
    kt waiting_ well_ M
def F_Reader_expression (z : Nat) (M : mM) : Option (Bool × mM) :=
  ob2 (F_Reader_unit M) fun v1 M2 =>
  L_Reader_expression_1 z (fun (waiting_402 : Int32) (well_403 : Bool) (M404 : mM) =>
  some (false, M404)) z (-1) v1 (nI 0) M2
theorem l_Reader_expression_1 {kt : Int32 → Bool → mM → Option (Bool × mM)}  {r : Bool} {M' : mM} (hq : Q (some (.int (bI r))) (lay M')) (K : ∀ (waiting_r : Int32) (well_r : Bool) (N1 : mM) (u3 : Value), kt waiting_r well_r N1 = some (r, M') → wp X (d + 2) f_Reader_expression (0, 0) 148 [.ref 100, .int waiting_r, .int (bI well_r), u3] [] (lay N1) Q) : ∀ (n : Nat) (waiting_ : Int32) (well_ : Bool) (n_ : Int32) (M : mM), L_Reader_expression_1 z kt n waiting_ well_ n_ M = some (r, M') → wp X (d + 2) f_Reader_expression (0, 0) 9 [.ref 100, .int waiting_, .int (bI well_), .int n_] [] (lay M) Q := by
  intro n
  induction n with
  | zero => intro waiting_ well_ n_ M h; exact nn h
  | succ n ih =>
    intro waiting_ well_ n_ M h
    have k4 : ¬ (n_ < (nI 400) ∧ well_ = true) → wp X (d + 2) f_Reader_expression (0, 0) 148 [.ref 100, .int waiting_, .int (bI well_), .int n_] [] (lay M) Q := by
      intro x5
      replace h := inn h x5
      exact K _ _ _ _ h
    refine wp_iload_n d_Reader_expression_9 rfl rfl ?_
    refine wp_sipush d_Reader_expression_10 (v := nI 400) rfl ?_
    refine wq_icmp_ge 148 d_Reader_expression_13 rfl (fun h13 => ?_) (fun h13 => ?_)
    · exact k4 (fun z => h13 z.1)
    · refine wp_iload_n d_Reader_expression_16 rfl rfl ?_
      refine wc_eq 148 d_Reader_expression_17 rfl (fun h17 => ?_) (fun h17 => ?_)
      · exact k4 (fun z => h17 z.2)
      · replace h := ip h ⟨h13, h17⟩
        have k252 : ∀ (waiting_253 : Int32) (well_254 : Bool) (M255 : mM), (fun (waiting_253 : Int32) (well_254 : Bool) (M255 : mM) =>
              L_Reader_expression_1 z kt n waiting_253 well_254 (n_ + nI 1) M255) waiting_253 well_254 M255 = some (r, M') → wp X (d + 2) f_Reader_expression (0, 0) 142 [.ref 100, .int waiting_253, .int (bI well_254), .int n_] [] (lay M255) Q := by
          intro waiting_253 well_254 M255 h
          refine wp_iinc d_Reader_expression_142 (v := n_ + nI 1) rfl rfl ?_
          refine wp_goto 9 d_Reader_expression_145 rfl ?_
          exact ih _ _ _ _ h
        obtain ⟨x257, e258, h⟩ := ob1_some h
        have k261 : x257 = true → wp X (d + 2) f_Reader_expression (0, 0) 29 [.ref 100, .int waiting_, .int (bI well_), .int n_] [] (lay M) Q := by
          intro x262
          replace h := ip h x262
          refine wp_aload_n d_Reader_expression_29 rfl rfl ?_
          obtain ⟨v263, M264, e265, h⟩ := ob2_some h
          refine wl_callV0 d_Reader_expression_30 lc_Reader_step lv_Reader_140 rfl sh_100 rfl rfl ⟨rfl, rfl⟩ ⟨by decide, by decide⟩ ?_
          refine s_Reader_step (d := d + 1) e265 ?_
          refine wp_pop d_Reader_expression_33 rfl ?_
          obtain ⟨x283, M285, e284, h⟩ := ob2_some h
          have k282 : wp X (d + 2) f_Reader_expression (0, 0) 56 [.ref 100, .int waiting_, .int (bI well_), .int n_] [.int (bI x283)] (lay M285) Q := by
            refine wp_istore_n d_Reader_expression_56 rfl (by decide) ?_
            refine wp_goto 142 d_Reader_expression_57 rfl ?_
            exact k252 _ _ _ h
          obtain ⟨x286, M288, e287, e284⟩ := ob2_some e284
          have k292 : x286 = true → wp X (d + 2) f_Reader_expression (0, 0) 41 [.ref 100, .int waiting_, .int (bI well_), .int n_] [] (lay M288) Q := by
            intro x293
            replace e284 := ip e284 x293
            refine wp_aload_n d_Reader_expression_41 rfl rfl ?_
            refine wp_sipush d_Reader_expression_42 (v := nI 11002) rfl ?_
            obtain ⟨v294, M295, e296, e284⟩ := ob2_some e284
            refine wl_callV1 d_Reader_expression_45 lc_Reader_emit lv_Reader_163 rfl sh_100 rfl rfl ⟨rfl, rfl⟩ ⟨by decide, by decide⟩ ?_
            refine s_Reader_emit (d := d + 1) e296 ?_
            refine wc_eq 55 d_Reader_expression_48 rfl (fun h48 => ?_) (fun h48 => ?_)
            · cases e284
              refine wp_iconst d_Reader_expression_55 (v := nI 0) rfl ?_
              exact wj_b0 h48 (k282)
            · cases e284
              refine wp_iconst d_Reader_expression_51 (v := nI 1) rfl ?_
              refine wp_goto 56 d_Reader_expression_52 rfl ?_
              exact wj_b1 h48 (k282)
          have k297 : ¬ x286 = true → wp X (d + 2) f_Reader_expression (0, 0) 55 [.ref 100, .int waiting_, .int (bI well_), .int n_] [] (lay M288) Q := by
            intro x298
            replace e284 := inn e284 x298
            cases e284
            refine wp_iconst d_Reader_expression_55 (v := nI 0) rfl ?_
            exact wj_b0 (fun z => Bool.noConfusion z) (k282)
          refine wp_aload_n d_Reader_expression_34 rfl rfl ?_
          obtain ⟨v299, M300, e301, e287⟩ := ob2_some e287
          refine wl_callV0 d_Reader_expression_35 lc_Reader_unit lv_Reader_166 rfl sh_100 rfl rfl ⟨rfl, rfl⟩ ⟨by decide, by decide⟩ ?_
          refine s_Reader_unit (d := d) e301 ?_
          refine wc_eq 55 d_Reader_expression_38 rfl (fun h38 => ?_) (fun h38 => ?_)
          · cases e287
            exact k297 h38
          · cases e287
            exact k292 h38
        have k302 : ¬ x257 = true → wp X (d + 2) f_Reader_expression (0, 0) 60 [.ref 100, .int waiting_, .int (bI well_), .int n_] [] (lay M) Q := by
          intro x303
          replace h := inn h x303
          obtain ⟨x304, e305, h⟩ := ob1_some h
          have k308 : x304 = true → wp X (d + 2) f_Reader_expression (0, 0) 69 [.ref 100, .int waiting_, .int (bI well_), .int n_] [] (lay M) Q := by
            intro x309
            replace h := ip h x309
            refine wp_aload_n d_Reader_expression_69 rfl rfl ?_
            obtain ⟨v310, M311, e312, h⟩ := ob2_some h
            refine wl_callV0 d_Reader_expression_70 lc_Reader_step lv_Reader_140 rfl sh_100 rfl rfl ⟨rfl, rfl⟩ ⟨by decide, by decide⟩ ?_
            refine s_Reader_step (d := d + 1) e312 ?_
            refine wp_pop d_Reader_expression_73 rfl ?_
            refine wp_aload_n d_Reader_expression_74 rfl rfl ?_
            obtain ⟨v313, M314, e315, h⟩ := ob2_some h
            refine wl_callV0 d_Reader_expression_75 lc_Reader_divisor lv_Reader_169 rfl sh_100 rfl rfl ⟨rfl, rfl⟩ ⟨by decide, by decide⟩ ?_
            refine s_Reader_divisor (d := d) e315 ?_
            refine wp_istore_n d_Reader_expression_78 rfl (by decide) ?_
            refine wp_goto 142 d_Reader_expression_79 rfl ?_
            exact k252 _ _ _ h
          have k316 : ¬ x304 = true → wp X (d + 2) f_Reader_expression (0, 0) 82 [.ref 100, .int waiting_, .int (bI well_), .int n_] [] (lay M) Q := by
            intro x317
            replace h := inn h x317
            obtain ⟨M322, e323, h⟩ := ob1_some h
            have k321 : wp X (d + 2) f_Reader_expression (0, 0) 93 [.ref 100, .int waiting_, .int (bI well_), .int n_] [] (lay M322) Q := by
              obtain ⟨x324, e325, h⟩ := ob1_some h
              have k344 : x324 = true → wp X (d + 2) f_Reader_expression (0, 0) 111 [.ref 100, .int waiting_, .int (bI well_), .int n_] [] (lay M322) Q := by
                intro x345
                replace h := ip h x345
                refine wp_iconst d_Reader_expression_111 (v := bI true) rfl ?_
                cases h
                exact wb_iret d_Reader_expression_112 rfl rfl hq
              have k346 : ¬ x324 = true → wp X (d + 2) f_Reader_expression (0, 0) 113 [.ref 100, .int waiting_, .int (bI well_), .int n_] [] (lay M322) Q := by
                intro x347
                replace h := inn h x347
                obtain ⟨v359, e360, h⟩ := ob1_some h
                have k358 : wp X (d + 2) f_Reader_expression (0, 0) 131 [.ref 100, .int waiting_, .int (bI well_), .int n_] [.int v359] (lay M322) Q := by
                  refine wp_istore_n d_Reader_expression_131 rfl (by decide) ?_
                  refine wp_aload_n d_Reader_expression_132 rfl rfl ?_
                  obtain ⟨v361, M362, e363, h⟩ := ob2_some h
                  refine wl_callV0 d_Reader_expression_133 lc_Reader_step lv_Reader_140 rfl sh_100 rfl rfl ⟨rfl, rfl⟩ ⟨by decide, by decide⟩ ?_
                  refine s_Reader_step (d := d + 1) e363 ?_
                  refine wp_pop d_Reader_expression_136 rfl ?_
                  refine wp_aload_n d_Reader_expression_137 rfl rfl ?_
                  obtain ⟨v364, M365, e366, h⟩ := ob2_some h
                  refine wl_callV0 d_Reader_expression_138 lc_Reader_unit lv_Reader_166 rfl sh_100 rfl rfl ⟨rfl, rfl⟩ ⟨by decide, by decide⟩ ?_
                  refine s_Reader_unit (d := d) e366 ?_
                  refine wp_istore_n d_Reader_expression_141 rfl (by decide) ?_
                  exact k252 _ _ _ h
                obtain ⟨x367, e368, e360⟩ := ob1_some e360
                have k371 : x367 = true → wp X (d + 2) f_Reader_expression (0, 0) 122 [.ref 100, .int waiting_, .int (bI well_), .int n_] [] (lay M322) Q := by
                  intro x372
                  replace e360 := ip e360 x372
                  refine wp_sipush d_Reader_expression_122 (v := nI 11000) rfl ?_
                  cases e360
                  refine wp_goto 131 d_Reader_expression_125 rfl ?_
                  exact k358
                have k373 : ¬ x367 = true → wp X (d + 2) f_Reader_expression (0, 0) 128 [.ref 100, .int waiting_, .int (bI well_), .int n_] [] (lay M322) Q := by
                  intro x374
                  replace e360 := inn e360 x374
                  refine wp_sipush d_Reader_expression_128 (v := nI 11001) rfl ?_
                  cases e360
                  exact k358
                refine wp_aload_n d_Reader_expression_113 rfl rfl ?_
                refine wp_bipush d_Reader_expression_114 (v := nI 43) rfl ?_
                obtain ⟨v375, e376, e368⟩ := ob1_some e368
                refine wl_callV1 d_Reader_expression_116 lc_Reader_isSign lv_Reader_136 rfl sh_100 rfl rfl ⟨rfl, rfl⟩ ⟨by decide, by decide⟩ ?_
                refine s_Reader_isSign (d := d + 1) e376 ?_
                refine wc_eq 128 d_Reader_expression_119 rfl (fun h119 => ?_) (fun h119 => ?_)
                · cases e368
                  exact k373 h119
                · cases e368
                  exact k371 h119
              obtain ⟨x377, e378, e325⟩ := ob1_some e325
              have k383 : x377 = true → wp X (d + 2) f_Reader_expression (0, 0) 102 [.ref 100, .int waiting_, .int (bI well_), .int n_] [] (lay M322) Q := by
                intro x384
                replace e325 := ip e325 x384
                obtain ⟨x385, e386, e325⟩ := ob1_some e325
                cases e325
                refine wp_aload_n d_Reader_expression_102 rfl rfl ?_
                refine wp_bipush d_Reader_expression_103 (v := nI 45) rfl ?_
                obtain ⟨v387, e388, e386⟩ := ob1_some e386
                refine wl_callV1 d_Reader_expression_105 lc_Reader_isSign lv_Reader_136 rfl sh_100 rfl rfl ⟨rfl, rfl⟩ ⟨by decide, by decide⟩ ?_
                refine s_Reader_isSign (d := d + 1) e388 ?_
                refine wc_ne 113 d_Reader_expression_108 rfl (fun h108 => ?_) (fun h108 => ?_)
                · cases e386
                  exact k346 (nb_t h108)
                · cases e386
                  exact k344 (nb_f h108)
              have k389 : ¬ x377 = true → wp X (d + 2) f_Reader_expression (0, 0) 113 [.ref 100, .int waiting_, .int (bI well_), .int n_] [] (lay M322) Q := by
                intro x390
                replace e325 := inn e325 x390
                cases e325
                exact k346 (fun z => Bool.noConfusion z)
              obtain ⟨x391, e392, e378⟩ := ob1_some e378
              cases e378
              refine wp_aload_n d_Reader_expression_93 rfl rfl ?_
              refine wp_bipush d_Reader_expression_94 (v := nI 43) rfl ?_
              obtain ⟨v393, e394, e392⟩ := ob1_some e392
              refine wl_callV1 d_Reader_expression_96 lc_Reader_isSign lv_Reader_136 rfl sh_100 rfl rfl ⟨rfl, rfl⟩ ⟨by decide, by decide⟩ ?_
              refine s_Reader_isSign (d := d + 1) e394 ?_
              refine wc_ne 113 d_Reader_expression_99 rfl (fun h99 => ?_) (fun h99 => ?_)
              · cases e392
                exact k389 (nb_t h99)
              · cases e392
                exact k383 (nb_f h99)
            refine wp_iload_n d_Reader_expression_82 rfl rfl ?_
            refine wp_iconst d_Reader_expression_83 (v := (-1)) rfl ?_
            refine wq_icmp_eq 93 d_Reader_expression_84 rfl (fun h84 => ?_) (fun h84 => ?_)
            · replace e323 := inn e323 (fun z => z h84)
              cases e323
              exact k321
            · replace e323 := ip e323 h84
              refine wp_aload_n d_Reader_expression_87 rfl rfl ?_
              refine wp_iload_n d_Reader_expression_88 rfl rfl ?_
              obtain ⟨v395, M396, e397, e323⟩ := ob2_some e323
              refine wl_callV1 d_Reader_expression_89 lc_Reader_emit lv_Reader_163 rfl sh_100 rfl rfl ⟨rfl, rfl⟩ ⟨by decide, by decide⟩ ?_
              refine s_Reader_emit (d := d + 1) e397 ?_
              refine wp_pop d_Reader_expression_92 rfl ?_
              cases e323
              exact k321
          refine wp_aload_n d_Reader_expression_60 rfl rfl ?_
          refine wp_bipush d_Reader_expression_61 (v := nI 47) rfl ?_
          obtain ⟨v398, e399, e305⟩ := ob1_some e305
          refine wl_callV1 d_Reader_expression_63 lc_Reader_isSign lv_Reader_136 rfl sh_100 rfl rfl ⟨rfl, rfl⟩ ⟨by decide, by decide⟩ ?_
          refine s_Reader_isSign (d := d + 1) e399 ?_
          refine wc_eq 82 d_Reader_expression_66 rfl (fun h66 => ?_) (fun h66 => ?_)
          · cases e305
            exact k316 h66
          · cases e305
            exact k308 h66
        refine wp_aload_n d_Reader_expression_20 rfl rfl ?_
        refine wp_bipush d_Reader_expression_21 (v := nI 42) rfl ?_
        obtain ⟨v400, e401, e258⟩ := ob1_some e258
        refine wl_callV1 d_Reader_expression_23 lc_Reader_isSign lv_Reader_136 rfl sh_100 rfl rfl ⟨rfl, rfl⟩ ⟨by decide, by decide⟩ ?_
        refine s_Reader_isSign (d := d + 1) e401 ?_
        refine wc_eq 60 d_Reader_expression_26 rfl (fun h26 => ?_) (fun h26 => ?_)
        · cases e258
          exact k302 h26
        · cases e258
          exact k261 h26
theorem s_Reader_expression {M : mM} {r : Bool} {M' : mM} (h : F_Reader_expression z M = some (r, M')) (hq : Q (some (.int (bI r))) (lay M')) : Sp X (d + 2) f_Reader_expression [.ref 100] (lay M) Q := by
  refine Sp_of (by decide) rfl (Nat.le_of_ble_eq_true rfl) ?_
  refine wp_iconst d_Reader_expression_0 (v := (-1)) rfl ?_
  refine wp_istore_n d_Reader_expression_1 rfl (by decide) ?_
  refine wp_aload_n d_Reader_expression_2 rfl rfl ?_
  obtain ⟨v1, M2, e3, h⟩ := ob2_some h
  refine wl_callV0 d_Reader_expression_3 lc_Reader_unit lv_Reader_166 rfl sh_100 rfl rfl ⟨rfl, rfl⟩ ⟨by decide, by decide⟩ ?_
  refine s_Reader_unit (d := d) e3 ?_
  refine wp_istore_n d_Reader_expression_6 rfl (by decide) ?_
  refine wp_iconst d_Reader_expression_7 (v := nI 0) rfl ?_
  refine wp_istore_n d_Reader_expression_8 rfl (by decide) ?_
  refine l_Reader_expression_1 hq ?_ _ _ _ _ _ h
  intro waiting_402 well_403 M404 u3 h
  refine wp_iconst d_Reader_expression_148 (v := bI false) rfl ?_
  cases h
  exact wb_iret d_Reader_expression_149 rfl rfl hq
end S143
