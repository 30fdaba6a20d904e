/-! methods as functions: printed by program -/
section S148
variable {X : mXs} {d z : Nat} {Q : Option Value → mH → Prop}
def L_Layers_firsts_1 (z : Nat) (M : mM) : Nat → Int32 → Int32 → Option (Int32)
  | 0, _, _ => none
  | n + 1, set_, s_ =>
    if s_ < (nI 12) then
    ob1 (ob1 (ob1 (ra M 144 12 s_) fun v23 =>
    some (decide (v23 = (nI 0)))) fun x14 =>
    if x14 = true then
    some (jshl (nI 1) s_)
    else
    some (nI 0)) fun v12 =>
    L_Layers_firsts_1 z M n (set_ ||| v12) (s_ + nI 1)
    else
    some (set_)
def F_Layers_firsts (z : Nat) (M : mM) : Option (Int32) :=
  ob1 (L_Layers_firsts_1 z M z (nI 0) (nI 0)) fun set_24 =>
  some (set_24)
theorem l_Layers_firsts_1 {M : mM}  {set_r : Int32} (K : ∀ u2 : Value, wp X d f_Layers_firsts (0, 0) 35 [.ref 143, .int set_r, u2] [] (lay M) Q) : ∀ (n : Nat) (set_ : Int32) (s_ : Int32), L_Layers_firsts_1 z M n set_ s_ = some (set_r) → wp X d f_Layers_firsts (0, 0) 4 [.ref 143, .int set_, .int s_] [] (lay M) Q := by
  intro n
  induction n with
  | zero => intro set_ s_ h; exact nn h
  | succ n ih =>
    intro set_ s_ h
    refine wp_iload_n d_Layers_firsts_4 rfl rfl ?_
    refine wp_bipush d_Layers_firsts_5 (v := nI 12) rfl ?_
    refine wq_icmp_ge 35 d_Layers_firsts_7 rfl (fun h7 => ?_) (fun h7 => ?_)
    · replace h := inn h h7
      cases h
      exact K _
    · replace h := ip h h7
      refine wp_iload_n d_Layers_firsts_10 rfl rfl ?_
      obtain ⟨v12, e13, h⟩ := ob1_some h
      have k11 : wp X d f_Layers_firsts (0, 0) 27 [.ref 143, .int set_, .int s_] [.int v12, .int set_] (lay M) Q := by
        refine wp_ior d_Layers_firsts_27 ?_
        refine wp_istore_n d_Layers_firsts_28 rfl (by decide) ?_
        refine wp_iinc d_Layers_firsts_29 (v := s_ + nI 1) rfl rfl ?_
        refine wp_goto 4 d_Layers_firsts_32 rfl ?_
        exact ih _ _ h
      obtain ⟨x14, e15, e13⟩ := ob1_some e13
      have k18 : x14 = true → wp X d f_Layers_firsts (0, 0) 20 [.ref 143, .int set_, .int s_] [.int set_] (lay M) Q := by
        intro x19
        replace e13 := ip e13 x19
        refine wp_iconst d_Layers_firsts_20 (v := nI 1) rfl ?_
        refine wp_iload_n d_Layers_firsts_21 rfl rfl ?_
        refine wp_ishl d_Layers_firsts_22 ?_
        cases e13
        refine wp_goto 27 d_Layers_firsts_23 rfl ?_
        exact k11
      have k20 : ¬ x14 = true → wp X d f_Layers_firsts (0, 0) 26 [.ref 143, .int set_, .int s_] [.int set_] (lay M) Q := by
        intro x21
        replace e13 := inn e13 x21
        refine wp_iconst d_Layers_firsts_26 (v := nI 0) rfl ?_
        cases e13
        exact k11
      refine wp_aload_n d_Layers_firsts_11 rfl rfl ?_
      refine wl_getR d_Layers_firsts_12 lf_Layers_9 sh_143 rfl ?_
      refine wp_iload_n d_Layers_firsts_15 rfl rfl ?_
      obtain ⟨v23, e22, e15⟩ := ob1_some e15
      refine wa_ald d_Layers_firsts_16 sh_144 e22 ?_
      refine wz_ne 26 d_Layers_firsts_17 rfl (fun h17 => ?_) (fun h17 => ?_)
      · cases e15
        exact k20 (fun z => h17 (of_decide_eq_true z))
      · cases e15
        exact k18 (decide_eq_true h17)
theorem s_Layers_firsts {M : mM} {r : Int32} (h : F_Layers_firsts z M = some r) (hq : Q (some (.int r)) (lay M)) : Sp X d f_Layers_firsts [.ref 143] (lay M) Q := by
  refine Sp_of (by decide) rfl (Nat.le_of_ble_eq_true rfl) ?_
  refine wp_iconst d_Layers_firsts_0 (v := nI 0) rfl ?_
  refine wp_istore_n d_Layers_firsts_1 rfl (by decide) ?_
  refine wp_iconst d_Layers_firsts_2 (v := nI 0) rfl ?_
  refine wp_istore_n d_Layers_firsts_3 rfl (by decide) ?_
  obtain ⟨set_24, e25, h⟩ := ob1_some h
  refine l_Layers_firsts_1 ?_ _ _ _ e25
  intro u2
  refine wp_iload_n d_Layers_firsts_35 rfl rfl ?_
  cases h
  exact wp_iret d_Layers_firsts_36 rfl rfl rfl hq
def L_Layers_learn_1 (z : Nat) (r_strips : Nat) (wd_strips : Nat) (mo_strips : Nat) : Nat → Int32 → mM → Option (mM)
  | 0, _, _ => none
  | n + 1, i_, M =>
    if i_ < (M r_strips 3) then
    ob1 (F_Rows_get r_strips wd_strips mo_strips i_ (nI 0) M) fun v3 =>
    ob1 (if (¬ (v3 < (nI 0)) ∧ v3 < (nI 12)) then
    ob1 (ra M 144 12 v3) fun v19 =>
    ob1 (F_Rows_get r_strips wd_strips mo_strips i_ (nI 1) M) fun v20 =>
    ob1 (wa M 144 12 v3 (v19 ||| (jshl (nI 1) v20))) fun M23 =>
    some (M23)
    else
    some (M)) fun M14 =>
    L_Layers_learn_1 z r_strips wd_strips mo_strips n (i_ + nI 1) M14
    else
    some (M)
def L_Layers_learn_3 (z : Nat) (r_strips : Nat) (wd_strips : Nat) (mo_strips : Nat) (by_ : Int32) : Nat → Int32 → mM → Option (mM)
  | 0, _, _ => none
  | n + 1, s_, M =>
    if s_ < (nI 12) then
    ob1 (ra M 145 12 s_) fun v28 =>
    ob1 (ob1 (ob1 (ra M 145 12 s_) fun v57 =>
    some (decide (((jshr v57 by_) &&& (nI 1)) = (nI 1)))) fun x46 =>
    if x46 = true then
    ob1 (ra M 145 12 by_) fun v53 =>
    some (v53)
    else
    some (nI 0)) fun v42 =>
    ob1 (wa M 145 12 s_ (v28 ||| v42)) fun M45 =>
    L_Layers_learn_3 z r_strips wd_strips mo_strips by_ n (s_ + nI 1) M45
    else
    some (M)
def L_Layers_learn_2 (z : Nat) (r_strips : Nat) (wd_strips : Nat) (mo_strips : Nat) : Nat → Int32 → mM → Option (mM)
  | 0, _, _ => none
  | n + 1, by_, M =>
    if by_ < (nI 12) then
    ob1 (L_Layers_learn_3 z r_strips wd_strips mo_strips by_ z (nI 0) M) fun M58 =>
    L_Layers_learn_2 z r_strips wd_strips mo_strips n (by_ + nI 1) M58
    else
    some (M)
def F_Layers_learn (z : Nat) (r_strips : Nat) (wd_strips : Nat) (mo_strips : Nat) (M : mM) : Option mM :=
  ob1 (F_Arrays_fill z 144 12 (nI 0) M) fun M1 =>
  ob1 (L_Layers_learn_1 z r_strips wd_strips mo_strips z (nI 0) M1) fun M24 =>
  ob1 (wc M24 144 12 (nI 0) 145 12 (nI 0) (nI 12)) fun M26 =>
  ob1 (L_Layers_learn_2 z r_strips wd_strips mo_strips z (nI 0) M26) fun M60 =>
  some M60
theorem l_Layers_learn_1 {r_strips : Nat} {wd_strips : Nat} {mo_strips : Nat}  {N' : mM} (hr_strips : isR r_strips wd_strips mo_strips) (K : ∀ u2 u3 : Value, wp X (d + 1) f_Layers_learn (0, 0) 58 [.ref 143, .ref r_strips, u2, u3] [] (lay N') Q) : ∀ (n : Nat) (i_ : Int32) (M : mM) (u3 : Value), L_Layers_learn_1 z r_strips wd_strips mo_strips n i_ M = some (N') → wp X (d + 1) f_Layers_learn (0, 0) 10 [.ref 143, .ref r_strips, .int i_, u3] [] (lay M) Q := by
  intro n
  induction n with
  | zero => intro i_ M u3 h; exact nn h
  | succ n ih =>
    intro i_ M u3 h
    refine wp_iload_n d_Layers_learn_10 rfl rfl ?_
    refine wp_aload_n d_Layers_learn_11 rfl rfl ?_
    refine wl_getI d_Layers_learn_12 lf_Layers_24 (isR0 hr_strips) rfl rfl ?_
    refine wq_icmp_ge 58 d_Layers_learn_15 rfl (fun h15 => ?_) (fun h15 => ?_)
    · replace h := inn h h15
      cases h
      exact K _ _
    · replace h := ip h h15
      refine wp_aload_n d_Layers_learn_18 rfl rfl ?_
      refine wp_iload_n d_Layers_learn_19 rfl rfl ?_
      refine wp_iconst d_Layers_learn_20 (v := nI 0) rfl ?_
      obtain ⟨v3, e4, h⟩ := ob1_some h
      refine wl_callV2 d_Layers_learn_21 lc_Rows_get lv_Layers_30 rfl (isR0 hr_strips) rfl rfl ⟨rfl, rfl⟩ ⟨by decide, by decide⟩ ?_
      refine s_Rows_get (d := d) hr_strips e4 ?_
      refine wp_istore_n d_Layers_learn_24 rfl (by decide) ?_
      obtain ⟨M14, e15, h⟩ := ob1_some h
      have k13 : wp X (d + 1) f_Layers_learn (0, 0) 52 [.ref 143, .ref r_strips, .int i_, .int v3] [] (lay M14) Q := by
        refine wp_iinc d_Layers_learn_52 (v := i_ + nI 1) rfl rfl ?_
        refine wp_goto 10 d_Layers_learn_55 rfl ?_
        exact ih _ _ _ h
      have k16 : ¬ (¬ (v3 < (nI 0)) ∧ v3 < (nI 12)) → wp X (d + 1) f_Layers_learn (0, 0) 52 [.ref 143, .ref r_strips, .int i_, .int v3] [] (lay M) Q := by
        intro x17
        replace e15 := inn e15 x17
        cases e15
        exact k13
      refine wp_iload_n d_Layers_learn_25 rfl rfl ?_
      refine wz_lt 52 d_Layers_learn_26 rfl (fun h26 => ?_) (fun h26 => ?_)
      · exact k16 (fun z => (fun z => z h26) z.1)
      · refine wp_iload_n d_Layers_learn_29 rfl rfl ?_
        refine wp_bipush d_Layers_learn_30 (v := nI 12) rfl ?_
        refine wq_icmp_ge 52 d_Layers_learn_32 rfl (fun h32 => ?_) (fun h32 => ?_)
        · exact k16 (fun z => h32 z.2)
        · replace e15 := ip e15 ⟨h26, h32⟩
          refine wp_aload_n d_Layers_learn_35 rfl rfl ?_
          refine wl_getR d_Layers_learn_36 lf_Layers_9 sh_143 rfl ?_
          refine wp_iload_n d_Layers_learn_39 rfl rfl ?_
          refine wp_dup2 d_Layers_learn_40 rfl rfl ?_
          obtain ⟨v19, e18, e15⟩ := ob1_some e15
          refine wa_ald d_Layers_learn_41 sh_144 e18 ?_
          refine wp_iconst d_Layers_learn_42 (v := nI 1) rfl ?_
          refine wp_aload_n d_Layers_learn_43 rfl rfl ?_
          refine wp_iload_n d_Layers_learn_44 rfl rfl ?_
          refine wp_iconst d_Layers_learn_45 (v := nI 1) rfl ?_
          obtain ⟨v20, e21, e15⟩ := ob1_some e15
          refine wl_callV2 d_Layers_learn_46 lc_Rows_get lv_Layers_30 rfl (isR0 hr_strips) rfl rfl ⟨rfl, rfl⟩ ⟨by decide, by decide⟩ ?_
          refine s_Rows_get (d := d) hr_strips e21 ?_
          refine wp_ishl d_Layers_learn_49 ?_
          refine wp_ior d_Layers_learn_50 ?_
          obtain ⟨M23, e22, e15⟩ := ob1_some e15
          refine wa_ast d_Layers_learn_51 sh_144 e22 ?_
          cases e15
          exact k13
theorem l_Layers_learn_3 {r_strips : Nat} {wd_strips : Nat} {mo_strips : Nat} {by_ : Int32}  {N' : mM} (hr_strips : isR r_strips wd_strips mo_strips) (K : ∀ u3 : Value, wp X (d + 1) f_Layers_learn (0, 0) 128 [.ref 143, .ref r_strips, .int by_, u3] [] (lay N') Q) : ∀ (n : Nat) (s_ : Int32) (M : mM), L_Layers_learn_3 z r_strips wd_strips mo_strips by_ n s_ M = some (N') → wp X (d + 1) f_Layers_learn (0, 0) 83 [.ref 143, .ref r_strips, .int by_, .int s_] [] (lay M) Q := by
  intro n
  induction n with
  | zero => intro s_ M h; exact nn h
  | succ n ih =>
    intro s_ M h
    refine wp_iload_n d_Layers_learn_83 rfl rfl ?_
    refine wp_bipush d_Layers_learn_84 (v := nI 12) rfl ?_
    refine wq_icmp_ge 128 d_Layers_learn_86 rfl (fun h86 => ?_) (fun h86 => ?_)
    · replace h := inn h h86
      cases h
      exact K _
    · replace h := ip h h86
      refine wp_aload_n d_Layers_learn_89 rfl rfl ?_
      refine wl_getR d_Layers_learn_90 lf_Layers_15 sh_143 rfl ?_
      refine wp_iload_n d_Layers_learn_93 rfl rfl ?_
      refine wp_dup2 d_Layers_learn_94 rfl rfl ?_
      obtain ⟨v28, e27, h⟩ := ob1_some h
      refine wa_ald d_Layers_learn_95 sh_145 e27 ?_
      obtain ⟨v42, e43, h⟩ := ob1_some h
      have k41 : wp X (d + 1) f_Layers_learn (0, 0) 120 [.ref 143, .ref r_strips, .int by_, .int s_] [.int v42, .int v28, .int s_, .ref 145] (lay M) Q := by
        refine wp_ior d_Layers_learn_120 ?_
        obtain ⟨M45, e44, h⟩ := ob1_some h
        refine wa_ast d_Layers_learn_121 sh_145 e44 ?_
        refine wp_iinc d_Layers_learn_122 (v := s_ + nI 1) rfl rfl ?_
        refine wp_goto 83 d_Layers_learn_125 rfl ?_
        exact ih _ _ h
      obtain ⟨x46, e47, e43⟩ := ob1_some e43
      have k50 : x46 = true → wp X (d + 1) f_Layers_learn (0, 0) 110 [.ref 143, .ref r_strips, .int by_, .int s_] [.int v28, .int s_, .ref 145] (lay M) Q := by
        intro x51
        replace e43 := ip e43 x51
        refine wp_aload_n d_Layers_learn_110 rfl rfl ?_
        refine wl_getR d_Layers_learn_111 lf_Layers_15 sh_143 rfl ?_
        refine wp_iload_n d_Layers_learn_114 rfl rfl ?_
        obtain ⟨v53, e52, e43⟩ := ob1_some e43
        refine wa_ald d_Layers_learn_115 sh_145 e52 ?_
        cases e43
        refine wp_goto 120 d_Layers_learn_116 rfl ?_
        exact k41
      have k54 : ¬ x46 = true → wp X (d + 1) f_Layers_learn (0, 0) 119 [.ref 143, .ref r_strips, .int by_, .int s_] [.int v28, .int s_, .ref 145] (lay M) Q := by
        intro x55
        replace e43 := inn e43 x55
        refine wp_iconst d_Layers_learn_119 (v := nI 0) rfl ?_
        cases e43
        exact k41
      refine wp_aload_n d_Layers_learn_96 rfl rfl ?_
      refine wl_getR d_Layers_learn_97 lf_Layers_15 sh_143 rfl ?_
      refine wp_iload_n d_Layers_learn_100 rfl rfl ?_
      obtain ⟨v57, e56, e47⟩ := ob1_some e47
      refine wa_ald d_Layers_learn_101 sh_145 e56 ?_
      refine wp_iload_n d_Layers_learn_102 rfl rfl ?_
      refine wp_ishr d_Layers_learn_103 ?_
      refine wp_iconst d_Layers_learn_104 (v := nI 1) rfl ?_
      refine wp_iand d_Layers_learn_105 ?_
      refine wp_iconst d_Layers_learn_106 (v := nI 1) rfl ?_
      refine wq_icmp_ne 119 d_Layers_learn_107 rfl (fun h107 => ?_) (fun h107 => ?_)
      · cases e47
        exact k54 (fun z => h107 (of_decide_eq_true z))
      · cases e47
        exact k50 (decide_eq_true h107)
theorem l_Layers_learn_2 {r_strips : Nat} {wd_strips : Nat} {mo_strips : Nat}  {N' : mM} (hr_strips : isR r_strips wd_strips mo_strips) (K : ∀ u2 u3 : Value, wp X (d + 1) f_Layers_learn (0, 0) 134 [.ref 143, .ref r_strips, u2, u3] [] (lay N') Q) : ∀ (n : Nat) (by_ : Int32) (M : mM) (u3 : Value), L_Layers_learn_2 z r_strips wd_strips mo_strips n by_ M = some (N') → wp X (d + 1) f_Layers_learn (0, 0) 75 [.ref 143, .ref r_strips, .int by_, u3] [] (lay M) Q := by
  intro n
  induction n with
  | zero => intro by_ M u3 h; exact nn h
  | succ n ih =>
    intro by_ M u3 h
    refine wp_iload_n d_Layers_learn_75 rfl rfl ?_
    refine wp_bipush d_Layers_learn_76 (v := nI 12) rfl ?_
    refine wq_icmp_ge 134 d_Layers_learn_78 rfl (fun h78 => ?_) (fun h78 => ?_)
    · replace h := inn h h78
      cases h
      exact K _ _
    · replace h := ip h h78
      refine wp_iconst d_Layers_learn_81 (v := nI 0) rfl ?_
      refine wp_istore_n d_Layers_learn_82 rfl (by decide) ?_
      obtain ⟨M58, e59, h⟩ := ob1_some h
      refine l_Layers_learn_3 hr_strips ?_ _ _ _ e59
      intro u3
      refine wp_iinc d_Layers_learn_128 (v := by_ + nI 1) rfl rfl ?_
      refine wp_goto 75 d_Layers_learn_131 rfl ?_
      exact ih _ _ _ h
theorem s_Layers_learn {r_strips : Nat} {wd_strips : Nat} {mo_strips : Nat} {M : mM} {M' : mM} (hr_strips : isR r_strips wd_strips mo_strips) (h : F_Layers_learn z r_strips wd_strips mo_strips M = some M') (hq : Q none (lay M')) : Sp X (d + 1) f_Layers_learn [.ref 143, .ref r_strips] (lay M) Q := by
  refine Sp_of (by decide) rfl (Nat.le_of_ble_eq_true rfl) ?_
  refine wp_aload_n d_Layers_learn_0 rfl rfl ?_
  refine wl_getR d_Layers_learn_1 lf_Layers_9 sh_143 rfl ?_
  refine wp_iconst d_Layers_learn_4 (v := nI 0) rfl ?_
  obtain ⟨M1, e2, h⟩ := ob1_some h
  refine wl_callS2 d_Layers_learn_5 lc_Arrays_fill ls_Layers_18 rfl ⟨rfl, rfl⟩ ⟨by decide, by decide⟩ ?_
  refine s_Arrays_fill (d := d) sh_144 e2 ?_
  refine wp_iconst d_Layers_learn_8 (v := nI 0) rfl ?_
  refine wp_istore_n d_Layers_learn_9 rfl (by decide) ?_
  obtain ⟨M24, e62, h⟩ := ob1_some h
  refine l_Layers_learn_1 hr_strips ?_ _ _ _ _ e62
  intro u2 u3
  refine wp_aload_n d_Layers_learn_58 rfl rfl ?_
  refine wl_getR d_Layers_learn_59 lf_Layers_9 sh_143 rfl ?_
  refine wp_iconst d_Layers_learn_62 (v := nI 0) rfl ?_
  refine wp_aload_n d_Layers_learn_63 rfl rfl ?_
  refine wl_getR d_Layers_learn_64 lf_Layers_15 sh_143 rfl ?_
  refine wp_iconst d_Layers_learn_67 (v := nI 0) rfl ?_
  refine wp_bipush d_Layers_learn_68 (v := nI 12) rfl ?_
  obtain ⟨M26, e25, h⟩ := ob1_some h
  refine wa_copy d_Layers_learn_70 lac_Layers_34 sh_144 sh_145 e25 ?_
  refine wp_iconst d_Layers_learn_73 (v := nI 0) rfl ?_
  refine wp_istore_n d_Layers_learn_74 rfl (by decide) ?_
  obtain ⟨M60, e61, h⟩ := ob1_some h
  refine l_Layers_learn_2 hr_strips ?_ _ _ _ _ e61
  intro u2 u3
  cases h
  exact wp_ret d_Layers_learn_134 rfl rfl hq
def L_Layers_tops_1 (z : Nat) (M : mM) : Nat → Int32 → Int32 → Option (Int32)
  | 0, _, _ => none
  | n + 1, covered_, s_ =>
    if s_ < (nI 12) then
    ob1 (ra M 144 12 s_) fun v2 =>
    L_Layers_tops_1 z M n (covered_ ||| v2) (s_ + nI 1)
    else
    some (covered_)
def F_Layers_tops (z : Nat) (M : mM) : Option (Int32) :=
  ob1 (L_Layers_tops_1 z M z (nI 0) (nI 0)) fun covered_3 =>
  some ((nI 4095) &&& (covered_3 ^^^ (-1)))
theorem l_Layers_tops_1 {M : mM}  {covered_r : Int32} (K : ∀ u2 : Value, wp X d f_Layers_tops (0, 0) 25 [.ref 143, .int covered_r, u2] [] (lay M) Q) : ∀ (n : Nat) (covered_ : Int32) (s_ : Int32), L_Layers_tops_1 z M n covered_ s_ = some (covered_r) → wp X d f_Layers_tops (0, 0) 4 [.ref 143, .int covered_, .int s_] [] (lay M) Q := by
  intro n
  induction n with
  | zero => intro covered_ s_ h; exact nn h
  | succ n ih =>
    intro covered_ s_ h
    refine wp_iload_n d_Layers_tops_4 rfl rfl ?_
    refine wp_bipush d_Layers_tops_5 (v := nI 12) rfl ?_
    refine wq_icmp_ge 25 d_Layers_tops_7 rfl (fun h7 => ?_) (fun h7 => ?_)
    · replace h := inn h h7
      cases h
      exact K _
    · replace h := ip h h7
      refine wp_iload_n d_Layers_tops_10 rfl rfl ?_
      refine wp_aload_n d_Layers_tops_11 rfl rfl ?_
      refine wl_getR d_Layers_tops_12 lf_Layers_9 sh_143 rfl ?_
      refine wp_iload_n d_Layers_tops_15 rfl rfl ?_
      obtain ⟨v2, e1, h⟩ := ob1_some h
      refine wa_ald d_Layers_tops_16 sh_144 e1 ?_
      refine wp_ior d_Layers_tops_17 ?_
      refine wp_istore_n d_Layers_tops_18 rfl (by decide) ?_
      refine wp_iinc d_Layers_tops_19 (v := s_ + nI 1) rfl rfl ?_
      refine wp_goto 4 d_Layers_tops_22 rfl ?_
      exact ih _ _ h
theorem s_Layers_tops {M : mM} {r : Int32} (h : F_Layers_tops z M = some r) (hq : Q (some (.int r)) (lay M)) : Sp X d f_Layers_tops [.ref 143] (lay M) Q := by
  refine Sp_of (by decide) rfl (Nat.le_of_ble_eq_true rfl) ?_
  refine wp_iconst d_Layers_tops_0 (v := nI 0) rfl ?_
  refine wp_istore_n d_Layers_tops_1 rfl (by decide) ?_
  refine wp_iconst d_Layers_tops_2 (v := nI 0) rfl ?_
  refine wp_istore_n d_Layers_tops_3 rfl (by decide) ?_
  obtain ⟨covered_3, e4, h⟩ := ob1_some h
  refine l_Layers_tops_1 ?_ _ _ _ e4
  intro u2
  refine wp_sipush d_Layers_tops_25 (v := nI 4095) rfl ?_
  refine wp_iload_n d_Layers_tops_28 rfl rfl ?_
  refine wp_iconst d_Layers_tops_29 (v := (-1)) rfl ?_
  refine wp_ixor d_Layers_tops_30 ?_
  refine wp_iand d_Layers_tops_31 ?_
  cases h
  exact wp_iret d_Layers_tops_32 rfl rfl rfl hq
def F_Rec_order (z : Nat) (what_ : Int32) (M : mM) : Option (Int32 × mM) :=
  ob1 (F_Layers_learn z 38 5 16 M) fun M1 =>
  if (F_Rec_within what_ (nI 10) (nI 21)) = true then
  ob1 (F_Layers_earliest z (what_ - (nI 10)) M1) fun v13 =>
  some (v13, M1)
  else
  if (F_Rec_within what_ (nI 30) (nI 41)) = true then
  ob1 (F_Layers_above z (what_ - (nI 30)) M1) fun v11 =>
  some (v11, M1)
  else
  if what_ = nI 0 then
  ob1 (F_Layers_firsts z M1) fun v3 =>
  some (v3, M1)
  else
  if what_ = nI 1 then
  ob1 (F_Layers_rounds z M1) fun v5 =>
  some (v5, M1)
  else
  if what_ = nI 2 then
  ob1 (F_Layers_tops z M1) fun v7 =>
  some (v7, M1)
  else
  some ((-1), M1)
theorem s_Rec_order {what_ : Int32} {M : mM} {r : Int32} {M' : mM} (h : F_Rec_order z what_ M = some (r, M')) (hq : Q (some (.int r)) (lay M')) : Sp X (d + 2) f_Rec_order [.ref 0, .int what_] (lay M) Q := by
  refine Sp_of (by decide) rfl (Nat.le_of_ble_eq_true rfl) ?_
  refine wp_aload_n d_Rec_order_0 rfl rfl ?_
  refine wl_getR d_Rec_order_1 lf_Rec_64 sh_0 rfl ?_
  refine wp_aload_n d_Rec_order_4 rfl rfl ?_
  refine wl_getR d_Rec_order_5 lf_Rec_19 sh_0 rfl ?_
  refine wl_getR d_Rec_order_8 lf_Rec_257 (shT0 isTd_28) rfl ?_
  obtain ⟨M1, e2, h⟩ := ob1_some h
  refine wl_callV1 d_Rec_order_11 lc_Layers_learn lv_Rec_260 rfl sh_143 rfl rfl ⟨rfl, rfl⟩ ⟨by decide, by decide⟩ ?_
  refine s_Layers_learn (d := d) (isR_strips isTd_28) e2 ?_
  refine wp_iload_n d_Rec_order_14 rfl rfl ?_
  refine wp_bipush d_Rec_order_15 (v := nI 10) rfl ?_
  refine wp_bipush d_Rec_order_17 (v := nI 21) rfl ?_
  refine wl_callS3 d_Rec_order_19 lc_Rec_within ls_Rec_96 rfl ⟨rfl, rfl⟩ ⟨by decide, by decide⟩ ?_
  refine s_Rec_within (d := d + 1) rfl ?_
  refine wc_eq 37 d_Rec_order_22 rfl (fun h22 => ?_) (fun h22 => ?_)
  · replace h := inn h h22
    refine wp_iload_n d_Rec_order_37 rfl rfl ?_
    refine wp_bipush d_Rec_order_38 (v := nI 30) rfl ?_
    refine wp_bipush d_Rec_order_40 (v := nI 41) rfl ?_
    refine wl_callS3 d_Rec_order_42 lc_Rec_within ls_Rec_96 rfl ⟨rfl, rfl⟩ ⟨by decide, by decide⟩ ?_
    refine s_Rec_within (d := d + 1) rfl ?_
    refine wc_eq 60 d_Rec_order_45 rfl (fun h45 => ?_) (fun h45 => ?_)
    · replace h := inn h h45
      refine wp_iload_n d_Rec_order_60 rfl rfl ?_
      by_cases h61_0 : what_ = nI 0
      · replace h := ip h h61_0
        refine wt_in 88 (k := 0) (off := 27) (by decide) h61_0 d_Rec_order_61 (by decide) (by decide) (by decide) (by decide) ?_
        refine wp_aload_n d_Rec_order_88 rfl rfl ?_
        refine wl_getR d_Rec_order_89 lf_Rec_64 sh_0 rfl ?_
        obtain ⟨v3, e4, h⟩ := ob1_some h
        refine wl_callV0 d_Rec_order_92 lc_Layers_firsts lv_Rec_270 rfl sh_143 rfl rfl ⟨rfl, rfl⟩ ⟨by decide, by decide⟩ ?_
        refine s_Layers_firsts (d := d + 1) e4 ?_
        cases h
        exact wp_iret d_Rec_order_95 rfl rfl rfl hq
      · replace h := inn h h61_0
        by_cases h61_1 : what_ = nI 1
        · replace h := ip h h61_1
          refine wt_in 96 (k := 1) (off := 35) (by decide) h61_1 d_Rec_order_61 (by decide) (by decide) (by decide) (by decide) ?_
          refine wp_aload_n d_Rec_order_96 rfl rfl ?_
          refine wl_getR d_Rec_order_97 lf_Rec_64 sh_0 rfl ?_
          obtain ⟨v5, e6, h⟩ := ob1_some h
          refine wl_callV0 d_Rec_order_100 lc_Layers_rounds lv_Rec_274 rfl sh_143 rfl rfl ⟨rfl, rfl⟩ ⟨by decide, by decide⟩ ?_
          refine s_Layers_rounds (d := d + 1) e6 ?_
          cases h
          exact wp_iret d_Rec_order_103 rfl rfl rfl hq
        · replace h := inn h h61_1
          by_cases h61_2 : what_ = nI 2
          · replace h := ip h h61_2
            refine wt_in 104 (k := 2) (off := 43) (by decide) h61_2 d_Rec_order_61 (by decide) (by decide) (by decide) (by decide) ?_
            refine wp_aload_n d_Rec_order_104 rfl rfl ?_
            refine wl_getR d_Rec_order_105 lf_Rec_64 sh_0 rfl ?_
            obtain ⟨v7, e8, h⟩ := ob1_some h
            refine wl_callV0 d_Rec_order_108 lc_Layers_tops lv_Rec_277 rfl sh_143 rfl rfl ⟨rfl, rfl⟩ ⟨by decide, by decide⟩ ?_
            refine s_Layers_tops (d := d + 1) e8 ?_
            cases h
            exact wp_iret d_Rec_order_111 rfl rfl rfl hq
          · replace h := inn h h61_2
            refine wt_out 112 d_Rec_order_61 (by decide) (fun y10 y91 y92 y9 => ?_) rfl ?_
            · have y93 : y10 = 0 ∨ y10 = 1 ∨ y10 = 2 := by omega
              rcases y93 with rfl | rfl | rfl
              · exact h61_0 y9
              · exact h61_1 y9
              · exact h61_2 y9
            · refine wp_iconst d_Rec_order_112 (v := (-1)) rfl ?_
              cases h
              exact wp_iret d_Rec_order_113 rfl rfl rfl hq
    · replace h := ip h h45
      refine wp_aload_n d_Rec_order_48 rfl rfl ?_
      refine wl_getR d_Rec_order_49 lf_Rec_64 sh_0 rfl ?_
      refine wp_iload_n d_Rec_order_52 rfl rfl ?_
      refine wp_bipush d_Rec_order_53 (v := nI 30) rfl ?_
      refine wp_isub d_Rec_order_55 ?_
      obtain ⟨v11, e12, h⟩ := ob1_some h
      refine wl_callV1 d_Rec_order_56 lc_Layers_above lv_Rec_267 rfl sh_143 rfl rfl ⟨rfl, rfl⟩ ⟨by decide, by decide⟩ ?_
      refine s_Layers_above (d := d + 1) e12 ?_
      cases h
      exact wp_iret d_Rec_order_59 rfl rfl rfl hq
  · replace h := ip h h22
    refine wp_aload_n d_Rec_order_25 rfl rfl ?_
    refine wl_getR d_Rec_order_26 lf_Rec_64 sh_0 rfl ?_
    refine wp_iload_n d_Rec_order_29 rfl rfl ?_
    refine wp_bipush d_Rec_order_30 (v := nI 10) rfl ?_
    refine wp_isub d_Rec_order_32 ?_
    obtain ⟨v13, e14, h⟩ := ob1_some h
    refine wl_callV1 d_Rec_order_33 lc_Layers_earliest lv_Rec_264 rfl sh_143 rfl rfl ⟨rfl, rfl⟩ ⟨by decide, by decide⟩ ?_
    refine s_Layers_earliest (d := d) e14 ?_
    cases h
    exact wp_iret d_Rec_order_36 rfl rfl rfl hq
def F_Rec_sight (strips_ : Int32) (M : mM) : Option (Int32 × mM) :=
  ob2 (F_Rec_tell 44 1 8 strips_ (nI 0) (decide (strips_ = (-1))) (F_Rec_within strips_ (nI 0) (nI 4095)) M) fun v2 M3 =>
  some (v2, M3)
theorem s_Rec_sight {strips_ : Int32} {M : mM} {r : Int32} {M' : mM} (h : F_Rec_sight strips_ M = some (r, M')) (hq : Q (some (.int r)) (lay M')) : Sp X (d + 3) f_Rec_sight [.ref 0, .int strips_] (lay M) Q := by
  refine Sp_of (by decide) rfl (Nat.le_of_ble_eq_true rfl) ?_
  refine wp_aload_n d_Rec_sight_0 rfl rfl ?_
  refine wl_getR d_Rec_sight_1 lf_Rec_19 sh_0 rfl ?_
  refine wl_getR d_Rec_sight_4 lf_Rec_280 (shT0 isTd_28) rfl ?_
  refine wp_iload_n d_Rec_sight_7 rfl rfl ?_
  refine wp_iconst d_Rec_sight_8 (v := nI 0) rfl ?_
  have k1 : wp X (d + 3) f_Rec_sight (0, 0) 19 [.ref 0, .int strips_] [.int (bI (decide (strips_ = (-1)))), .int (nI 0), .int strips_, .ref 44] (lay M) Q := by
    refine wp_iload_n d_Rec_sight_19 rfl rfl ?_
    refine wp_iconst d_Rec_sight_20 (v := nI 0) rfl ?_
    refine wp_sipush d_Rec_sight_21 (v := nI 4095) rfl ?_
    refine wl_callS3 d_Rec_sight_24 lc_Rec_within ls_Rec_96 rfl ⟨rfl, rfl⟩ ⟨by decide, by decide⟩ ?_
    refine s_Rec_within (d := d + 2) rfl ?_
    obtain ⟨v2, M3, e4, h⟩ := ob2_some h
    refine wl_callS5 d_Rec_sight_27 lc_Rec_tell ls_Rec_233 rfl ⟨rfl, rfl⟩ ⟨by decide, by decide⟩ ?_
    refine s_Rec_tell (d := d) (isR_looks isTd_28) e4 ?_
    cases h
    exact wp_iret d_Rec_sight_30 rfl rfl rfl hq
  refine wp_iload_n d_Rec_sight_9 rfl rfl ?_
  refine wp_iconst d_Rec_sight_10 (v := (-1)) rfl ?_
  refine wq_icmp_ne 18 d_Rec_sight_11 rfl (fun h11 => ?_) (fun h11 => ?_)
  · refine wp_iconst d_Rec_sight_18 (v := nI 0) rfl ?_
    exact wj_f h11 (k1)
  · refine wp_iconst d_Rec_sight_14 (v := nI 1) rfl ?_
    refine wp_goto 19 d_Rec_sight_15 rfl ?_
    exact wj_t h11 (k1)
def L_Rows_unionOf_1 (z : Nat) (r0 : Nat) (wd : Nat) (mo : Nat) (set_ : Int32) (M : mM) : Nat → Int32 → Int32 → Option (Int32)
  | 0, _, _ => none
  | n + 1, all_, i_ =>
    if i_ < (M r0 3) then
    ob1 (if ((jshr set_ i_) &&& (nI 1)) = (nI 1) then
    ob1 (F_Rows_get r0 wd mo i_ (nI 0) M) fun v6 =>
    some (v6)
    else
    some (nI 0)) fun v4 =>
    L_Rows_unionOf_1 z r0 wd mo set_ M n (all_ ||| v4) (i_ + nI 1)
    else
    some (all_)
def F_Rows_unionOf (z : Nat) (r0 : Nat) (wd : Nat) (mo : Nat) (set_ : Int32) (M : mM) : Option (Int32) :=
  ob1 (L_Rows_unionOf_1 z r0 wd mo set_ M z (nI 0) (nI 0)) fun all_8 =>
  some (all_8)
theorem l_Rows_unionOf_1 {r0 : Nat} {wd : Nat} {mo : Nat} {set_ : Int32} {M : mM}  {all_r : Int32} (hr : isR r0 wd mo) (K : ∀ u3 : Value, wp X (d + 1) f_Rows_unionOf (0, 0) 40 [.ref r0, .int set_, .int all_r, u3] [] (lay M) Q) : ∀ (n : Nat) (all_ : Int32) (i_ : Int32), L_Rows_unionOf_1 z r0 wd mo set_ M n all_ i_ = some (all_r) → wp X (d + 1) f_Rows_unionOf (0, 0) 4 [.ref r0, .int set_, .int all_, .int i_] [] (lay M) Q := by
  intro n
  induction n with
  | zero => intro all_ i_ h; exact nn h
  | succ n ih =>
    intro all_ i_ h
    refine wp_iload_n d_Rows_unionOf_4 rfl rfl ?_
    refine wp_aload_n d_Rows_unionOf_5 rfl rfl ?_
    refine wl_getI d_Rows_unionOf_6 lf_Rows_7 (isR0 hr) rfl rfl ?_
    refine wq_icmp_ge 40 d_Rows_unionOf_9 rfl (fun h9 => ?_) (fun h9 => ?_)
    · replace h := inn h h9
      cases h
      exact K _
    · replace h := ip h h9
      refine wp_iload_n d_Rows_unionOf_12 rfl rfl ?_
      obtain ⟨v4, e5, h⟩ := ob1_some h
      have k3 : wp X (d + 1) f_Rows_unionOf (0, 0) 32 [.ref r0, .int set_, .int all_, .int i_] [.int v4, .int all_] (lay M) Q := by
        refine wp_ior d_Rows_unionOf_32 ?_
        refine wp_istore_n d_Rows_unionOf_33 rfl (by decide) ?_
        refine wp_iinc d_Rows_unionOf_34 (v := i_ + nI 1) rfl rfl ?_
        refine wp_goto 4 d_Rows_unionOf_37 rfl ?_
        exact ih _ _ h
      refine wp_iload_n d_Rows_unionOf_13 rfl rfl ?_
      refine wp_iload_n d_Rows_unionOf_14 rfl rfl ?_
      refine wp_ishr d_Rows_unionOf_15 ?_
      refine wp_iconst d_Rows_unionOf_16 (v := nI 1) rfl ?_
      refine wp_iand d_Rows_unionOf_17 ?_
      refine wp_iconst d_Rows_unionOf_18 (v := nI 1) rfl ?_
      refine wq_icmp_ne 31 d_Rows_unionOf_19 rfl (fun h19 => ?_) (fun h19 => ?_)
      · replace e5 := inn e5 h19
        refine wp_iconst d_Rows_unionOf_31 (v := nI 0) rfl ?_
        cases e5
        exact k3
      · replace e5 := ip e5 h19
        refine wp_aload_n d_Rows_unionOf_22 rfl rfl ?_
        refine wp_iload_n d_Rows_unionOf_23 rfl rfl ?_
        refine wp_iconst d_Rows_unionOf_24 (v := nI 0) rfl ?_
        obtain ⟨v6, e7, e5⟩ := ob1_some e5
        refine wl_callV2 d_Rows_unionOf_25 lc_Rows_get lv_Rows_31 rfl (isR0 hr) rfl rfl ⟨rfl, rfl⟩ ⟨by decide, by decide⟩ ?_
        refine s_Rows_get (d := d) hr e7 ?_
        cases e5
        refine wp_goto 32 d_Rows_unionOf_28 rfl ?_
        exact k3
theorem s_Rows_unionOf {r0 : Nat} {wd : Nat} {mo : Nat} {set_ : Int32} {M : mM} {r : Int32} (hr : isR r0 wd mo) (h : F_Rows_unionOf z r0 wd mo set_ M = some r) (hq : Q (some (.int r)) (lay M)) : Sp X (d + 1) f_Rows_unionOf [.ref r0, .int set_] (lay M) Q := by
  refine Sp_of (by decide) rfl (Nat.le_of_ble_eq_true rfl) ?_
  refine wp_iconst d_Rows_unionOf_0 (v := nI 0) rfl ?_
  refine wp_istore_n d_Rows_unionOf_1 rfl (by decide) ?_
  refine wp_iconst d_Rows_unionOf_2 (v := nI 0) rfl ?_
  refine wp_istore_n d_Rows_unionOf_3 rfl (by decide) ?_
  obtain ⟨all_8, e9, h⟩ := ob1_some h
  refine l_Rows_unionOf_1 hr ?_ _ _ _ e9
  intro u3
  refine wp_iload_n d_Rows_unionOf_40 rfl rfl ?_
  cases h
  exact wp_iret d_Rows_unionOf_41 rfl rfl rfl hq
def L_Rec_fewestLooks_1 (z : Nat) (all_ : Int32) (M : mM) : Nat → Int32 → Int32 → Int32 → Option (Int32 × Int32)
  | 0, _, _, _ => none
  | n + 1, fewest_, best_, set_ =>
    if set_ < (jshl (nI 1) (M 44 3)) then
    ob2 (ob1 (ob1 (ob1 (F_Integer_bitCount set_) fun v69 =>
    some (decide (v69 < fewest_))) fun x59 =>
    if x59 = true then ob1 (F_Rows_unionOf z 44 1 8 set_ M) fun v65 =>
    some (decide (v65 = all_))
    else some (false)) fun x39 =>
    if x39 = true then
    ob1 (F_Integer_bitCount set_) fun v55 =>
    some (v55, set_)
    else
    some (fewest_, best_)) fun fewest_36 best_37 =>
    L_Rec_fewestLooks_1 z all_ M n fewest_36 best_37 (set_ + nI 1)
    else
    some (fewest_, best_)
def F_Rec_fewestLooks (z : Nat) (what_ : Int32) (M : mM) : Option (Int32) :=
  ob1 (F_Rows_unionOf z 44 1 8 ((jshl (nI 1) (M 44 3)) - (nI 1)) M) fun v1 =>
  ob2 (L_Rec_fewestLooks_1 z v1 M z (nI 9) (nI 0) (nI 0)) fun fewest_71 best_72 =>
  some ((if what_ = (nI 0) then fewest_71 else best_72))
theorem l_Rec_fewestLooks_1 {all_ : Int32} {M : mM}  {q1 : Value} {fewest_r : Int32} {best_r : Int32} (K : ∀ u5 : Value, wp X (d + 2) f_Rec_fewestLooks (0, 0) 92 [.ref 0, q1, .int all_, .int fewest_r, .int best_r, u5] [] (lay M) Q) : ∀ (n : Nat) (fewest_ : Int32) (best_ : Int32) (set_ : Int32), L_Rec_fewestLooks_1 z all_ M n fewest_ best_ set_ = some (fewest_r, best_r) → wp X (d + 2) f_Rec_fewestLooks (0, 0) 34 [.ref 0, q1, .int all_, .int fewest_, .int best_, .int set_] [] (lay M) Q := by
  intro n
  induction n with
  | zero => intro fewest_ best_ set_ h; exact nn h
  | succ n ih =>
    intro fewest_ best_ set_ h
    refine wp_iload d_Rec_fewestLooks_34 rfl ?_
    refine wp_iconst d_Rec_fewestLooks_36 (v := nI 1) rfl ?_
    refine wp_aload_n d_Rec_fewestLooks_37 rfl rfl ?_
    refine wl_getR d_Rec_fewestLooks_38 lf_Rec_19 sh_0 rfl ?_
    refine wl_getR d_Rec_fewestLooks_41 lf_Rec_280 (shT0 isTd_28) rfl ?_
    refine wl_getI d_Rec_fewestLooks_44 lf_Rec_202 (isR0 (isR_looks isTd_28)) rfl rfl ?_
    refine wp_ishl d_Rec_fewestLooks_47 ?_
    refine wq_icmp_ge 92 d_Rec_fewestLooks_48 rfl (fun h48 => ?_) (fun h48 => ?_)
    · replace h := inn h h48
      cases h
      exact K _
    · replace h := ip h h48
      obtain ⟨fewest_36, best_37, e38, h⟩ := ob2_some h
      have k35 : wp X (d + 2) f_Rec_fewestLooks (0, 0) 86 [.ref 0, q1, .int all_, .int fewest_36, .int best_37, .int set_] [] (lay M) Q := by
        refine wp_iinc d_Rec_fewestLooks_86 (v := set_ + nI 1) rfl rfl ?_
        refine wp_goto 34 d_Rec_fewestLooks_89 rfl ?_
        exact ih _ _ _ h
      obtain ⟨x39, e40, e38⟩ := ob1_some e38
      have k53 : x39 = true → wp X (d + 2) f_Rec_fewestLooks (0, 0) 76 [.ref 0, q1, .int all_, .int fewest_, .int best_, .int set_] [] (lay M) Q := by
        intro x54
        replace e38 := ip e38 x54
        refine wp_iload d_Rec_fewestLooks_76 rfl ?_
        obtain ⟨v55, e56, e38⟩ := ob1_some e38
        refine wl_callS1 d_Rec_fewestLooks_78 lc_Integer_bitCount ls_Rec_289 rfl ⟨rfl, rfl⟩ ⟨by decide, by decide⟩ ?_
        refine s_Integer_bitCount (d := d + 1) e56 ?_
        refine wp_istore_n d_Rec_fewestLooks_81 rfl (by decide) ?_
        refine wp_iload d_Rec_fewestLooks_82 rfl ?_
        refine wp_istore d_Rec_fewestLooks_84 (by decide) ?_
        cases e38
        exact k35
      have k57 : ¬ x39 = true → wp X (d + 2) f_Rec_fewestLooks (0, 0) 86 [.ref 0, q1, .int all_, .int fewest_, .int best_, .int set_] [] (lay M) Q := by
        intro x58
        replace e38 := inn e38 x58
        cases e38
        exact k35
      obtain ⟨x59, e60, e40⟩ := ob1_some e40
      have k63 : x59 = true → wp X (d + 2) f_Rec_fewestLooks (0, 0) 60 [.ref 0, q1, .int all_, .int fewest_, .int best_, .int set_] [] (lay M) Q := by
        intro x64
        replace e40 := ip e40 x64
        refine wp_aload_n d_Rec_fewestLooks_60 rfl rfl ?_
        refine wl_getR d_Rec_fewestLooks_61 lf_Rec_19 sh_0 rfl ?_
        refine wl_getR d_Rec_fewestLooks_64 lf_Rec_280 (shT0 isTd_28) rfl ?_
        refine wp_iload d_Rec_fewestLooks_67 rfl ?_
        obtain ⟨v65, e66, e40⟩ := ob1_some e40
        refine wl_callV1 d_Rec_fewestLooks_69 lc_Rows_unionOf lv_Rec_286 rfl (isR0 (isR_looks isTd_28)) rfl rfl ⟨rfl, rfl⟩ ⟨by decide, by decide⟩ ?_
        refine s_Rows_unionOf (d := d) (isR_looks isTd_28) e66 ?_
        refine wp_iload_n d_Rec_fewestLooks_72 rfl rfl ?_
        refine wq_icmp_ne 86 d_Rec_fewestLooks_73 rfl (fun h73 => ?_) (fun h73 => ?_)
        · cases e40
          exact k57 (fun z => h73 (of_decide_eq_true z))
        · cases e40
          exact k53 (decide_eq_true h73)
      have k67 : ¬ x59 = true → wp X (d + 2) f_Rec_fewestLooks (0, 0) 86 [.ref 0, q1, .int all_, .int fewest_, .int best_, .int set_] [] (lay M) Q := by
        intro x68
        replace e40 := inn e40 x68
        cases e40
        exact k57 (fun z => Bool.noConfusion z)
      refine wp_iload d_Rec_fewestLooks_51 rfl ?_
      obtain ⟨v69, e70, e60⟩ := ob1_some e60
      refine wl_callS1 d_Rec_fewestLooks_53 lc_Integer_bitCount ls_Rec_289 rfl ⟨rfl, rfl⟩ ⟨by decide, by decide⟩ ?_
      refine s_Integer_bitCount (d := d + 1) e70 ?_
      refine wp_iload_n d_Rec_fewestLooks_56 rfl rfl ?_
      refine wq_icmp_ge 86 d_Rec_fewestLooks_57 rfl (fun h57 => ?_) (fun h57 => ?_)
      · cases e60
        exact k67 (fun z => h57 (of_decide_eq_true z))
      · cases e60
        exact k63 (decide_eq_true h57)
theorem s_Rec_fewestLooks {what_ : Int32} {M : mM} {r : Int32} (h : F_Rec_fewestLooks z what_ M = some r) (hq : Q (some (.int r)) (lay M)) : Sp X (d + 2) f_Rec_fewestLooks [.ref 0, .int what_] (lay M) Q := by
  refine Sp_of (by decide) rfl (Nat.le_of_ble_eq_true rfl) ?_
  refine wp_aload_n d_Rec_fewestLooks_0 rfl rfl ?_
  refine wl_getR d_Rec_fewestLooks_1 lf_Rec_19 sh_0 rfl ?_
  refine wl_getR d_Rec_fewestLooks_4 lf_Rec_280 (shT0 isTd_28) rfl ?_
  refine wp_iconst d_Rec_fewestLooks_7 (v := nI 1) rfl ?_
  refine wp_aload_n d_Rec_fewestLooks_8 rfl rfl ?_
  refine wl_getR d_Rec_fewestLooks_9 lf_Rec_19 sh_0 rfl ?_
  refine wl_getR d_Rec_fewestLooks_12 lf_Rec_280 (shT0 isTd_28) rfl ?_
  refine wl_getI d_Rec_fewestLooks_15 lf_Rec_202 (isR0 (isR_looks isTd_28)) rfl rfl ?_
  refine wp_ishl d_Rec_fewestLooks_18 ?_
  refine wp_iconst d_Rec_fewestLooks_19 (v := nI 1) rfl ?_
  refine wp_isub d_Rec_fewestLooks_20 ?_
  obtain ⟨v1, e2, h⟩ := ob1_some h
  refine wl_callV1 d_Rec_fewestLooks_21 lc_Rows_unionOf lv_Rec_286 rfl (isR0 (isR_looks isTd_28)) rfl rfl ⟨rfl, rfl⟩ ⟨by decide, by decide⟩ ?_
  refine s_Rows_unionOf (d := d) (isR_looks isTd_28) e2 ?_
  refine wp_istore_n d_Rec_fewestLooks_24 rfl (by decide) ?_
  refine wp_bipush d_Rec_fewestLooks_25 (v := nI 9) rfl ?_
  refine wp_istore_n d_Rec_fewestLooks_27 rfl (by decide) ?_
  refine wp_iconst d_Rec_fewestLooks_28 (v := nI 0) rfl ?_
  refine wp_istore d_Rec_fewestLooks_29 (by decide) ?_
  refine wp_iconst d_Rec_fewestLooks_31 (v := nI 0) rfl ?_
  refine wp_istore d_Rec_fewestLooks_32 (by decide) ?_
  obtain ⟨fewest_71, best_72, e74, h⟩ := ob2_some h
  refine l_Rec_fewestLooks_1 ?_ _ _ _ _ e74
  intro u5
  have k73 : ∀ u5 : Value, wp X (d + 2) f_Rec_fewestLooks (0, 0) 102 [.ref 0, .int what_, .int v1, .int fewest_71, .int best_72, u5] [.int (if what_ = (nI 0) then fewest_71 else best_72)] (lay M) Q := by
    intro u5
    cases h
    exact wp_iret d_Rec_fewestLooks_102 rfl rfl rfl hq
  refine wp_iload_n d_Rec_fewestLooks_92 rfl rfl ?_
  refine wz_ne 100 d_Rec_fewestLooks_93 rfl (fun h93 => ?_) (fun h93 => ?_)
  · refine wp_iload d_Rec_fewestLooks_100 rfl ?_
    exact wj_in h93 (k73 _)
  · refine wp_iload_n d_Rec_fewestLooks_96 rfl rfl ?_
    refine wp_goto 102 d_Rec_fewestLooks_97 rfl ?_
    exact wj_ip h93 (k73 _)
def F_Rec_cover (z : Nat) (what_ : Int32) (M : mM) : Option (Int32) :=
  ob1 (if (F_Rec_within what_ (nI 0) (nI 1)) = true then
  ob1 (F_Rec_fewestLooks z what_ M) fun v6 =>
  some (v6)
  else
  some ((-1))) fun v4 =>
  some (v4)
theorem s_Rec_cover {what_ : Int32} {M : mM} {r : Int32} (h : F_Rec_cover z what_ M = some r) (hq : Q (some (.int r)) (lay M)) : Sp X (d + 3) f_Rec_cover [.ref 0, .int what_] (lay M) Q := by
  refine Sp_of (by decide) rfl (Nat.le_of_ble_eq_true rfl) ?_
  obtain ⟨v4, e5, h⟩ := ob1_some h
  have k3 : wp X (d + 3) f_Rec_cover (0, 0) 18 [.ref 0, .int what_] [.int v4] (lay M) Q := by
    cases h
    exact wp_iret d_Rec_cover_18 rfl rfl rfl hq
  refine wp_iload_n d_Rec_cover_0 rfl rfl ?_
  refine wp_iconst d_Rec_cover_1 (v := nI 0) rfl ?_
  refine wp_iconst d_Rec_cover_2 (v := nI 1) rfl ?_
  refine wl_callS3 d_Rec_cover_3 lc_Rec_within ls_Rec_96 rfl ⟨rfl, rfl⟩ ⟨by decide, by decide⟩ ?_
  refine s_Rec_within (d := d + 2) rfl ?_
  refine wc_eq 17 d_Rec_cover_6 rfl (fun h6 => ?_) (fun h6 => ?_)
  · replace e5 := inn e5 h6
    refine wp_iconst d_Rec_cover_17 (v := (-1)) rfl ?_
    cases e5
    exact k3
  · replace e5 := ip e5 h6
    refine wp_aload_n d_Rec_cover_9 rfl rfl ?_
    refine wp_iload_n d_Rec_cover_10 rfl rfl ?_
    obtain ⟨v6, e7, e5⟩ := ob1_some e5
    refine wl_callV1 d_Rec_cover_11 lc_Rec_fewestLooks lv_Rec_283 rfl sh_0 rfl rfl ⟨rfl, rfl⟩ ⟨by decide, by decide⟩ ?_
    refine s_Rec_fewestLooks (d := d) e7 ?_
    cases e5
    refine wp_goto 18 d_Rec_cover_14 rfl ?_
    exact k3
def F_Rec_vein (wing_ : Int32) (from_ : Int32) (to_ : Int32) (M : mM) : Option (Int32 × mM) :=
  if ¬ ((F_Rec_within wing_ (nI 0) (nI 1)) = true) then
  some ((-1), M)
  else
  ob1 (some (decide ((((F_Rec_within from_ (nI 0) (nI 7)) = true ∧ (F_Rec_within to_ (nI 0) (nI 7)) = true) ∧ ¬ (from_ = to_))))) fun x2 =>
  ob2 (F_Rec_tell (if wing_ = (nI 0) then 46 else 48) 2 9 from_ to_ (decide (from_ = (-1))) x2 M) fun v6 M7 =>
  some (v6, M7)
theorem s_Rec_vein {wing_ : Int32} {from_ : Int32} {to_ : Int32} {M : mM} {r : Int32} {M' : mM} (h : F_Rec_vein wing_ from_ to_ M = some (r, M')) (hq : Q (some (.int r)) (lay M')) : Sp X (d + 3) f_Rec_vein [.ref 0, .int wing_, .int from_, .int to_] (lay M) Q := by
  refine Sp_of (by decide) rfl (Nat.le_of_ble_eq_true rfl) ?_
  refine wp_iload_n d_Rec_vein_0 rfl rfl ?_
  refine wp_iconst d_Rec_vein_1 (v := nI 0) rfl ?_
  refine wp_iconst d_Rec_vein_2 (v := nI 1) rfl ?_
  refine wl_callS3 d_Rec_vein_3 lc_Rec_within ls_Rec_96 rfl ⟨rfl, rfl⟩ ⟨by decide, by decide⟩ ?_
  refine s_Rec_within (d := d + 2) rfl ?_
  refine wc_ne 11 d_Rec_vein_6 rfl (fun h6 => ?_) (fun h6 => ?_)
  · replace h := inn h (fun z => z h6)
    have k1 : ∀ u4 : Value, wp X (d + 3) f_Rec_vein (0, 0) 41 [.ref 0, .int wing_, .int from_, .int to_, u4] [.int (bI (decide ((((F_Rec_within from_ (nI 0) (nI 7)) = true ∧ (F_Rec_within to_ (nI 0) (nI 7)) = true) ∧ ¬ (from_ = to_)))))] (lay M) Q := by
      intro u4
      obtain ⟨x2, e3, h⟩ := ob1_some h
      refine wx_bool e3 ?_
      refine wp_istore d_Rec_vein_41 (by decide) ?_
      have k4 : wp X (d + 3) f_Rec_vein (0, 0) 64 [.ref 0, .int wing_, .int from_, .int to_, .int (bI x2)] [.ref (if wing_ = (nI 0) then 46 else 48)] (lay M) Q := by
        refine wp_iload_n d_Rec_vein_64 rfl rfl ?_
        refine wp_iload_n d_Rec_vein_65 rfl rfl ?_
        have k5 : wp X (d + 3) f_Rec_vein (0, 0) 76 [.ref 0, .int wing_, .int from_, .int to_, .int (bI x2)] [.int (bI (decide (from_ = (-1)))), .int to_, .int from_, .ref (if wing_ = (nI 0) then 46 else 48)] (lay M) Q := by
          refine wp_iload d_Rec_vein_76 rfl ?_
          obtain ⟨v6, M7, e8, h⟩ := ob2_some h
          refine wl_callS5 d_Rec_vein_78 lc_Rec_tell ls_Rec_233 rfl ⟨rfl, rfl⟩ ⟨by decide, by decide⟩ ?_
          refine s_Rec_tell (d := d) (isR_ite (isR_veins isTd_28) (isR_otherVeins isTd_28)) e8 ?_
          cases h
          exact wp_iret d_Rec_vein_81 rfl rfl rfl hq
        refine wp_iload_n d_Rec_vein_66 rfl rfl ?_
        refine wp_iconst d_Rec_vein_67 (v := (-1)) rfl ?_
        refine wq_icmp_ne 75 d_Rec_vein_68 rfl (fun h68 => ?_) (fun h68 => ?_)
        · refine wp_iconst d_Rec_vein_75 (v := nI 0) rfl ?_
          exact wj_f h68 (k5)
        · refine wp_iconst d_Rec_vein_71 (v := nI 1) rfl ?_
          refine wp_goto 76 d_Rec_vein_72 rfl ?_
          exact wj_t h68 (k5)
      refine wp_iload_n d_Rec_vein_43 rfl rfl ?_
      refine wz_ne 57 d_Rec_vein_44 rfl (fun h44 => ?_) (fun h44 => ?_)
      · refine wp_aload_n d_Rec_vein_57 rfl rfl ?_
        refine wl_getR d_Rec_vein_58 lf_Rec_19 sh_0 rfl ?_
        refine wl_getR d_Rec_vein_61 lf_Rec_297 (shT0 isTd_28) rfl ?_
        exact wj_inr h44 (k4)
      · refine wp_aload_n d_Rec_vein_47 rfl rfl ?_
        refine wl_getR d_Rec_vein_48 lf_Rec_19 sh_0 rfl ?_
        refine wl_getR d_Rec_vein_51 lf_Rec_294 (shT0 isTd_28) rfl ?_
        refine wp_goto 64 d_Rec_vein_54 rfl ?_
        exact wj_ipr h44 (k4)
    refine wp_iload_n d_Rec_vein_11 rfl rfl ?_
    refine wp_iconst d_Rec_vein_12 (v := nI 0) rfl ?_
    refine wp_bipush d_Rec_vein_13 (v := nI 7) rfl ?_
    refine wl_callS3 d_Rec_vein_15 lc_Rec_within ls_Rec_96 rfl ⟨rfl, rfl⟩ ⟨by decide, by decide⟩ ?_
    refine s_Rec_within (d := d + 2) rfl ?_
    refine wc_eq 40 d_Rec_vein_18 rfl (fun h18 => ?_) (fun h18 => ?_)
    · refine wp_iconst d_Rec_vein_40 (v := nI 0) rfl ?_
      exact wj_f (fun z => (fun z => h18 z.1) z.1) (k1 _)
    · refine wp_iload_n d_Rec_vein_21 rfl rfl ?_
      refine wp_iconst d_Rec_vein_22 (v := nI 0) rfl ?_
      refine wp_bipush d_Rec_vein_23 (v := nI 7) rfl ?_
      refine wl_callS3 d_Rec_vein_25 lc_Rec_within ls_Rec_96 rfl ⟨rfl, rfl⟩ ⟨by decide, by decide⟩ ?_
      refine s_Rec_within (d := d + 2) rfl ?_
      refine wc_eq 40 d_Rec_vein_28 rfl (fun h28 => ?_) (fun h28 => ?_)
      · refine wp_iconst d_Rec_vein_40 (v := nI 0) rfl ?_
        exact wj_f (fun z => (fun z => h28 z.2) z.1) (k1 _)
      · refine wp_iload_n d_Rec_vein_31 rfl rfl ?_
        refine wp_iload_n d_Rec_vein_32 rfl rfl ?_
        refine wq_icmp_eq 40 d_Rec_vein_33 rfl (fun h33 => ?_) (fun h33 => ?_)
        · refine wp_iconst d_Rec_vein_40 (v := nI 0) rfl ?_
          exact wj_f (fun z => (fun z => z h33) z.2) (k1 _)
        · refine wp_iconst d_Rec_vein_36 (v := nI 1) rfl ?_
          refine wp_goto 41 d_Rec_vein_37 rfl ?_
          exact wj_t ⟨⟨h18, h28⟩, h33⟩ (k1 _)
  · replace h := ip h h6
    refine wp_iconst d_Rec_vein_9 (v := (-1)) rfl ?_
    cases h
    exact wp_iret d_Rec_vein_10 rfl rfl rfl hq
def L_Wings_bare_1 (z : Nat) (c_joined : Nat) (n_joined : Nat) (setXn_ : Int32) (M : mM) : Nat → Int32 → Int32 → Option (Int32)
  | 0, _, _ => none
  | n + 1, many_, setXi_ =>
    if setXi_ < setXn_ then
    ob1 (ra M c_joined n_joined setXi_) fun v2 =>
    ob1 (some (many_ + (if v2 = (nI 0) then nI 1 else nI 0))) fun v4 =>
    L_Wings_bare_1 z c_joined n_joined setXn_ M n v4 (setXi_ + nI 1)
    else
    some (many_)
def F_Wings_bare (z : Nat) (c_joined : Nat) (n_joined : Nat) (M : mM) : Option (Int32) :=
  ob1 (L_Wings_bare_1 z c_joined n_joined (nI n_joined) M z (nI 0) (nI 0)) fun many_6 =>
  some (many_6)
theorem l_Wings_bare_1 {c_joined : Nat} {n_joined : Nat} {setXn_ : Int32} {M : mM}  {many_r : Int32} (hs_joined : SH[c_joined]? = some (0, n_joined, [])) (K : ∀ u4 u5 : Value, wp X d f_Wings_bare (0, 0) 41 [.ref c_joined, .int many_r, .ref c_joined, .int setXn_, u4, u5] [] (lay M) Q) : ∀ (n : Nat) (many_ : Int32) (setXi_ : Int32) (u5 : Value), L_Wings_bare_1 z c_joined n_joined setXn_ M n many_ setXi_ = some (many_r) → wp X d f_Wings_bare (0, 0) 10 [.ref c_joined, .int many_, .ref c_joined, .int setXn_, .int setXi_, u5] [] (lay M) Q := by
  intro n
  induction n with
  | zero => intro many_ setXi_ u5 h; exact nn h
  | succ n ih =>
    intro many_ setXi_ u5 h
    refine wp_iload d_Wings_bare_10 rfl ?_
    refine wp_iload_n d_Wings_bare_12 rfl rfl ?_
    refine wq_icmp_ge 41 d_Wings_bare_13 rfl (fun h13 => ?_) (fun h13 => ?_)
    · replace h := inn h h13
      cases h
      exact K _ _
    · replace h := ip h h13
      refine wp_aload_n d_Wings_bare_16 rfl rfl ?_
      refine wp_iload d_Wings_bare_17 rfl ?_
      obtain ⟨v2, e1, h⟩ := ob1_some h
      refine wa_ald d_Wings_bare_19 hs_joined e1 ?_
      refine wp_istore d_Wings_bare_20 (by decide) ?_
      refine wp_iload_n d_Wings_bare_22 rfl rfl ?_
      have k3 : wp X d f_Wings_bare (0, 0) 33 [.ref c_joined, .int many_, .ref c_joined, .int setXn_, .int setXi_, .int v2] [.int (if v2 = (nI 0) then nI 1 else nI 0), .int many_] (lay M) Q := by
        refine wp_iadd d_Wings_bare_33 ?_
        obtain ⟨v4, e5, h⟩ := ob1_some h
        refine wx_int e5 ?_
        refine wp_istore_n d_Wings_bare_34 rfl (by decide) ?_
        refine wp_iinc d_Wings_bare_35 (v := setXi_ + nI 1) rfl rfl ?_
        refine wp_goto 10 d_Wings_bare_38 rfl ?_
        exact ih _ _ _ h
      refine wp_iload d_Wings_bare_23 rfl ?_
      refine wz_ne 32 d_Wings_bare_25 rfl (fun h25 => ?_) (fun h25 => ?_)
      · refine wp_iconst d_Wings_bare_32 (v := nI 0) rfl ?_
        exact wj_in h25 (k3)
      · refine wp_iconst d_Wings_bare_28 (v := nI 1) rfl ?_
        refine wp_goto 33 d_Wings_bare_29 rfl ?_
        exact wj_ip h25 (k3)
theorem s_Wings_bare {c_joined : Nat} {n_joined : Nat} {M : mM} {r : Int32} (hs_joined : SH[c_joined]? = some (0, n_joined, [])) (h : F_Wings_bare z c_joined n_joined M = some r) (hq : Q (some (.int r)) (lay M)) : Sp X d f_Wings_bare [.ref c_joined] (lay M) Q := by
  refine Sp_of (by decide) rfl (Nat.le_of_ble_eq_true rfl) ?_
  refine wp_iconst d_Wings_bare_0 (v := nI 0) rfl ?_
  refine wp_istore_n d_Wings_bare_1 rfl (by decide) ?_
  refine wp_aload_n d_Wings_bare_2 rfl rfl ?_
  refine wp_astore_n d_Wings_bare_3 rfl (by decide) ?_
  refine wp_aload_n d_Wings_bare_4 rfl rfl ?_
  refine wl_alen (by decide) d_Wings_bare_5 hs_joined ?_
  refine wp_istore_n d_Wings_bare_6 rfl (by decide) ?_
  refine wp_iconst d_Wings_bare_7 (v := nI 0) rfl ?_
  refine wp_istore d_Wings_bare_8 (by decide) ?_
  obtain ⟨many_6, e7, h⟩ := ob1_some h
  refine l_Wings_bare_1 hs_joined ?_ _ _ _ _ e7
  intro u4 u5
  refine wp_iload_n d_Wings_bare_41 rfl rfl ?_
  cases h
  exact wp_iret d_Wings_bare_42 rfl rfl rfl hq
def L_Wings_learn_1 (z : Nat) (r_veins : Nat) (wd_veins : Nat) (mo_veins : Nat) (c_joined : Nat) (n_joined : Nat) : Nat → Int32 → mM → Option (mM)
  | 0, _, _ => none
  | n + 1, i_, M =>
    if i_ < (M r_veins 3) then
    ob1 (F_Rows_get r_veins wd_veins mo_veins i_ (nI 0) M) fun v3 =>
    ob1 (F_Rows_get r_veins wd_veins mo_veins i_ (nI 1) M) fun v5 =>
    ob1 (if (((¬ (v3 < (nI 0)) ∧ v3 < (nI 8)) ∧ ¬ (v5 < (nI 0))) ∧ v5 < (nI 8)) then
    ob1 (ra M c_joined n_joined v3) fun v23 =>
    ob1 (wa M c_joined n_joined v3 (v23 ||| (jshl (nI 1) v5))) fun M25 =>
    ob1 (ra M25 c_joined n_joined v5) fun v27 =>
    ob1 (wa M25 c_joined n_joined v5 (v27 ||| (jshl (nI 1) v3))) fun M29 =>
    some (M29)
    else
    some (M)) fun M18 =>
    L_Wings_learn_1 z r_veins wd_veins mo_veins c_joined n_joined n (i_ + nI 1) M18
    else
    some (M)
def F_Wings_learn (z : Nat) (r_veins : Nat) (wd_veins : Nat) (mo_veins : Nat) (c_joined : Nat) (n_joined : Nat) (M : mM) : Option mM :=
  ob1 (F_Arrays_fill z c_joined n_joined (nI 0) M) fun M1 =>
  ob1 (L_Wings_learn_1 z r_veins wd_veins mo_veins c_joined n_joined z (nI 0) M1) fun M30 =>
  some M30
theorem l_Wings_learn_1 {r_veins : Nat} {wd_veins : Nat} {mo_veins : Nat} {c_joined : Nat} {n_joined : Nat}  {N' : mM} (hr_veins : isR r_veins wd_veins mo_veins) (hs_joined : SH[c_joined]? = some (0, n_joined, [])) (K : ∀ u2 u3 u4 : Value, wp X (d + 1) f_Wings_learn (0, 0) 78 [.ref r_veins, .ref c_joined, u2, u3, u4] [] (lay N') Q) : ∀ (n : Nat) (i_ : Int32) (M : mM) (u3 u4 : Value), L_Wings_learn_1 z r_veins wd_veins mo_veins c_joined n_joined n i_ M = some (N') → wp X (d + 1) f_Wings_learn (0, 0) 7 [.ref r_veins, .ref c_joined, .int i_, u3, u4] [] (lay M) Q := by
  intro n
  induction n with
  | zero => intro i_ M u3 u4 h; exact nn h
  | succ n ih =>
    intro i_ M u3 u4 h
    refine wp_iload_n d_Wings_learn_7 rfl rfl ?_
    refine wp_aload_n d_Wings_learn_8 rfl rfl ?_
    refine wl_getI d_Wings_learn_9 lf_Wings_39 (isR0 hr_veins) rfl rfl ?_
    refine wq_icmp_ge 78 d_Wings_learn_12 rfl (fun h12 => ?_) (fun h12 => ?_)
    · replace h := inn h h12
      cases h
      exact K _ _ _
    · replace h := ip h h12
      refine wp_aload_n d_Wings_learn_15 rfl rfl ?_
      refine wp_iload_n d_Wings_learn_16 rfl rfl ?_
      refine wp_iconst d_Wings_learn_17 (v := nI 0) rfl ?_
      obtain ⟨v3, e4, h⟩ := ob1_some h
      refine wl_callV2 d_Wings_learn_18 lc_Rows_get lv_Wings_45 rfl (isR0 hr_veins) rfl rfl ⟨rfl, rfl⟩ ⟨by decide, by decide⟩ ?_
      refine s_Rows_get (d := d) hr_veins e4 ?_
      refine wp_istore_n d_Wings_learn_21 rfl (by decide) ?_
      refine wp_aload_n d_Wings_learn_22 rfl rfl ?_
      refine wp_iload_n d_Wings_learn_23 rfl rfl ?_
      refine wp_iconst d_Wings_learn_24 (v := nI 1) rfl ?_
      obtain ⟨v5, e6, h⟩ := ob1_some h
      refine wl_callV2 d_Wings_learn_25 lc_Rows_get lv_Wings_45 rfl (isR0 hr_veins) rfl rfl ⟨rfl, rfl⟩ ⟨by decide, by decide⟩ ?_
      refine s_Rows_get (d := d) hr_veins e6 ?_
      refine wp_istore d_Wings_learn_28 (by decide) ?_
      obtain ⟨M18, e19, h⟩ := ob1_some h
      have k17 : wp X (d + 1) f_Wings_learn (0, 0) 72 [.ref r_veins, .ref c_joined, .int i_, .int v3, .int v5] [] (lay M18) Q := by
        refine wp_iinc d_Wings_learn_72 (v := i_ + nI 1) rfl rfl ?_
        refine wp_goto 7 d_Wings_learn_75 rfl ?_
        exact ih _ _ _ _ h
      have k20 : ¬ (((¬ (v3 < (nI 0)) ∧ v3 < (nI 8)) ∧ ¬ (v5 < (nI 0))) ∧ v5 < (nI 8)) → wp X (d + 1) f_Wings_learn (0, 0) 72 [.ref r_veins, .ref c_joined, .int i_, .int v3, .int v5] [] (lay M) Q := by
        intro x21
        replace e19 := inn e19 x21
        cases e19
        exact k17
      refine wp_iload_n d_Wings_learn_30 rfl rfl ?_
      refine wz_lt 72 d_Wings_learn_31 rfl (fun h31 => ?_) (fun h31 => ?_)
      · exact k20 (fun z => (fun z => (fun z => (fun z => z h31) z.1) z.1) z.1)
      · refine wp_iload_n d_Wings_learn_34 rfl rfl ?_
        refine wp_bipush d_Wings_learn_35 (v := nI 8) rfl ?_
        refine wq_icmp_ge 72 d_Wings_learn_37 rfl (fun h37 => ?_) (fun h37 => ?_)
        · exact k20 (fun z => (fun z => (fun z => h37 z.2) z.1) z.1)
        · refine wp_iload d_Wings_learn_40 rfl ?_
          refine wz_lt 72 d_Wings_learn_42 rfl (fun h42 => ?_) (fun h42 => ?_)
          · exact k20 (fun z => (fun z => (fun z => z h42) z.2) z.1)
          · refine wp_iload d_Wings_learn_45 rfl ?_
            refine wp_bipush d_Wings_learn_47 (v := nI 8) rfl ?_
            refine wq_icmp_ge 72 d_Wings_learn_49 rfl (fun h49 => ?_) (fun h49 => ?_)
            · exact k20 (fun z => h49 z.2)
            · replace e19 := ip e19 ⟨⟨⟨h31, h37⟩, h42⟩, h49⟩
              refine wp_aload_n d_Wings_learn_52 rfl rfl ?_
              refine wp_iload_n d_Wings_learn_53 rfl rfl ?_
              refine wp_dup2 d_Wings_learn_54 rfl rfl ?_
              obtain ⟨v23, e22, e19⟩ := ob1_some e19
              refine wa_ald d_Wings_learn_55 hs_joined e22 ?_
              refine wp_iconst d_Wings_learn_56 (v := nI 1) rfl ?_
              refine wp_iload d_Wings_learn_57 rfl ?_
              refine wp_ishl d_Wings_learn_59 ?_
              refine wp_ior d_Wings_learn_60 ?_
              obtain ⟨M25, e24, e19⟩ := ob1_some e19
              refine wa_ast d_Wings_learn_61 hs_joined e24 ?_
              refine wp_aload_n d_Wings_learn_62 rfl rfl ?_
              refine wp_iload d_Wings_learn_63 rfl ?_
              refine wp_dup2 d_Wings_learn_65 rfl rfl ?_
              obtain ⟨v27, e26, e19⟩ := ob1_some e19
              refine wa_ald d_Wings_learn_66 hs_joined e26 ?_
              refine wp_iconst d_Wings_learn_67 (v := nI 1) rfl ?_
              refine wp_iload_n d_Wings_learn_68 rfl rfl ?_
              refine wp_ishl d_Wings_learn_69 ?_
              refine wp_ior d_Wings_learn_70 ?_
              obtain ⟨M29, e28, e19⟩ := ob1_some e19
              refine wa_ast d_Wings_learn_71 hs_joined e28 ?_
              cases e19
              exact k17
theorem s_Wings_learn {r_veins : Nat} {wd_veins : Nat} {mo_veins : Nat} {c_joined : Nat} {n_joined : Nat} {M : mM} {M' : mM} (hr_veins : isR r_veins wd_veins mo_veins) (hs_joined : SH[c_joined]? = some (0, n_joined, [])) (h : F_Wings_learn z r_veins wd_veins mo_veins c_joined n_joined M = some M') (hq : Q none (lay M')) : Sp X (d + 1) f_Wings_learn [.ref r_veins, .ref c_joined] (lay M) Q := by
  refine Sp_of (by decide) rfl (Nat.le_of_ble_eq_true rfl) ?_
  refine wp_aload_n d_Wings_learn_0 rfl rfl ?_
  refine wp_iconst d_Wings_learn_1 (v := nI 0) rfl ?_
  obtain ⟨M1, e2, h⟩ := ob1_some h
  refine wl_callS2 d_Wings_learn_2 lc_Arrays_fill ls_Wings_33 rfl ⟨rfl, rfl⟩ ⟨by decide, by decide⟩ ?_
  refine s_Arrays_fill (d := d) hs_joined e2 ?_
  refine wp_iconst d_Wings_learn_5 (v := nI 0) rfl ?_
  refine wp_istore_n d_Wings_learn_6 rfl (by decide) ?_
  obtain ⟨M30, e31, h⟩ := ob1_some h
  refine l_Wings_learn_1 hr_veins hs_joined ?_ _ _ _ _ _ e31
  intro u2 u3 u4
  cases h
  exact wp_ret d_Wings_learn_78 rfl rfl hq
def L_Wings_fits_1 (z : Nat) (c_here : Nat) (n_here : Nat) (c_there : Nat) (n_there : Nat) (c_became : Nat) (n_became : Nat) (point_ : Int32) (to_ : Int32) (M : mM) (kt : Option (Bool)) : Nat → Int32 → Option (Bool)
  | 0, _ => none
  | n + 1, p_ =>
    if p_ < point_ then
    ob1 (ob1 (ob1 (ra M c_here n_here p_) fun v52 =>
    some (decide (¬ (v52 = (nI 0))))) fun x37 =>
    if x37 = true then ob1 (ra M c_here n_here point_) fun v44 =>
    ob1 (ra M c_there n_there to_) fun v46 =>
    ob1 (ra M c_became n_became p_) fun v48 =>
    some (decide (¬ (((jshr v44 p_) &&& (nI 1)) = ((jshr v46 v48) &&& (nI 1)))))
    else some (false)) fun x15 =>
    if x15 = true then
    some (false)
    else
    L_Wings_fits_1 z c_here n_here c_there n_there c_became n_became point_ to_ M kt n (p_ + nI 1)
    else
    kt 
def F_Wings_fits (z : Nat) (c_here : Nat) (n_here : Nat) (c_there : Nat) (n_there : Nat) (c_became : Nat) (n_became : Nat) (point_ : Int32) (to_ : Int32) (M : mM) : Option (Bool) :=
  ob1 (ob1 (ra M c_here n_here point_) fun v54 =>
  ob1 (F_Integer_bitCount v54) fun v55 =>
  ob1 (ra M c_there n_there to_) fun v58 =>
  ob1 (F_Integer_bitCount v58) fun v59 =>
  some (decide (¬ (v55 = v59)))) fun x1 =>
  if x1 = true then
  some (false)
  else
  L_Wings_fits_1 z c_here n_here c_there n_there c_became n_became point_ to_ M (some (true)) z (nI 0)
theorem l_Wings_fits_1 {c_here : Nat} {n_here : Nat} {c_there : Nat} {n_there : Nat} {c_became : Nat} {n_became : Nat} {point_ : Int32} {to_ : Int32} {M : mM} {kt : Option (Bool)}  {r : Bool} (hs_here : SH[c_here]? = some (0, n_here, [])) (hs_there : SH[c_there]? = some (0, n_there, [])) (hs_became : SH[c_became]? = some (0, n_became, [])) (hq : Q (some (.int (bI r))) (lay M)) (K : ∀  (u5 : Value), kt  = some r → wp X (d + 1) f_Wings_fits (0, 0) 64 [.ref c_here, .ref c_there, .ref c_became, .int point_, .int to_, u5] [] (lay M) Q) : ∀ (n : Nat) (p_ : Int32), L_Wings_fits_1 z c_here n_here c_there n_there c_became n_became point_ to_ M kt n p_ = some r → wp X (d + 1) f_Wings_fits (0, 0) 21 [.ref c_here, .ref c_there, .ref c_became, .int point_, .int to_, .int p_] [] (lay M) Q := by
  intro n
  induction n with
  | zero => intro p_ h; exact nn h
  | succ n ih =>
    intro p_ h
    refine wp_iload d_Wings_fits_21 rfl ?_
    refine wp_iload_n d_Wings_fits_23 rfl rfl ?_
    refine wq_icmp_ge 64 d_Wings_fits_24 rfl (fun h24 => ?_) (fun h24 => ?_)
    · replace h := inn h h24
      exact K _ h
    · replace h := ip h h24
      obtain ⟨x15, e16, h⟩ := ob1_some h
      have k33 : x15 = true → wp X (d + 1) f_Wings_fits (0, 0) 56 [.ref c_here, .ref c_there, .ref c_became, .int point_, .int to_, .int p_] [] (lay M) Q := by
        intro x34
        replace h := ip h x34
        refine wp_iconst d_Wings_fits_56 (v := bI false) rfl ?_
        cases h
        exact wb_iret d_Wings_fits_57 rfl rfl hq
      have k35 : ¬ x15 = true → wp X (d + 1) f_Wings_fits (0, 0) 58 [.ref c_here, .ref c_there, .ref c_became, .int point_, .int to_, .int p_] [] (lay M) Q := by
        intro x36
        replace h := inn h x36
        refine wp_iinc d_Wings_fits_58 (v := p_ + nI 1) rfl rfl ?_
        refine wp_goto 21 d_Wings_fits_61 rfl ?_
        exact ih _ h
      obtain ⟨x37, e38, e16⟩ := ob1_some e16
      have k41 : x37 = true → wp X (d + 1) f_Wings_fits (0, 0) 34 [.ref c_here, .ref c_there, .ref c_became, .int point_, .int to_, .int p_] [] (lay M) Q := by
        intro x42
        replace e16 := ip e16 x42
        refine wp_aload_n d_Wings_fits_34 rfl rfl ?_
        refine wp_iload_n d_Wings_fits_35 rfl rfl ?_
        obtain ⟨v44, e43, e16⟩ := ob1_some e16
        refine wa_ald d_Wings_fits_36 hs_here e43 ?_
        refine wp_iload d_Wings_fits_37 rfl ?_
        refine wp_ishr d_Wings_fits_39 ?_
        refine wp_iconst d_Wings_fits_40 (v := nI 1) rfl ?_
        refine wp_iand d_Wings_fits_41 ?_
        refine wp_aload_n d_Wings_fits_42 rfl rfl ?_
        refine wp_iload d_Wings_fits_43 rfl ?_
        obtain ⟨v46, e45, e16⟩ := ob1_some e16
        refine wa_ald d_Wings_fits_45 hs_there e45 ?_
        refine wp_aload_n d_Wings_fits_46 rfl rfl ?_
        refine wp_iload d_Wings_fits_47 rfl ?_
        obtain ⟨v48, e47, e16⟩ := ob1_some e16
        refine wa_ald d_Wings_fits_49 hs_became e47 ?_
        refine wp_ishr d_Wings_fits_50 ?_
        refine wp_iconst d_Wings_fits_51 (v := nI 1) rfl ?_
        refine wp_iand d_Wings_fits_52 ?_
        refine wq_icmp_eq 58 d_Wings_fits_53 rfl (fun h53 => ?_) (fun h53 => ?_)
        · cases e16
          exact k35 (fun z => (fun z => z h53) (of_decide_eq_true z))
        · cases e16
          exact k33 (decide_eq_true h53)
      have k49 : ¬ x37 = true → wp X (d + 1) f_Wings_fits (0, 0) 58 [.ref c_here, .ref c_there, .ref c_became, .int point_, .int to_, .int p_] [] (lay M) Q := by
        intro x50
        replace e16 := inn e16 x50
        cases e16
        exact k35 (fun z => Bool.noConfusion z)
      refine wp_aload_n d_Wings_fits_27 rfl rfl ?_
      refine wp_iload d_Wings_fits_28 rfl ?_
      obtain ⟨v52, e51, e38⟩ := ob1_some e38
      refine wa_ald d_Wings_fits_30 hs_here e51 ?_
      refine wz_eq 58 d_Wings_fits_31 rfl (fun h31 => ?_) (fun h31 => ?_)
      · cases e38
        exact k49 (fun z => (fun z => z h31) (of_decide_eq_true z))
      · cases e38
        exact k41 (decide_eq_true h31)
theorem s_Wings_fits {c_here : Nat} {n_here : Nat} {c_there : Nat} {n_there : Nat} {c_became : Nat} {n_became : Nat} {point_ : Int32} {to_ : Int32} {M : mM} {r : Bool} (hs_here : SH[c_here]? = some (0, n_here, [])) (hs_there : SH[c_there]? = some (0, n_there, [])) (hs_became : SH[c_became]? = some (0, n_became, [])) (h : F_Wings_fits z c_here n_here c_there n_there c_became n_became point_ to_ M = some r) (hq : Q (some (.int (bI r))) (lay M)) : Sp X (d + 1) f_Wings_fits [.ref c_here, .ref c_there, .ref c_became, .int point_, .int to_] (lay M) Q := by
  refine Sp_of (by decide) rfl (Nat.le_of_ble_eq_true rfl) ?_
  obtain ⟨x1, e2, h⟩ := ob1_some h
  have k11 : ∀ u5 : Value, x1 = true → wp X (d + 1) f_Wings_fits (0, 0) 16 [.ref c_here, .ref c_there, .ref c_became, .int point_, .int to_, u5] [] (lay M) Q := by
    intro u5 x12
    replace h := ip h x12
    refine wp_iconst d_Wings_fits_16 (v := bI false) rfl ?_
    cases h
    exact wb_iret d_Wings_fits_17 rfl rfl hq
  have k13 : ∀ u5 : Value, ¬ x1 = true → wp X (d + 1) f_Wings_fits (0, 0) 18 [.ref c_here, .ref c_there, .ref c_became, .int point_, .int to_, u5] [] (lay M) Q := by
    intro u5 x14
    replace h := inn h x14
    refine wp_iconst d_Wings_fits_18 (v := nI 0) rfl ?_
    refine wp_istore d_Wings_fits_19 (by decide) ?_
    refine l_Wings_fits_1 hs_here hs_there hs_became hq ?_ _ _ h
    intro u5 h
    refine wp_iconst d_Wings_fits_64 (v := bI true) rfl ?_
    cases h
    exact wb_iret d_Wings_fits_65 rfl rfl hq
  refine wp_aload_n d_Wings_fits_0 rfl rfl ?_
  refine wp_iload_n d_Wings_fits_1 rfl rfl ?_
  obtain ⟨v54, e53, e2⟩ := ob1_some e2
  refine wa_ald d_Wings_fits_2 hs_here e53 ?_
  obtain ⟨v55, e56, e2⟩ := ob1_some e2
  refine wl_callS1 d_Wings_fits_3 lc_Integer_bitCount ls_Wings_53 rfl ⟨rfl, rfl⟩ ⟨by decide, by decide⟩ ?_
  refine s_Integer_bitCount (d := d) e56 ?_
  refine wp_aload_n d_Wings_fits_6 rfl rfl ?_
  refine wp_iload d_Wings_fits_7 rfl ?_
  obtain ⟨v58, e57, e2⟩ := ob1_some e2
  refine wa_ald d_Wings_fits_9 hs_there e57 ?_
  obtain ⟨v59, e60, e2⟩ := ob1_some e2
  refine wl_callS1 d_Wings_fits_10 lc_Integer_bitCount ls_Wings_53 rfl ⟨rfl, rfl⟩ ⟨by decide, by decide⟩ ?_
  refine s_Integer_bitCount (d := d) e60 ?_
  refine wq_icmp_eq 18 d_Wings_fits_13 rfl (fun h13 => ?_) (fun h13 => ?_)
  · cases e2
    exact k13 _ (fun z => (fun z => z h13) (of_decide_eq_true z))
  · cases e2
    exact k11 _ (decide_eq_true h13)
end S148
