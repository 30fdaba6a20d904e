/-! methods as functions: printed by program -/
section S1418
variable {X : mXs} {d z : Nat} {Q : Option Value → mH → Prop}
def L_Mod_nearest_1 (z : Nat) (kind_ : Int32) (M : mM) (kt : Option (Int32)) : Nat → Int32 → Option (Int32)
  | 0, _ => none
  | n + 1, i_ =>
    if i_ < (nI 60) then
    ob1 (ob1 (ob1 (F_Mod_isTaken z i_ M) fun v37 =>
    some (v37)) fun x25 =>
    if x25 = true then ob1 (F_Mod_stuckAt z i_ M) fun v31 =>
    ob1 (ra M 313 270 ((F_Mod_thingAt v31) + (nI 1))) fun v34 =>
    some (decide (v34 = kind_))
    else some (false)) fun x1 =>
    if x1 = true then
    ob1 (F_Mod_stuckAt z i_ M) fun v19 =>
    ob1 (ra M 313 270 (F_Mod_thingAt v19)) fun v22 =>
    some (v22)
    else
    L_Mod_nearest_1 z kind_ M kt n (i_ + nI 1)
    else
    kt 
def F_Mod_nearest (z : Nat) (kind_ : Int32) (M : mM) : Option (Int32) :=
  L_Mod_nearest_1 z kind_ M (some ((-1))) z (nI 0)
theorem l_Mod_nearest_1 {kind_ : Int32} {M : mM} {kt : Option (Int32)}  {r : Int32} (hq : Q (some (.int r)) (lay M)) (K : ∀  (u2 : Value), kt  = some r → wp X (d + 3) f_Mod_nearest (0, 0) 62 [.ref 312, .int kind_, u2] [] (lay M) Q) : ∀ (n : Nat) (i_ : Int32), L_Mod_nearest_1 z kind_ M kt n i_ = some r → wp X (d + 3) f_Mod_nearest (0, 0) 7 [.ref 312, .int kind_, .int i_] [] (lay M) Q := by
  intro n
  induction n with
  | zero => intro i_ h; exact nn h
  | succ n ih =>
    intro i_ h
    refine wp_iload_n d_Mod_nearest_7 rfl rfl ?_
    refine wp_bipush d_Mod_nearest_8 (v := nI 60) rfl ?_
    refine wq_icmp_ge 62 d_Mod_nearest_10 rfl (fun h10 => ?_) (fun h10 => ?_)
    · replace h := inn h h10
      exact K _ h
    · replace h := ip h h10
      obtain ⟨x1, e2, h⟩ := ob1_some h
      have k17 : x1 = true → wp X (d + 3) f_Mod_nearest (0, 0) 41 [.ref 312, .int kind_, .int i_] [] (lay M) Q := by
        intro x18
        replace h := ip h x18
        refine wp_aload_n d_Mod_nearest_41 rfl rfl ?_
        refine wl_getR d_Mod_nearest_42 lf_Mod_7 sh_312 rfl ?_
        refine wp_aload_n d_Mod_nearest_45 rfl rfl ?_
        refine wp_aload_n d_Mod_nearest_46 rfl rfl ?_
        refine wp_iload_n d_Mod_nearest_47 rfl rfl ?_
        obtain ⟨v19, e20, h⟩ := ob1_some h
        refine wl_callV1 d_Mod_nearest_48 lc_Mod_stuckAt lv_Mod_128 rfl sh_312 rfl rfl ⟨rfl, rfl⟩ ⟨by decide, by decide⟩ ?_
        refine s_Mod_stuckAt (d := d + 1) e20 ?_
        refine wl_callV1 d_Mod_nearest_51 lc_Mod_thingAt lv_Mod_124 rfl sh_312 rfl rfl ⟨rfl, rfl⟩ ⟨by decide, by decide⟩ ?_
        refine s_Mod_thingAt (d := d + 2) rfl ?_
        obtain ⟨v22, e21, h⟩ := ob1_some h
        refine wa_ald d_Mod_nearest_54 sh_313 e21 ?_
        cases h
        exact wp_iret d_Mod_nearest_55 rfl rfl rfl hq
      have k23 : ¬ x1 = true → wp X (d + 3) f_Mod_nearest (0, 0) 56 [.ref 312, .int kind_, .int i_] [] (lay M) Q := by
        intro x24
        replace h := inn h x24
        refine wp_iinc d_Mod_nearest_56 (v := i_ + nI 1) rfl rfl ?_
        refine wp_goto 7 d_Mod_nearest_59 rfl ?_
        exact ih _ h
      obtain ⟨x25, e26, e2⟩ := ob1_some e2
      have k29 : x25 = true → wp X (d + 3) f_Mod_nearest (0, 0) 21 [.ref 312, .int kind_, .int i_] [] (lay M) Q := by
        intro x30
        replace e2 := ip e2 x30
        refine wp_aload_n d_Mod_nearest_21 rfl rfl ?_
        refine wl_getR d_Mod_nearest_22 lf_Mod_7 sh_312 rfl ?_
        refine wp_aload_n d_Mod_nearest_25 rfl rfl ?_
        refine wp_aload_n d_Mod_nearest_26 rfl rfl ?_
        refine wp_iload_n d_Mod_nearest_27 rfl rfl ?_
        obtain ⟨v31, e32, e2⟩ := ob1_some e2
        refine wl_callV1 d_Mod_nearest_28 lc_Mod_stuckAt lv_Mod_128 rfl sh_312 rfl rfl ⟨rfl, rfl⟩ ⟨by decide, by decide⟩ ?_
        refine s_Mod_stuckAt (d := d + 1) e32 ?_
        refine wl_callV1 d_Mod_nearest_31 lc_Mod_thingAt lv_Mod_124 rfl sh_312 rfl rfl ⟨rfl, rfl⟩ ⟨by decide, by decide⟩ ?_
        refine s_Mod_thingAt (d := d + 2) rfl ?_
        refine wp_iconst d_Mod_nearest_34 (v := nI 1) rfl ?_
        refine wp_iadd d_Mod_nearest_35 ?_
        obtain ⟨v34, e33, e2⟩ := ob1_some e2
        refine wa_ald d_Mod_nearest_36 sh_313 e33 ?_
        refine wp_iload_n d_Mod_nearest_37 rfl rfl ?_
        refine wq_icmp_ne 56 d_Mod_nearest_38 rfl (fun h38 => ?_) (fun h38 => ?_)
        · cases e2
          exact k23 (fun z => h38 (of_decide_eq_true z))
        · cases e2
          exact k17 (decide_eq_true h38)
      have k35 : ¬ x25 = true → wp X (d + 3) f_Mod_nearest (0, 0) 56 [.ref 312, .int kind_, .int i_] [] (lay M) Q := by
        intro x36
        replace e2 := inn e2 x36
        cases e2
        exact k23 (fun z => Bool.noConfusion z)
      refine wp_aload_n d_Mod_nearest_13 rfl rfl ?_
      refine wp_iload_n d_Mod_nearest_14 rfl rfl ?_
      obtain ⟨v37, e38, e26⟩ := ob1_some e26
      refine wl_callV1 d_Mod_nearest_15 lc_Mod_isTaken lv_Mod_332 rfl sh_312 rfl rfl ⟨rfl, rfl⟩ ⟨by decide, by decide⟩ ?_
      refine s_Mod_isTaken (d := d) e38 ?_
      refine wc_eq 56 d_Mod_nearest_18 rfl (fun h18 => ?_) (fun h18 => ?_)
      · cases e26
        exact k35 h18
      · cases e26
        exact k29 h18
theorem s_Mod_nearest {kind_ : Int32} {M : mM} {r : Int32} (h : F_Mod_nearest z kind_ M = some r) (hq : Q (some (.int r)) (lay M)) : Sp X (d + 3) f_Mod_nearest [.ref 312, .int kind_] (lay M) Q := by
  refine Sp_of (by decide) rfl (Nat.le_of_ble_eq_true rfl) ?_
  refine wp_aload_n d_Mod_nearest_0 rfl rfl ?_
  refine wp_iconst d_Mod_nearest_1 (v := nI 0) rfl ?_
  refine wl_putC d_Mod_nearest_2 lp_Mod_107 sh_312 rfl ⟨rfl, rfl⟩ ?_
  refine wp_iconst d_Mod_nearest_5 (v := nI 0) rfl ?_
  refine wp_istore_n d_Mod_nearest_6 rfl (by decide) ?_
  refine l_Mod_nearest_1 hq ?_ _ _ h
  intro u2 h
  refine wp_iconst d_Mod_nearest_62 (v := (-1)) rfl ?_
  cases h
  exact wp_iret d_Mod_nearest_63 rfl rfl rfl hq
def F_Mod_areNear (a_ : Int32) (b_ : Int32) : Bool :=
  decide (((F_Mod_apart a_ b_) = (nI 1) ∨ (F_Mod_apart a_ b_) = (nI 10)))
theorem s_Mod_areNear {a_ : Int32} {b_ : Int32} {M : mM} {r : Bool} (h : F_Mod_areNear a_ b_ = r) (hq : Q (some (.int (bI r))) (lay M)) : Sp X (d + 1) f_Mod_areNear [.ref 312, .int a_, .int b_] (lay M) Q := by
  refine Sp_of (by decide) rfl (Nat.le_of_ble_eq_true rfl) ?_
  have k1 : wp X (d + 1) f_Mod_areNear (0, 0) 26 [.ref 312, .int a_, .int b_] [.int (bI (decide (((F_Mod_apart a_ b_) = (nI 1) ∨ (F_Mod_apart a_ b_) = (nI 10)))))] (lay M) Q := by
    cases h
    exact wb_iret d_Mod_areNear_26 rfl rfl hq
  refine wp_aload_n d_Mod_areNear_0 rfl rfl ?_
  refine wp_iload_n d_Mod_areNear_1 rfl rfl ?_
  refine wp_iload_n d_Mod_areNear_2 rfl rfl ?_
  refine wl_callV2 d_Mod_areNear_3 lc_Mod_apart lv_Mod_306 rfl sh_312 rfl rfl ⟨rfl, rfl⟩ ⟨by decide, by decide⟩ ?_
  refine s_Mod_apart (d := d) rfl ?_
  refine wp_iconst d_Mod_areNear_6 (v := nI 1) rfl ?_
  refine wq_icmp_eq 21 d_Mod_areNear_7 rfl (fun h7 => ?_) (fun h7 => ?_)
  · refine wp_iconst d_Mod_areNear_21 (v := nI 1) rfl ?_
    refine wp_goto 26 d_Mod_areNear_22 rfl ?_
    exact wj_t (Or.inl h7) (k1)
  · refine wp_aload_n d_Mod_areNear_10 rfl rfl ?_
    refine wp_iload_n d_Mod_areNear_11 rfl rfl ?_
    refine wp_iload_n d_Mod_areNear_12 rfl rfl ?_
    refine wl_callV2 d_Mod_areNear_13 lc_Mod_apart lv_Mod_306 rfl sh_312 rfl rfl ⟨rfl, rfl⟩ ⟨by decide, by decide⟩ ?_
    refine s_Mod_apart (d := d) rfl ?_
    refine wp_bipush d_Mod_areNear_16 (v := nI 10) rfl ?_
    refine wq_icmp_ne 25 d_Mod_areNear_18 rfl (fun h18 => ?_) (fun h18 => ?_)
    · refine wp_iconst d_Mod_areNear_25 (v := nI 0) rfl ?_
      exact wj_f (fun z => z.elim h7 h18) (k1)
    · refine wp_iconst d_Mod_areNear_21 (v := nI 1) rfl ?_
      refine wp_goto 26 d_Mod_areNear_22 rfl ?_
      exact wj_t (Or.inr h18) (k1)
def L_Mod_findsParts_1 (z : Nat) : Nat → Int32 → mM → Option (mM)
  | 0, _, _ => none
  | n + 1, i_, M =>
    if i_ < (nI 60) then
    ob1 (ob1 (ob1 (F_Mod_isTaken z i_ M) fun v24 =>
    some (v24)) fun x16 =>
    if x16 = true then
    some (i_)
    else
    some ((-1))) fun v12 =>
    ob1 (wa M 332 60 i_ v12) fun M15 =>
    L_Mod_findsParts_1 z n (i_ + nI 1) M15
    else
    some (M)
def L_Mod_findsParts_4 (z : Nat) (a_ : Int32) : Nat → Bool → Int32 → mM → Option (Bool × mM)
  | 0, _, _, _ => none
  | n + 1, isMore_, b_, M =>
    if b_ < (nI 60) then
    ob1 (ob1 (ob1 (ob1 (ob1 (ra M 332 60 a_) fun v176 =>
    some (decide (v176 = (-1)))) fun x165 =>
    if x165 = true then some (true)
    else ob1 (ra M 332 60 b_) fun v174 =>
    some (decide (v174 = (-1)))) fun x147 =>
    if x147 = true then some (true)
    else some (decide (¬ ((F_Mod_areNear a_ b_) = true)))) fun x107 =>
    if x107 = true then some (true)
    else ob1 (ra M 332 60 b_) fun v144 =>
    ob1 (ra M 332 60 a_) fun v146 =>
    some (decide (¬ (v144 < v146)))) fun x27 =>
    if x27 = true then
    L_Mod_findsParts_4 z a_ n isMore_ (b_ + nI 1) M
    else
    ob1 (ra M 332 60 b_) fun v104 =>
    ob1 (wa M 332 60 a_ v104) fun M106 =>
    L_Mod_findsParts_4 z a_ n true (b_ + nI 1) M106
    else
    some (isMore_, M)
def L_Mod_findsParts_3 (z : Nat) : Nat → Bool → Int32 → mM → Option (Bool × mM)
  | 0, _, _, _ => none
  | n + 1, isMore_, a_, M =>
    if a_ < (nI 60) then
    ob2 (L_Mod_findsParts_4 z a_ z isMore_ (nI 0) M) fun isMore_177 M178 =>
    L_Mod_findsParts_3 z n isMore_177 (a_ + nI 1) M178
    else
    some (isMore_, M)
def L_Mod_findsParts_2 (z : Nat) : Nat → Bool → mM → Option (Bool × mM)
  | 0, _, _ => none
  | n + 1, isMore_, M =>
    if isMore_ = true then
    ob2 (L_Mod_findsParts_3 z z false (nI 0) M) fun isMore_180 M181 =>
    L_Mod_findsParts_2 z n isMore_180 M181
    else
    some (isMore_, M)
def F_Mod_findsParts (z : Nat) (M : mM) : Option mM :=
  ob1 (L_Mod_findsParts_1 z z (nI 0) M) fun M26 =>
  ob2 (L_Mod_findsParts_2 z z true M26) fun isMore_183 M184 =>
  some M184
theorem l_Mod_findsParts_1  {N' : mM} (K : ∀ u1 u2 u3 : Value, wp X (d + 3) f_Mod_findsParts (0, 0) 33 [.ref 312, u1, u2, u3] [] (lay N') Q) : ∀ (n : Nat) (i_ : Int32) (M : mM) (u2 u3 : Value), L_Mod_findsParts_1 z n i_ M = some (N') → wp X (d + 3) f_Mod_findsParts (0, 0) 2 [.ref 312, .int i_, u2, u3] [] (lay M) Q := by
  intro n
  induction n with
  | zero => intro i_ M u2 u3 h; exact nn h
  | succ n ih =>
    intro i_ M u2 u3 h
    refine wp_iload_n d_Mod_findsParts_2 rfl rfl ?_
    refine wp_bipush d_Mod_findsParts_3 (v := nI 60) rfl ?_
    refine wq_icmp_ge 33 d_Mod_findsParts_5 rfl (fun h5 => ?_) (fun h5 => ?_)
    · replace h := inn h h5
      cases h
      exact K _ _ _
    · replace h := ip h h5
      refine wp_aload_n d_Mod_findsParts_8 rfl rfl ?_
      refine wl_getR d_Mod_findsParts_9 lf_Mod_71 sh_312 rfl ?_
      refine wp_iload_n d_Mod_findsParts_12 rfl rfl ?_
      obtain ⟨v12, e13, h⟩ := ob1_some h
      have k11 : ∀ u2 u3 : Value, wp X (d + 3) f_Mod_findsParts (0, 0) 26 [.ref 312, .int i_, u2, u3] [.int v12, .int i_, .ref 332] (lay M) Q := by
        intro u2 u3
        obtain ⟨M15, e14, h⟩ := ob1_some h
        refine wa_ast d_Mod_findsParts_26 sh_332 e14 ?_
        refine wp_iinc d_Mod_findsParts_27 (v := i_ + nI 1) rfl rfl ?_
        refine wp_goto 2 d_Mod_findsParts_30 rfl ?_
        exact ih _ _ _ _ h
      obtain ⟨x16, e17, e13⟩ := ob1_some e13
      have k20 : ∀ u2 u3 : Value, x16 = true → wp X (d + 3) f_Mod_findsParts (0, 0) 21 [.ref 312, .int i_, u2, u3] [.int i_, .ref 332] (lay M) Q := by
        intro u2 u3 x21
        replace e13 := ip e13 x21
        refine wp_iload_n d_Mod_findsParts_21 rfl rfl ?_
        cases e13
        refine wp_goto 26 d_Mod_findsParts_22 rfl ?_
        exact k11 _ _
      have k22 : ∀ u2 u3 : Value, ¬ x16 = true → wp X (d + 3) f_Mod_findsParts (0, 0) 25 [.ref 312, .int i_, u2, u3] [.int i_, .ref 332] (lay M) Q := by
        intro u2 u3 x23
        replace e13 := inn e13 x23
        refine wp_iconst d_Mod_findsParts_25 (v := (-1)) rfl ?_
        cases e13
        exact k11 _ _
      refine wp_aload_n d_Mod_findsParts_13 rfl rfl ?_
      refine wp_iload_n d_Mod_findsParts_14 rfl rfl ?_
      obtain ⟨v24, e25, e17⟩ := ob1_some e17
      refine wl_callV1 d_Mod_findsParts_15 lc_Mod_isTaken lv_Mod_332 rfl sh_312 rfl rfl ⟨rfl, rfl⟩ ⟨by decide, by decide⟩ ?_
      refine s_Mod_isTaken (d := d) e25 ?_
      refine wc_eq 25 d_Mod_findsParts_18 rfl (fun h18 => ?_) (fun h18 => ?_)
      · cases e17
        exact k22 _ _ h18
      · cases e17
        exact k20 _ _ h18
theorem l_Mod_findsParts_4 {a_ : Int32}  {isMore_r : Bool} {N' : mM} (K : ∀ u3 : Value, wp X (d + 3) f_Mod_findsParts (0, 0) 124 [.ref 312, .int (bI isMore_r), .int a_, u3] [] (lay N') Q) : ∀ (n : Nat) (isMore_ : Bool) (b_ : Int32) (M : mM), L_Mod_findsParts_4 z a_ n isMore_ b_ M = some (isMore_r, N') → wp X (d + 3) f_Mod_findsParts (0, 0) 51 [.ref 312, .int (bI isMore_), .int a_, .int b_] [] (lay M) Q := by
  intro n
  induction n with
  | zero => intro isMore_ b_ M h; exact nn h
  | succ n ih =>
    intro isMore_ b_ M h
    refine wp_iload_n d_Mod_findsParts_51 rfl rfl ?_
    refine wp_bipush d_Mod_findsParts_52 (v := nI 60) rfl ?_
    refine wq_icmp_ge 124 d_Mod_findsParts_54 rfl (fun h54 => ?_) (fun h54 => ?_)
    · replace h := inn h h54
      cases h
      exact K _
    · replace h := ip h h54
      obtain ⟨x27, e28, h⟩ := ob1_some h
      have k99 : x27 = true → wp X (d + 3) f_Mod_findsParts (0, 0) 118 [.ref 312, .int (bI isMore_), .int a_, .int b_] [] (lay M) Q := by
        intro x100
        replace h := ip h x100
        refine wp_iinc d_Mod_findsParts_118 (v := b_ + nI 1) rfl rfl ?_
        refine wp_goto 51 d_Mod_findsParts_121 rfl ?_
        exact ih _ _ _ h
      have k101 : ¬ x27 = true → wp X (d + 3) f_Mod_findsParts (0, 0) 104 [.ref 312, .int (bI isMore_), .int a_, .int b_] [] (lay M) Q := by
        intro x102
        replace h := inn h x102
        refine wp_aload_n d_Mod_findsParts_104 rfl rfl ?_
        refine wl_getR d_Mod_findsParts_105 lf_Mod_71 sh_312 rfl ?_
        refine wp_iload_n d_Mod_findsParts_108 rfl rfl ?_
        refine wp_aload_n d_Mod_findsParts_109 rfl rfl ?_
        refine wl_getR d_Mod_findsParts_110 lf_Mod_71 sh_312 rfl ?_
        refine wp_iload_n d_Mod_findsParts_113 rfl rfl ?_
        obtain ⟨v104, e103, h⟩ := ob1_some h
        refine wa_ald d_Mod_findsParts_114 sh_332 e103 ?_
        obtain ⟨M106, e105, h⟩ := ob1_some h
        refine wa_ast d_Mod_findsParts_115 sh_332 e105 ?_
        refine wp_iconst d_Mod_findsParts_116 (v := bI true) rfl ?_
        refine wp_istore_n d_Mod_findsParts_117 rfl (by decide) ?_
        refine wp_iinc d_Mod_findsParts_118 (v := b_ + nI 1) rfl rfl ?_
        refine wp_goto 51 d_Mod_findsParts_121 rfl ?_
        exact ih _ _ _ h
      obtain ⟨x107, e108, e28⟩ := ob1_some e28
      have k139 : x107 = true → wp X (d + 3) f_Mod_findsParts (0, 0) 118 [.ref 312, .int (bI isMore_), .int a_, .int b_] [] (lay M) Q := by
        intro x140
        replace e28 := ip e28 x140
        cases e28
        exact k99 rfl
      have k141 : ¬ x107 = true → wp X (d + 3) f_Mod_findsParts (0, 0) 86 [.ref 312, .int (bI isMore_), .int a_, .int b_] [] (lay M) Q := by
        intro x142
        replace e28 := inn e28 x142
        refine wp_aload_n d_Mod_findsParts_86 rfl rfl ?_
        refine wl_getR d_Mod_findsParts_87 lf_Mod_71 sh_312 rfl ?_
        refine wp_iload_n d_Mod_findsParts_90 rfl rfl ?_
        obtain ⟨v144, e143, e28⟩ := ob1_some e28
        refine wa_ald d_Mod_findsParts_91 sh_332 e143 ?_
        refine wp_aload_n d_Mod_findsParts_92 rfl rfl ?_
        refine wl_getR d_Mod_findsParts_93 lf_Mod_71 sh_312 rfl ?_
        refine wp_iload_n d_Mod_findsParts_96 rfl rfl ?_
        obtain ⟨v146, e145, e28⟩ := ob1_some e28
        refine wa_ald d_Mod_findsParts_97 sh_332 e145 ?_
        refine wq_icmp_lt 104 d_Mod_findsParts_98 rfl (fun h98 => ?_) (fun h98 => ?_)
        · cases e28
          exact k101 (fun z => (fun z => z h98) (of_decide_eq_true z))
        · cases e28
          refine wp_goto 118 d_Mod_findsParts_101 rfl ?_
          exact k99 (decide_eq_true h98)
      obtain ⟨x147, e148, e108⟩ := ob1_some e108
      have k161 : x147 = true → wp X (d + 3) f_Mod_findsParts (0, 0) 118 [.ref 312, .int (bI isMore_), .int a_, .int b_] [] (lay M) Q := by
        intro x162
        replace e108 := ip e108 x162
        cases e108
        exact k139 rfl
      have k163 : ¬ x147 = true → wp X (d + 3) f_Mod_findsParts (0, 0) 77 [.ref 312, .int (bI isMore_), .int a_, .int b_] [] (lay M) Q := by
        intro x164
        replace e108 := inn e108 x164
        refine wp_aload_n d_Mod_findsParts_77 rfl rfl ?_
        refine wp_iload_n d_Mod_findsParts_78 rfl rfl ?_
        refine wp_iload_n d_Mod_findsParts_79 rfl rfl ?_
        refine wl_callV2 d_Mod_findsParts_80 lc_Mod_areNear lv_Mod_394 rfl sh_312 rfl rfl ⟨rfl, rfl⟩ ⟨by decide, by decide⟩ ?_
        refine s_Mod_areNear (d := d + 1) rfl ?_
        refine wc_eq 118 d_Mod_findsParts_83 rfl (fun h83 => ?_) (fun h83 => ?_)
        · cases e108
          exact k139 (decide_eq_true h83)
        · cases e108
          exact k141 (fun z => (fun z => z h83) (of_decide_eq_true z))
      obtain ⟨x165, e166, e148⟩ := ob1_some e148
      have k169 : x165 = true → wp X (d + 3) f_Mod_findsParts (0, 0) 118 [.ref 312, .int (bI isMore_), .int a_, .int b_] [] (lay M) Q := by
        intro x170
        replace e148 := ip e148 x170
        cases e148
        exact k161 rfl
      have k171 : ¬ x165 = true → wp X (d + 3) f_Mod_findsParts (0, 0) 67 [.ref 312, .int (bI isMore_), .int a_, .int b_] [] (lay M) Q := by
        intro x172
        replace e148 := inn e148 x172
        refine wp_aload_n d_Mod_findsParts_67 rfl rfl ?_
        refine wl_getR d_Mod_findsParts_68 lf_Mod_71 sh_312 rfl ?_
        refine wp_iload_n d_Mod_findsParts_71 rfl rfl ?_
        obtain ⟨v174, e173, e148⟩ := ob1_some e148
        refine wa_ald d_Mod_findsParts_72 sh_332 e173 ?_
        refine wp_iconst d_Mod_findsParts_73 (v := (-1)) rfl ?_
        refine wq_icmp_eq 118 d_Mod_findsParts_74 rfl (fun h74 => ?_) (fun h74 => ?_)
        · cases e148
          exact k161 (decide_eq_true h74)
        · cases e148
          exact k163 (fun z => h74 (of_decide_eq_true z))
      refine wp_aload_n d_Mod_findsParts_57 rfl rfl ?_
      refine wl_getR d_Mod_findsParts_58 lf_Mod_71 sh_312 rfl ?_
      refine wp_iload_n d_Mod_findsParts_61 rfl rfl ?_
      obtain ⟨v176, e175, e166⟩ := ob1_some e166
      refine wa_ald d_Mod_findsParts_62 sh_332 e175 ?_
      refine wp_iconst d_Mod_findsParts_63 (v := (-1)) rfl ?_
      refine wq_icmp_eq 118 d_Mod_findsParts_64 rfl (fun h64 => ?_) (fun h64 => ?_)
      · cases e166
        exact k169 (decide_eq_true h64)
      · cases e166
        exact k171 (fun z => h64 (of_decide_eq_true z))
theorem l_Mod_findsParts_3  {isMore_r : Bool} {N' : mM} (K : ∀ u2 u3 : Value, wp X (d + 3) f_Mod_findsParts (0, 0) 35 [.ref 312, .int (bI isMore_r), u2, u3] [] (lay N') Q) : ∀ (n : Nat) (isMore_ : Bool) (a_ : Int32) (M : mM) (u3 : Value), L_Mod_findsParts_3 z n isMore_ a_ M = some (isMore_r, N') → wp X (d + 3) f_Mod_findsParts (0, 0) 43 [.ref 312, .int (bI isMore_), .int a_, u3] [] (lay M) Q := by
  intro n
  induction n with
  | zero => intro isMore_ a_ M u3 h; exact nn h
  | succ n ih =>
    intro isMore_ a_ M u3 h
    refine wp_iload_n d_Mod_findsParts_43 rfl rfl ?_
    refine wp_bipush d_Mod_findsParts_44 (v := nI 60) rfl ?_
    refine wq_icmp_ge 130 d_Mod_findsParts_46 rfl (fun h46 => ?_) (fun h46 => ?_)
    · replace h := inn h h46
      cases h
      refine wp_goto 35 d_Mod_findsParts_130 rfl ?_
      exact K _ _
    · replace h := ip h h46
      refine wp_iconst d_Mod_findsParts_49 (v := nI 0) rfl ?_
      refine wp_istore_n d_Mod_findsParts_50 rfl (by decide) ?_
      obtain ⟨isMore_177, M178, e179, h⟩ := ob2_some h
      refine l_Mod_findsParts_4 ?_ _ _ _ _ e179
      intro u3
      refine wp_iinc d_Mod_findsParts_124 (v := a_ + nI 1) rfl rfl ?_
      refine wp_goto 43 d_Mod_findsParts_127 rfl ?_
      exact ih _ _ _ _ h
theorem l_Mod_findsParts_2  {isMore_r : Bool} {N' : mM} (K : ∀ u2 u3 : Value, wp X (d + 3) f_Mod_findsParts (0, 0) 133 [.ref 312, .int (bI isMore_r), u2, u3] [] (lay N') Q) : ∀ (n : Nat) (isMore_ : Bool) (M : mM) (u2 u3 : Value), L_Mod_findsParts_2 z n isMore_ M = some (isMore_r, N') → wp X (d + 3) f_Mod_findsParts (0, 0) 35 [.ref 312, .int (bI isMore_), u2, u3] [] (lay M) Q := by
  intro n
  induction n with
  | zero => intro isMore_ M u2 u3 h; exact nn h
  | succ n ih =>
    intro isMore_ M u2 u3 h
    refine wp_iload_n d_Mod_findsParts_35 rfl rfl ?_
    refine wc_eq 133 d_Mod_findsParts_36 rfl (fun h36 => ?_) (fun h36 => ?_)
    · replace h := inn h h36
      cases h
      exact K _ _
    · replace h := ip h h36
      refine wp_iconst d_Mod_findsParts_39 (v := bI false) rfl ?_
      refine wp_istore_n d_Mod_findsParts_40 rfl (by decide) ?_
      refine wp_iconst d_Mod_findsParts_41 (v := nI 0) rfl ?_
      refine wp_istore_n d_Mod_findsParts_42 rfl (by decide) ?_
      obtain ⟨isMore_180, M181, e182, h⟩ := ob2_some h
      refine l_Mod_findsParts_3 ?_ _ _ _ _ _ e182
      intro u2 u3
      exact ih _ _ _ _ h
theorem s_Mod_findsParts {M : mM} {M' : mM} (h : F_Mod_findsParts z M = some M') (hq : Q none (lay M')) : Sp X (d + 3) f_Mod_findsParts [.ref 312] (lay M) Q := by
  refine Sp_of (by decide) rfl (Nat.le_of_ble_eq_true rfl) ?_
  refine wp_iconst d_Mod_findsParts_0 (v := nI 0) rfl ?_
  refine wp_istore_n d_Mod_findsParts_1 rfl (by decide) ?_
  obtain ⟨M26, e186, h⟩ := ob1_some h
  refine l_Mod_findsParts_1 ?_ _ _ _ _ _ e186
  intro u1 u2 u3
  refine wp_iconst d_Mod_findsParts_33 (v := bI true) rfl ?_
  refine wp_istore_n d_Mod_findsParts_34 rfl (by decide) ?_
  obtain ⟨isMore_183, M184, e185, h⟩ := ob2_some h
  refine l_Mod_findsParts_2 ?_ _ _ _ _ _ e185
  intro u2 u3
  cases h
  exact wp_ret d_Mod_findsParts_133 rfl rfl hq
def L_Mod_partOf_1 (z : Nat) (least_ : Int32) (M : mM) : Nat → Int32 → Int32 → Option (Int32)
  | 0, _, _ => none
  | n + 1, n_, i_ =>
    if i_ < (nI 60) then
    ob1 (ob1 (ob1 (ra M 332 60 i_) fun v23 =>
    some (decide (v23 = least_))) fun x14 =>
    if x14 = true then
    some (n_ + (nI 1))
    else
    some (n_)) fun n_12 =>
    L_Mod_partOf_1 z least_ M n n_12 (i_ + nI 1)
    else
    some (n_)
def F_Mod_partOf (z : Nat) (least_ : Int32) (M : mM) : Option (Int32) :=
  ob1 (L_Mod_partOf_1 z least_ M z (nI 0) (nI 0)) fun n_24 =>
  some (n_24)
theorem l_Mod_partOf_1 {least_ : Int32} {M : mM}  {n_r : Int32} (K : ∀ u3 : Value, wp X d f_Mod_partOf (0, 0) 30 [.ref 312, .int least_, .int n_r, u3] [] (lay M) Q) : ∀ (n : Nat) (n_ : Int32) (i_ : Int32), L_Mod_partOf_1 z least_ M n n_ i_ = some (n_r) → wp X d f_Mod_partOf (0, 0) 4 [.ref 312, .int least_, .int n_, .int i_] [] (lay M) Q := by
  intro n
  induction n with
  | zero => intro n_ i_ h; exact nn h
  | succ n ih =>
    intro n_ i_ h
    refine wp_iload_n d_Mod_partOf_4 rfl rfl ?_
    refine wp_bipush d_Mod_partOf_5 (v := nI 60) rfl ?_
    refine wq_icmp_ge 30 d_Mod_partOf_7 rfl (fun h7 => ?_) (fun h7 => ?_)
    · replace h := inn h h7
      cases h
      exact K _
    · replace h := ip h h7
      obtain ⟨n_12, e13, h⟩ := ob1_some h
      have k11 : wp X d f_Mod_partOf (0, 0) 24 [.ref 312, .int least_, .int n_12, .int i_] [] (lay M) Q := by
        refine wp_iinc d_Mod_partOf_24 (v := i_ + nI 1) rfl rfl ?_
        refine wp_goto 4 d_Mod_partOf_27 rfl ?_
        exact ih _ _ h
      obtain ⟨x14, e15, e13⟩ := ob1_some e13
      have k18 : x14 = true → wp X d f_Mod_partOf (0, 0) 20 [.ref 312, .int least_, .int n_, .int i_] [] (lay M) Q := by
        intro x19
        replace e13 := ip e13 x19
        refine wp_iload_n d_Mod_partOf_20 rfl rfl ?_
        refine wp_iconst d_Mod_partOf_21 (v := nI 1) rfl ?_
        refine wp_iadd d_Mod_partOf_22 ?_
        refine wp_istore_n d_Mod_partOf_23 rfl (by decide) ?_
        cases e13
        exact k11
      have k20 : ¬ x14 = true → wp X d f_Mod_partOf (0, 0) 24 [.ref 312, .int least_, .int n_, .int i_] [] (lay M) Q := by
        intro x21
        replace e13 := inn e13 x21
        cases e13
        exact k11
      refine wp_aload_n d_Mod_partOf_10 rfl rfl ?_
      refine wl_getR d_Mod_partOf_11 lf_Mod_71 sh_312 rfl ?_
      refine wp_iload_n d_Mod_partOf_14 rfl rfl ?_
      obtain ⟨v23, e22, e15⟩ := ob1_some e15
      refine wa_ald d_Mod_partOf_15 sh_332 e22 ?_
      refine wp_iload_n d_Mod_partOf_16 rfl rfl ?_
      refine wq_icmp_ne 24 d_Mod_partOf_17 rfl (fun h17 => ?_) (fun h17 => ?_)
      · cases e15
        exact k20 (fun z => h17 (of_decide_eq_true z))
      · cases e15
        exact k18 (decide_eq_true h17)
theorem s_Mod_partOf {least_ : Int32} {M : mM} {r : Int32} (h : F_Mod_partOf z least_ M = some r) (hq : Q (some (.int r)) (lay M)) : Sp X d f_Mod_partOf [.ref 312, .int least_] (lay M) Q := by
  refine Sp_of (by decide) rfl (Nat.le_of_ble_eq_true rfl) ?_
  refine wp_iconst d_Mod_partOf_0 (v := nI 0) rfl ?_
  refine wp_istore_n d_Mod_partOf_1 rfl (by decide) ?_
  refine wp_iconst d_Mod_partOf_2 (v := nI 0) rfl ?_
  refine wp_istore_n d_Mod_partOf_3 rfl (by decide) ?_
  obtain ⟨n_24, e25, h⟩ := ob1_some h
  refine l_Mod_partOf_1 ?_ _ _ _ e25
  intro u3
  refine wp_iload_n d_Mod_partOf_30 rfl rfl ?_
  cases h
  exact wp_iret d_Mod_partOf_31 rfl rfl rfl hq
def L_Mod_heaps_1 (z : Nat) (M : mM) : Nat → Int32 → Int32 → Int32 → Option (Int32 × Int32)
  | 0, _, _, _ => none
  | n + 1, n_, best_, i_ =>
    if i_ < (nI 60) then
    ob1 (ob1 (ra M 332 60 i_) fun v43 =>
    some (decide (¬ (v43 = i_)))) fun x3 =>
    if x3 = true then
    L_Mod_heaps_1 z M n n_ best_ (i_ + nI 1)
    else
    ob1 (ob1 (if best_ = (-1) then some (true)
    else ob1 (F_Mod_partOf z i_ M) fun v38 =>
    ob1 (F_Mod_partOf z best_ M) fun v40 =>
    some (decide (v40 < v38))) fun x28 =>
    if x28 = true then
    some (i_)
    else
    some (best_)) fun best_26 =>
    L_Mod_heaps_1 z M n (n_ + (nI 1)) best_26 (i_ + nI 1)
    else
    some (n_, best_)
def F_Mod_heaps (z : Nat) (what_ : Int32) (M : mM) : Option (Int32 × mM) :=
  if ¬ ((F_Mod_isIn what_ (nI 0) (nI 2)) = true) then
  some ((-1), M)
  else
  ob1 (F_Mod_findsParts z M) fun M1 =>
  ob2 (L_Mod_heaps_1 z M1 z (nI 0) (-1) (nI 0)) fun n_44 best_45 =>
  ob1 (if what_ = (nI 0) then
  some (n_44)
  else
  ob1 (if what_ = (nI 2) then
  some (best_45)
  else
  ob1 (if best_45 = (-1) then
  some (nI 0)
  else
  ob1 (F_Mod_partOf z best_45 M1) fun v81 =>
  some (v81)) fun v79 =>
  some (v79)) fun v74 =>
  some (v74)) fun v64 =>
  some (v64, M1)
theorem l_Mod_heaps_1 {M : mM}  {q1 : Value} {n_r : Int32} {best_r : Int32} (K : ∀ u4 : Value, wp X (d + 4) f_Mod_heaps (0, 0) 82 [.ref 312, q1, .int n_r, .int best_r, u4] [] (lay M) Q) : ∀ (n : Nat) (n_ : Int32) (best_ : Int32) (i_ : Int32), L_Mod_heaps_1 z M n n_ best_ i_ = some (n_r, best_r) → wp X (d + 4) f_Mod_heaps (0, 0) 28 [.ref 312, q1, .int n_, .int best_, .int i_] [] (lay M) Q := by
  intro n
  induction n with
  | zero => intro n_ best_ i_ h; exact nn h
  | succ n ih =>
    intro n_ best_ i_ h
    refine wp_iload d_Mod_heaps_28 rfl ?_
    refine wp_bipush d_Mod_heaps_30 (v := nI 60) rfl ?_
    refine wq_icmp_ge 82 d_Mod_heaps_32 rfl (fun h32 => ?_) (fun h32 => ?_)
    · replace h := inn h h32
      cases h
      exact K _
    · replace h := ip h h32
      obtain ⟨x3, e4, h⟩ := ob1_some h
      have k7 : x3 = true → wp X (d + 4) f_Mod_heaps (0, 0) 47 [.ref 312, q1, .int n_, .int best_, .int i_] [] (lay M) Q := by
        intro x8
        replace h := ip h x8
        refine wp_goto 76 d_Mod_heaps_47 rfl ?_
        refine wp_iinc d_Mod_heaps_76 (v := i_ + nI 1) rfl rfl ?_
        refine wp_goto 28 d_Mod_heaps_79 rfl ?_
        exact ih _ _ _ h
      have k9 : ¬ x3 = true → wp X (d + 4) f_Mod_heaps (0, 0) 50 [.ref 312, q1, .int n_, .int best_, .int i_] [] (lay M) Q := by
        intro x10
        replace h := inn h x10
        refine wp_iload_n d_Mod_heaps_50 rfl rfl ?_
        refine wp_iconst d_Mod_heaps_51 (v := nI 1) rfl ?_
        refine wp_iadd d_Mod_heaps_52 ?_
        refine wp_istore_n d_Mod_heaps_53 rfl (by decide) ?_
        obtain ⟨best_26, e27, h⟩ := ob1_some h
        have k25 : wp X (d + 4) f_Mod_heaps (0, 0) 76 [.ref 312, q1, .int (n_ + (nI 1)), .int best_26, .int i_] [] (lay M) Q := by
          refine wp_iinc d_Mod_heaps_76 (v := i_ + nI 1) rfl rfl ?_
          refine wp_goto 28 d_Mod_heaps_79 rfl ?_
          exact ih _ _ _ h
        obtain ⟨x28, e29, e27⟩ := ob1_some e27
        have k34 : x28 = true → wp X (d + 4) f_Mod_heaps (0, 0) 73 [.ref 312, q1, .int (n_ + (nI 1)), .int best_, .int i_] [] (lay M) Q := by
          intro x35
          replace e27 := ip e27 x35
          refine wp_iload d_Mod_heaps_73 rfl ?_
          refine wp_istore_n d_Mod_heaps_75 rfl (by decide) ?_
          cases e27
          exact k25
        have k36 : ¬ x28 = true → wp X (d + 4) f_Mod_heaps (0, 0) 76 [.ref 312, q1, .int (n_ + (nI 1)), .int best_, .int i_] [] (lay M) Q := by
          intro x37
          replace e27 := inn e27 x37
          cases e27
          exact k25
        refine wp_iload_n d_Mod_heaps_54 rfl rfl ?_
        refine wp_iconst d_Mod_heaps_55 (v := (-1)) rfl ?_
        refine wq_icmp_eq 73 d_Mod_heaps_56 rfl (fun h56 => ?_) (fun h56 => ?_)
        · replace e29 := ip e29 h56
          cases e29
          exact k34 rfl
        · replace e29 := inn e29 h56
          refine wp_aload_n d_Mod_heaps_59 rfl rfl ?_
          refine wp_iload d_Mod_heaps_60 rfl ?_
          obtain ⟨v38, e39, e29⟩ := ob1_some e29
          refine wl_callV1 d_Mod_heaps_62 lc_Mod_partOf lv_Mod_401 rfl sh_312 rfl rfl ⟨rfl, rfl⟩ ⟨by decide, by decide⟩ ?_
          refine s_Mod_partOf (d := d + 3) e39 ?_
          refine wp_aload_n d_Mod_heaps_65 rfl rfl ?_
          refine wp_iload_n d_Mod_heaps_66 rfl rfl ?_
          obtain ⟨v40, e41, e29⟩ := ob1_some e29
          refine wl_callV1 d_Mod_heaps_67 lc_Mod_partOf lv_Mod_401 rfl sh_312 rfl rfl ⟨rfl, rfl⟩ ⟨by decide, by decide⟩ ?_
          refine s_Mod_partOf (d := d + 3) e41 ?_
          refine wq_icmp_le 76 d_Mod_heaps_70 rfl (fun h70 => ?_) (fun h70 => ?_)
          · cases e29
            exact k36 (fun z => h70 (of_decide_eq_true z))
          · cases e29
            exact k34 (decide_eq_true h70)
      refine wp_aload_n d_Mod_heaps_35 rfl rfl ?_
      refine wl_getR d_Mod_heaps_36 lf_Mod_71 sh_312 rfl ?_
      refine wp_iload d_Mod_heaps_39 rfl ?_
      obtain ⟨v43, e42, e4⟩ := ob1_some e4
      refine wa_ald d_Mod_heaps_41 sh_332 e42 ?_
      refine wp_iload d_Mod_heaps_42 rfl ?_
      refine wq_icmp_eq 50 d_Mod_heaps_44 rfl (fun h44 => ?_) (fun h44 => ?_)
      · cases e4
        exact k9 (fun z => (fun z => z h44) (of_decide_eq_true z))
      · cases e4
        exact k7 (decide_eq_true h44)
theorem s_Mod_heaps {what_ : Int32} {M : mM} {r : Int32} {M' : mM} (h : F_Mod_heaps z what_ M = some (r, M')) (hq : Q (some (.int r)) (lay M')) : Sp X (d + 4) f_Mod_heaps [.ref 312, .int what_] (lay M) Q := by
  refine Sp_of (by decide) rfl (Nat.le_of_ble_eq_true rfl) ?_
  refine wp_aload_n d_Mod_heaps_0 rfl rfl ?_
  refine wp_iconst d_Mod_heaps_1 (v := nI 0) rfl ?_
  refine wl_putC d_Mod_heaps_2 lp_Mod_107 sh_312 rfl ⟨rfl, rfl⟩ ?_
  refine wp_aload_n d_Mod_heaps_5 rfl rfl ?_
  refine wp_iload_n d_Mod_heaps_6 rfl rfl ?_
  refine wp_iconst d_Mod_heaps_7 (v := nI 0) rfl ?_
  refine wp_iconst d_Mod_heaps_8 (v := nI 2) rfl ?_
  refine wl_callV3 d_Mod_heaps_9 lc_Mod_isIn lv_Mod_135 rfl sh_312 rfl rfl ⟨rfl, rfl⟩ ⟨by decide, by decide⟩ ?_
  refine s_Mod_isIn (d := d + 3) rfl ?_
  refine wc_ne 17 d_Mod_heaps_12 rfl (fun h12 => ?_) (fun h12 => ?_)
  · replace h := inn h (fun z => z h12)
    refine wp_aload_n d_Mod_heaps_17 rfl rfl ?_
    obtain ⟨M1, e2, h⟩ := ob1_some h
    refine wl_callV0 d_Mod_heaps_18 lc_Mod_findsParts lv_Mod_398 rfl sh_312 rfl rfl ⟨rfl, rfl⟩ ⟨by decide, by decide⟩ ?_
    refine s_Mod_findsParts (d := d) e2 ?_
    refine wp_iconst d_Mod_heaps_21 (v := nI 0) rfl ?_
    refine wp_istore_n d_Mod_heaps_22 rfl (by decide) ?_
    refine wp_iconst d_Mod_heaps_23 (v := (-1)) rfl ?_
    refine wp_istore_n d_Mod_heaps_24 rfl (by decide) ?_
    refine wp_iconst d_Mod_heaps_25 (v := nI 0) rfl ?_
    refine wp_istore d_Mod_heaps_26 (by decide) ?_
    obtain ⟨n_44, best_45, e83, h⟩ := ob2_some h
    refine l_Mod_heaps_1 ?_ _ _ _ _ e83
    intro u4
    obtain ⟨v64, e65, h⟩ := ob1_some h
    have k63 : ∀ u4 : Value, wp X (d + 4) f_Mod_heaps (0, 0) 113 [.ref 312, .int what_, .int n_44, .int best_45, u4] [.int v64] (lay M1) Q := by
      intro u4
      cases h
      exact wp_iret d_Mod_heaps_113 rfl rfl rfl hq
    refine wp_iload_n d_Mod_heaps_82 rfl rfl ?_
    refine wz_ne 90 d_Mod_heaps_83 rfl (fun h83 => ?_) (fun h83 => ?_)
    · replace e65 := inn e65 h83
      obtain ⟨v74, e75, e65⟩ := ob1_some e65
      have k73 : ∀ u4 : Value, wp X (d + 4) f_Mod_heaps (0, 0) 113 [.ref 312, .int what_, .int n_44, .int best_45, u4] [.int v74] (lay M1) Q := by
        intro u4
        cases e65
        exact k63 _
      refine wp_iload_n d_Mod_heaps_90 rfl rfl ?_
      refine wp_iconst d_Mod_heaps_91 (v := nI 2) rfl ?_
      refine wq_icmp_ne 99 d_Mod_heaps_92 rfl (fun h92 => ?_) (fun h92 => ?_)
      · replace e75 := inn e75 h92
        obtain ⟨v79, e80, e75⟩ := ob1_some e75
        have k78 : ∀ u4 : Value, wp X (d + 4) f_Mod_heaps (0, 0) 113 [.ref 312, .int what_, .int n_44, .int best_45, u4] [.int v79] (lay M1) Q := by
          intro u4
          cases e75
          exact k73 _
        refine wp_iload_n d_Mod_heaps_99 rfl rfl ?_
        refine wp_iconst d_Mod_heaps_100 (v := (-1)) rfl ?_
        refine wq_icmp_ne 108 d_Mod_heaps_101 rfl (fun h101 => ?_) (fun h101 => ?_)
        · replace e80 := inn e80 h101
          refine wp_aload_n d_Mod_heaps_108 rfl rfl ?_
          refine wp_iload_n d_Mod_heaps_109 rfl rfl ?_
          obtain ⟨v81, e82, e80⟩ := ob1_some e80
          refine wl_callV1 d_Mod_heaps_110 lc_Mod_partOf lv_Mod_401 rfl sh_312 rfl rfl ⟨rfl, rfl⟩ ⟨by decide, by decide⟩ ?_
          refine s_Mod_partOf (d := d + 3) e82 ?_
          cases e80
          exact k78 _
        · replace e80 := ip e80 h101
          refine wp_iconst d_Mod_heaps_104 (v := nI 0) rfl ?_
          cases e80
          refine wp_goto 113 d_Mod_heaps_105 rfl ?_
          exact k78 _
      · replace e75 := ip e75 h92
        refine wp_iload_n d_Mod_heaps_95 rfl rfl ?_
        cases e75
        refine wp_goto 113 d_Mod_heaps_96 rfl ?_
        exact k73 _
    · replace e65 := ip e65 h83
      refine wp_iload_n d_Mod_heaps_86 rfl rfl ?_
      cases e65
      refine wp_goto 113 d_Mod_heaps_87 rfl ?_
      exact k63 _
  · replace h := ip h h12
    refine wp_iconst d_Mod_heaps_15 (v := (-1)) rfl ?_
    cases h
    exact wp_iret d_Mod_heaps_16 rfl rfl rfl hq
def F_Mod_kind (v_ : Int32) (M : mM) : Option (Int32 × mM) :=
  if v_ = (-1) then
  ob1 (some (up M 312 39 (nI 0))) fun M7 =>
  some (nI 0, M7)
  else
  if (¬ ((F_Mod_isIn v_ (nI 0) (nI 5)) = true) ∨ (M 312 39) = (nI 8)) then
  some ((-1), M)
  else
  ob1 (wa M 333 8 (M 312 39) v_) fun M4 =>
  ob1 (some (up M4 312 39 ((M4 312 39) + (nI 1)))) fun M5 =>
  some (M5 312 39, M5)
theorem s_Mod_kind {v_ : Int32} {M : mM} {r : Int32} {M' : mM} (h : F_Mod_kind v_ M = some (r, M')) (hq : Q (some (.int r)) (lay M')) : Sp X (d + 1) f_Mod_kind [.ref 312, .int v_] (lay M) Q := by
  refine Sp_of (by decide) rfl (Nat.le_of_ble_eq_true rfl) ?_
  refine wp_aload_n d_Mod_kind_0 rfl rfl ?_
  refine wp_iconst d_Mod_kind_1 (v := nI 0) rfl ?_
  refine wl_putC d_Mod_kind_2 lp_Mod_107 sh_312 rfl ⟨rfl, rfl⟩ ?_
  refine wp_iload_n d_Mod_kind_5 rfl rfl ?_
  refine wp_iconst d_Mod_kind_6 (v := (-1)) rfl ?_
  refine wq_icmp_ne 17 d_Mod_kind_7 rfl (fun h7 => ?_) (fun h7 => ?_)
  · replace h := inn h h7
    have k1 : (¬ ((F_Mod_isIn v_ (nI 0) (nI 5)) = true) ∨ (M 312 39) = (nI 8)) → wp X (d + 1) f_Mod_kind (0, 0) 36 [.ref 312, .int v_] [] (lay M) Q := by
      intro x2
      replace h := ip h x2
      refine wp_iconst d_Mod_kind_36 (v := (-1)) rfl ?_
      cases h
      exact wp_iret d_Mod_kind_37 rfl rfl rfl hq
    refine wp_aload_n d_Mod_kind_17 rfl rfl ?_
    refine wp_iload_n d_Mod_kind_18 rfl rfl ?_
    refine wp_iconst d_Mod_kind_19 (v := nI 0) rfl ?_
    refine wp_iconst d_Mod_kind_20 (v := nI 5) rfl ?_
    refine wl_callV3 d_Mod_kind_21 lc_Mod_isIn lv_Mod_135 rfl sh_312 rfl rfl ⟨rfl, rfl⟩ ⟨by decide, by decide⟩ ?_
    refine s_Mod_isIn (d := d) rfl ?_
    refine wc_eq 36 d_Mod_kind_24 rfl (fun h24 => ?_) (fun h24 => ?_)
    · exact k1 (Or.inl h24)
    · refine wp_aload_n d_Mod_kind_27 rfl rfl ?_
      refine wl_getI d_Mod_kind_28 lf_Mod_404 sh_312 rfl rfl ?_
      refine wp_bipush d_Mod_kind_31 (v := nI 8) rfl ?_
      refine wq_icmp_ne 38 d_Mod_kind_33 rfl (fun h33 => ?_) (fun h33 => ?_)
      · replace h := inn h (fun z => z.elim (fun z => z h24) h33)
        refine wp_aload_n d_Mod_kind_38 rfl rfl ?_
        refine wl_getR d_Mod_kind_39 lf_Mod_74 sh_312 rfl ?_
        refine wp_aload_n d_Mod_kind_42 rfl rfl ?_
        refine wl_getI d_Mod_kind_43 lf_Mod_404 sh_312 rfl rfl ?_
        refine wp_iload_n d_Mod_kind_46 rfl rfl ?_
        obtain ⟨M4, e3, h⟩ := ob1_some h
        refine wa_ast d_Mod_kind_47 sh_333 e3 ?_
        refine wp_aload_n d_Mod_kind_48 rfl rfl ?_
        refine wp_aload_n d_Mod_kind_49 rfl rfl ?_
        refine wl_getI d_Mod_kind_50 lf_Mod_404 sh_312 rfl rfl ?_
        refine wp_iconst d_Mod_kind_53 (v := nI 1) rfl ?_
        refine wp_iadd d_Mod_kind_54 ?_
        refine wl_put d_Mod_kind_55 lp_Mod_404 sh_312 rfl ⟨rfl, rfl⟩ ?_
        obtain ⟨M5, e6, h⟩ := ob1_some h
        refine wx_M e6 ?_
        refine wp_aload_n d_Mod_kind_58 rfl rfl ?_
        refine wl_getI d_Mod_kind_59 lf_Mod_404 sh_312 rfl rfl ?_
        cases h
        exact wp_iret d_Mod_kind_62 rfl rfl rfl hq
      · exact k1 (Or.inr h33)
  · replace h := ip h h7
    refine wp_aload_n d_Mod_kind_10 rfl rfl ?_
    refine wp_iconst d_Mod_kind_11 (v := nI 0) rfl ?_
    refine wl_put d_Mod_kind_12 lp_Mod_404 sh_312 rfl ⟨rfl, rfl⟩ ?_
    obtain ⟨M7, e8, h⟩ := ob1_some h
    refine wx_M e8 ?_
    refine wp_iconst d_Mod_kind_15 (v := nI 0) rfl ?_
    cases h
    exact wp_iret d_Mod_kind_16 rfl rfl rfl hq
def L_Mod_sayingWays_1 (z : Nat) : Nat → Int32 → mM → Option (mM)
  | 0, _, _ => none
  | n + 1, k_, M =>
    if k_ < (nI 16) then
    ob1 (some ((if k_ = (nI 0) then nI 1 else nI 0))) fun v2 =>
    ob1 (wa M 334 16 k_ v2) fun M5 =>
    L_Mod_sayingWays_1 z n (k_ + nI 1) M5
    else
    some (M)
def L_Mod_sayingWays_3 (z : Nat) (kind_ : Int32) : Nat → Int32 → mM → Option (mM)
  | 0, _, _ => none
  | n + 1, k_, M =>
    if (nI 0) < k_ then
    ob1 (ob1 (ob1 (ra M 333 8 (k_ - (nI 1))) fun v55 =>
    some (decide (v55 = kind_))) fun x40 =>
    if x40 = true then
    ob1 (ra M 334 16 k_) fun v47 =>
    ob1 (ra M 334 16 (k_ - (nI 1))) fun v49 =>
    ob1 (wa M 334 16 k_ (F_Mod_added v47 v49)) fun M51 =>
    some (M51)
    else
    some (M)) fun M38 =>
    L_Mod_sayingWays_3 z kind_ n (k_ + (-1)) M38
    else
    some (M)
def L_Mod_sayingWays_2 (z : Nat) : Nat → Int32 → mM → Option (mM)
  | 0, _, _ => none
  | n + 1, i_, M =>
    if i_ < (nI 60) then
    ob1 (ob1 (ob1 (F_Mod_isTaken z i_ M) fun v60 =>
    some (v60)) fun x58 => some (!x58)) fun x7 =>
    if x7 = true then
    L_Mod_sayingWays_2 z n (i_ + nI 1) M
    else
    ob1 (F_Mod_stuckAt z i_ M) fun v17 =>
    ob1 (ra M 313 270 ((F_Mod_thingAt v17) + (nI 1))) fun v20 =>
    ob1 (L_Mod_sayingWays_3 z v20 z (M 312 39) M) fun M56 =>
    L_Mod_sayingWays_2 z n (i_ + nI 1) M56
    else
    some (M)
def F_Mod_sayingWays (z : Nat) (M : mM) : Option (Int32 × mM) :=
  ob1 (L_Mod_sayingWays_1 z z (nI 0) M) fun M6 =>
  ob1 (L_Mod_sayingWays_2 z z (nI 0) M6) fun M62 =>
  ob1 (ra M62 334 16 (M62 312 39)) fun v64 =>
  some (v64, M62)
theorem l_Mod_sayingWays_1  {N' : mM} (K : ∀ u1 u2 u3 : Value, wp X (d + 3) f_Mod_sayingWays (0, 0) 29 [.ref 312, u1, u2, u3] [] (lay N') Q) : ∀ (n : Nat) (k_ : Int32) (M : mM) (u2 u3 : Value), L_Mod_sayingWays_1 z n k_ M = some (N') → wp X (d + 3) f_Mod_sayingWays (0, 0) 2 [.ref 312, .int k_, u2, u3] [] (lay M) Q := by
  intro n
  induction n with
  | zero => intro k_ M u2 u3 h; exact nn h
  | succ n ih =>
    intro k_ M u2 u3 h
    refine wp_iload_n d_Mod_sayingWays_2 rfl rfl ?_
    refine wp_bipush d_Mod_sayingWays_3 (v := nI 16) rfl ?_
    refine wq_icmp_ge 29 d_Mod_sayingWays_5 rfl (fun h5 => ?_) (fun h5 => ?_)
    · replace h := inn h h5
      cases h
      exact K _ _ _
    · replace h := ip h h5
      refine wp_aload_n d_Mod_sayingWays_8 rfl rfl ?_
      refine wl_getR d_Mod_sayingWays_9 lf_Mod_77 sh_312 rfl ?_
      refine wp_iload_n d_Mod_sayingWays_12 rfl rfl ?_
      have k1 : ∀ u2 u3 : Value, wp X (d + 3) f_Mod_sayingWays (0, 0) 22 [.ref 312, .int k_, u2, u3] [.int (if k_ = (nI 0) then nI 1 else nI 0), .int k_, .ref 334] (lay M) Q := by
        intro u2 u3
        obtain ⟨v2, e3, h⟩ := ob1_some h
        refine wx_int e3 ?_
        obtain ⟨M5, e4, h⟩ := ob1_some h
        refine wa_ast d_Mod_sayingWays_22 sh_334 e4 ?_
        refine wp_iinc d_Mod_sayingWays_23 (v := k_ + nI 1) rfl rfl ?_
        refine wp_goto 2 d_Mod_sayingWays_26 rfl ?_
        exact ih _ _ _ _ h
      refine wp_iload_n d_Mod_sayingWays_13 rfl rfl ?_
      refine wz_ne 21 d_Mod_sayingWays_14 rfl (fun h14 => ?_) (fun h14 => ?_)
      · refine wp_iconst d_Mod_sayingWays_21 (v := nI 0) rfl ?_
        exact wj_in h14 (k1 _ _)
      · refine wp_iconst d_Mod_sayingWays_17 (v := nI 1) rfl ?_
        refine wp_goto 22 d_Mod_sayingWays_18 rfl ?_
        exact wj_ip h14 (k1 _ _)
theorem l_Mod_sayingWays_3 {kind_ : Int32}  {q1 : Value} {N' : mM} (K : ∀ u3 : Value, wp X (d + 3) f_Mod_sayingWays (0, 0) 116 [.ref 312, q1, .int kind_, u3] [] (lay N') Q) : ∀ (n : Nat) (k_ : Int32) (M : mM), L_Mod_sayingWays_3 z kind_ n k_ M = some (N') → wp X (d + 3) f_Mod_sayingWays (0, 0) 70 [.ref 312, q1, .int kind_, .int k_] [] (lay M) Q := by
  intro n
  induction n with
  | zero => intro k_ M h; exact nn h
  | succ n ih =>
    intro k_ M h
    refine wp_iload_n d_Mod_sayingWays_70 rfl rfl ?_
    refine wz_le 116 d_Mod_sayingWays_71 rfl (fun h71 => ?_) (fun h71 => ?_)
    · replace h := inn h h71
      cases h
      exact K _
    · replace h := ip h h71
      obtain ⟨M38, e39, h⟩ := ob1_some h
      have k37 : wp X (d + 3) f_Mod_sayingWays (0, 0) 110 [.ref 312, q1, .int kind_, .int k_] [] (lay M38) Q := by
        refine wp_iinc d_Mod_sayingWays_110 (v := k_ + (-1)) rfl rfl ?_
        refine wp_goto 70 d_Mod_sayingWays_113 rfl ?_
        exact ih _ _ h
      obtain ⟨x40, e41, e39⟩ := ob1_some e39
      have k44 : x40 = true → wp X (d + 3) f_Mod_sayingWays (0, 0) 86 [.ref 312, q1, .int kind_, .int k_] [] (lay M) Q := by
        intro x45
        replace e39 := ip e39 x45
        refine wp_aload_n d_Mod_sayingWays_86 rfl rfl ?_
        refine wl_getR d_Mod_sayingWays_87 lf_Mod_77 sh_312 rfl ?_
        refine wp_iload_n d_Mod_sayingWays_90 rfl rfl ?_
        refine wp_aload_n d_Mod_sayingWays_91 rfl rfl ?_
        refine wp_aload_n d_Mod_sayingWays_92 rfl rfl ?_
        refine wl_getR d_Mod_sayingWays_93 lf_Mod_77 sh_312 rfl ?_
        refine wp_iload_n d_Mod_sayingWays_96 rfl rfl ?_
        obtain ⟨v47, e46, e39⟩ := ob1_some e39
        refine wa_ald d_Mod_sayingWays_97 sh_334 e46 ?_
        refine wp_aload_n d_Mod_sayingWays_98 rfl rfl ?_
        refine wl_getR d_Mod_sayingWays_99 lf_Mod_77 sh_312 rfl ?_
        refine wp_iload_n d_Mod_sayingWays_102 rfl rfl ?_
        refine wp_iconst d_Mod_sayingWays_103 (v := nI 1) rfl ?_
        refine wp_isub d_Mod_sayingWays_104 ?_
        obtain ⟨v49, e48, e39⟩ := ob1_some e39
        refine wa_ald d_Mod_sayingWays_105 sh_334 e48 ?_
        refine wl_callV2 d_Mod_sayingWays_106 lc_Mod_added lv_Mod_407 rfl sh_312 rfl rfl ⟨rfl, rfl⟩ ⟨by decide, by decide⟩ ?_
        refine s_Mod_added (d := d + 2) rfl ?_
        obtain ⟨M51, e50, e39⟩ := ob1_some e39
        refine wa_ast d_Mod_sayingWays_109 sh_334 e50 ?_
        cases e39
        exact k37
      have k52 : ¬ x40 = true → wp X (d + 3) f_Mod_sayingWays (0, 0) 110 [.ref 312, q1, .int kind_, .int k_] [] (lay M) Q := by
        intro x53
        replace e39 := inn e39 x53
        cases e39
        exact k37
      refine wp_aload_n d_Mod_sayingWays_74 rfl rfl ?_
      refine wl_getR d_Mod_sayingWays_75 lf_Mod_74 sh_312 rfl ?_
      refine wp_iload_n d_Mod_sayingWays_78 rfl rfl ?_
      refine wp_iconst d_Mod_sayingWays_79 (v := nI 1) rfl ?_
      refine wp_isub d_Mod_sayingWays_80 ?_
      obtain ⟨v55, e54, e41⟩ := ob1_some e41
      refine wa_ald d_Mod_sayingWays_81 sh_333 e54 ?_
      refine wp_iload_n d_Mod_sayingWays_82 rfl rfl ?_
      refine wq_icmp_ne 110 d_Mod_sayingWays_83 rfl (fun h83 => ?_) (fun h83 => ?_)
      · cases e41
        exact k52 (fun z => h83 (of_decide_eq_true z))
      · cases e41
        exact k44 (decide_eq_true h83)
theorem l_Mod_sayingWays_2  {N' : mM} (K : ∀ u1 u2 u3 : Value, wp X (d + 3) f_Mod_sayingWays (0, 0) 122 [.ref 312, u1, u2, u3] [] (lay N') Q) : ∀ (n : Nat) (i_ : Int32) (M : mM) (u2 u3 : Value), L_Mod_sayingWays_2 z n i_ M = some (N') → wp X (d + 3) f_Mod_sayingWays (0, 0) 31 [.ref 312, .int i_, u2, u3] [] (lay M) Q := by
  intro n
  induction n with
  | zero => intro i_ M u2 u3 h; exact nn h
  | succ n ih =>
    intro i_ M u2 u3 h
    refine wp_iload_n d_Mod_sayingWays_31 rfl rfl ?_
    refine wp_bipush d_Mod_sayingWays_32 (v := nI 60) rfl ?_
    refine wq_icmp_ge 122 d_Mod_sayingWays_34 rfl (fun h34 => ?_) (fun h34 => ?_)
    · replace h := inn h h34
      cases h
      exact K _ _ _
    · replace h := ip h h34
      obtain ⟨x7, e8, h⟩ := ob1_some h
      have k13 : ∀ u2 u3 : Value, x7 = true → wp X (d + 3) f_Mod_sayingWays (0, 0) 45 [.ref 312, .int i_, u2, u3] [] (lay M) Q := by
        intro u2 u3 x14
        replace h := ip h x14
        refine wp_goto 116 d_Mod_sayingWays_45 rfl ?_
        refine wp_iinc d_Mod_sayingWays_116 (v := i_ + nI 1) rfl rfl ?_
        refine wp_goto 31 d_Mod_sayingWays_119 rfl ?_
        exact ih _ _ _ _ h
      have k15 : ∀ u2 u3 : Value, ¬ x7 = true → wp X (d + 3) f_Mod_sayingWays (0, 0) 48 [.ref 312, .int i_, u2, u3] [] (lay M) Q := by
        intro u2 u3 x16
        replace h := inn h x16
        refine wp_aload_n d_Mod_sayingWays_48 rfl rfl ?_
        refine wl_getR d_Mod_sayingWays_49 lf_Mod_7 sh_312 rfl ?_
        refine wp_aload_n d_Mod_sayingWays_52 rfl rfl ?_
        refine wp_aload_n d_Mod_sayingWays_53 rfl rfl ?_
        refine wp_iload_n d_Mod_sayingWays_54 rfl rfl ?_
        obtain ⟨v17, e18, h⟩ := ob1_some h
        refine wl_callV1 d_Mod_sayingWays_55 lc_Mod_stuckAt lv_Mod_128 rfl sh_312 rfl rfl ⟨rfl, rfl⟩ ⟨by decide, by decide⟩ ?_
        refine s_Mod_stuckAt (d := d + 1) e18 ?_
        refine wl_callV1 d_Mod_sayingWays_58 lc_Mod_thingAt lv_Mod_124 rfl sh_312 rfl rfl ⟨rfl, rfl⟩ ⟨by decide, by decide⟩ ?_
        refine s_Mod_thingAt (d := d + 2) rfl ?_
        refine wp_iconst d_Mod_sayingWays_61 (v := nI 1) rfl ?_
        refine wp_iadd d_Mod_sayingWays_62 ?_
        obtain ⟨v20, e19, h⟩ := ob1_some h
        refine wa_ald d_Mod_sayingWays_63 sh_313 e19 ?_
        refine wp_istore_n d_Mod_sayingWays_64 rfl (by decide) ?_
        refine wp_aload_n d_Mod_sayingWays_65 rfl rfl ?_
        refine wl_getI d_Mod_sayingWays_66 lf_Mod_404 sh_312 rfl rfl ?_
        refine wp_istore_n d_Mod_sayingWays_69 rfl (by decide) ?_
        obtain ⟨M56, e57, h⟩ := ob1_some h
        refine l_Mod_sayingWays_3 ?_ _ _ _ e57
        intro u3
        refine wp_iinc d_Mod_sayingWays_116 (v := i_ + nI 1) rfl rfl ?_
        refine wp_goto 31 d_Mod_sayingWays_119 rfl ?_
        exact ih _ _ _ _ h
      obtain ⟨x58, e59, e8⟩ := ob1_some e8
      cases e8
      refine wp_aload_n d_Mod_sayingWays_37 rfl rfl ?_
      refine wp_iload_n d_Mod_sayingWays_38 rfl rfl ?_
      obtain ⟨v60, e61, e59⟩ := ob1_some e59
      refine wl_callV1 d_Mod_sayingWays_39 lc_Mod_isTaken lv_Mod_332 rfl sh_312 rfl rfl ⟨rfl, rfl⟩ ⟨by decide, by decide⟩ ?_
      refine s_Mod_isTaken (d := d) e61 ?_
      refine wc_ne 48 d_Mod_sayingWays_42 rfl (fun h42 => ?_) (fun h42 => ?_)
      · cases e59
        exact k15 _ _ (nb_t h42)
      · cases e59
        exact k13 _ _ (nb_f h42)
theorem s_Mod_sayingWays {M : mM} {r : Int32} {M' : mM} (h : F_Mod_sayingWays z M = some (r, M')) (hq : Q (some (.int r)) (lay M')) : Sp X (d + 3) f_Mod_sayingWays [.ref 312] (lay M) Q := by
  refine Sp_of (by decide) rfl (Nat.le_of_ble_eq_true rfl) ?_
  refine wp_iconst d_Mod_sayingWays_0 (v := nI 0) rfl ?_
  refine wp_istore_n d_Mod_sayingWays_1 rfl (by decide) ?_
  obtain ⟨M6, e66, h⟩ := ob1_some h
  refine l_Mod_sayingWays_1 ?_ _ _ _ _ _ e66
  intro u1 u2 u3
  refine wp_iconst d_Mod_sayingWays_29 (v := nI 0) rfl ?_
  refine wp_istore_n d_Mod_sayingWays_30 rfl (by decide) ?_
  obtain ⟨M62, e65, h⟩ := ob1_some h
  refine l_Mod_sayingWays_2 ?_ _ _ _ _ _ e65
  intro u1 u2 u3
  refine wp_aload_n d_Mod_sayingWays_122 rfl rfl ?_
  refine wl_getR d_Mod_sayingWays_123 lf_Mod_77 sh_312 rfl ?_
  refine wp_aload_n d_Mod_sayingWays_126 rfl rfl ?_
  refine wl_getI d_Mod_sayingWays_127 lf_Mod_404 sh_312 rfl rfl ?_
  obtain ⟨v64, e63, h⟩ := ob1_some h
  refine wa_ald d_Mod_sayingWays_130 sh_334 e63 ?_
  cases h
  exact wp_iret d_Mod_sayingWays_131 rfl rfl rfl hq
def L_Mod_doesSay_1 (z : Nat) (M : mM) : Nat → Int32 → Int32 → Option (Int32)
  | 0, _, _ => none
  | n + 1, k_, i_ =>
    if (i_ < (nI 60) ∧ k_ < (M 312 39)) then
    ob1 (ob1 (ob1 (ob1 (F_Mod_isTaken z i_ M) fun v80 =>
    some (v80)) fun x66 =>
    if x66 = true then ob1 (F_Mod_stuckAt z i_ M) fun v72 =>
    ob1 (ra M 313 270 ((F_Mod_thingAt v72) + (nI 1))) fun v75 =>
    ob1 (ra M 333 8 k_) fun v77 =>
    some (decide (v75 = v77))
    else some (false)) fun x44 =>
    if x44 = true then
    some (k_ + (nI 1))
    else
    some (k_)) fun k_42 =>
    L_Mod_doesSay_1 z M n k_42 (i_ + nI 1)
    else
    some (k_)
def F_Mod_doesSay (z : Nat) (M : mM) : Option (Bool) :=
  ob1 (L_Mod_doesSay_1 z M z (nI 0) (nI 0)) fun k_82 =>
  some (decide (k_82 = (M 312 39)))
theorem l_Mod_doesSay_1 {M : mM}  {k_r : Int32} (K : ∀ u2 : Value, wp X (d + 3) f_Mod_doesSay (0, 0) 61 [.ref 312, .int k_r, u2] [] (lay M) Q) : ∀ (n : Nat) (k_ : Int32) (i_ : Int32), L_Mod_doesSay_1 z M n k_ i_ = some (k_r) → wp X (d + 3) f_Mod_doesSay (0, 0) 4 [.ref 312, .int k_, .int i_] [] (lay M) Q := by
  intro n
  induction n with
  | zero => intro k_ i_ h; exact nn h
  | succ n ih =>
    intro k_ i_ h
    have k1 : ¬ (i_ < (nI 60) ∧ k_ < (M 312 39)) → wp X (d + 3) f_Mod_doesSay (0, 0) 61 [.ref 312, .int k_, .int i_] [] (lay M) Q := by
      intro x2
      replace h := inn h x2
      cases h
      exact K _
    refine wp_iload_n d_Mod_doesSay_4 rfl rfl ?_
    refine wp_bipush d_Mod_doesSay_5 (v := nI 60) rfl ?_
    refine wq_icmp_ge 61 d_Mod_doesSay_7 rfl (fun h7 => ?_) (fun h7 => ?_)
    · exact k1 (fun z => h7 z.1)
    · refine wp_iload_n d_Mod_doesSay_10 rfl rfl ?_
      refine wp_aload_n d_Mod_doesSay_11 rfl rfl ?_
      refine wl_getI d_Mod_doesSay_12 lf_Mod_404 sh_312 rfl rfl ?_
      refine wq_icmp_ge 61 d_Mod_doesSay_15 rfl (fun h15 => ?_) (fun h15 => ?_)
      · exact k1 (fun z => h15 z.2)
      · replace h := ip h ⟨h7, h15⟩
        obtain ⟨k_42, e43, h⟩ := ob1_some h
        have k41 : wp X (d + 3) f_Mod_doesSay (0, 0) 55 [.ref 312, .int k_42, .int i_] [] (lay M) Q := by
          refine wp_iinc d_Mod_doesSay_55 (v := i_ + nI 1) rfl rfl ?_
          refine wp_goto 4 d_Mod_doesSay_58 rfl ?_
          exact ih _ _ h
        obtain ⟨x44, e45, e43⟩ := ob1_some e43
        have k62 : x44 = true → wp X (d + 3) f_Mod_doesSay (0, 0) 51 [.ref 312, .int k_, .int i_] [] (lay M) Q := by
          intro x63
          replace e43 := ip e43 x63
          refine wp_iload_n d_Mod_doesSay_51 rfl rfl ?_
          refine wp_iconst d_Mod_doesSay_52 (v := nI 1) rfl ?_
          refine wp_iadd d_Mod_doesSay_53 ?_
          refine wp_istore_n d_Mod_doesSay_54 rfl (by decide) ?_
          cases e43
          exact k41
        have k64 : ¬ x44 = true → wp X (d + 3) f_Mod_doesSay (0, 0) 55 [.ref 312, .int k_, .int i_] [] (lay M) Q := by
          intro x65
          replace e43 := inn e43 x65
          cases e43
          exact k41
        obtain ⟨x66, e67, e45⟩ := ob1_some e45
        have k70 : x66 = true → wp X (d + 3) f_Mod_doesSay (0, 0) 26 [.ref 312, .int k_, .int i_] [] (lay M) Q := by
          intro x71
          replace e45 := ip e45 x71
          refine wp_aload_n d_Mod_doesSay_26 rfl rfl ?_
          refine wl_getR d_Mod_doesSay_27 lf_Mod_7 sh_312 rfl ?_
          refine wp_aload_n d_Mod_doesSay_30 rfl rfl ?_
          refine wp_aload_n d_Mod_doesSay_31 rfl rfl ?_
          refine wp_iload_n d_Mod_doesSay_32 rfl rfl ?_
          obtain ⟨v72, e73, e45⟩ := ob1_some e45
          refine wl_callV1 d_Mod_doesSay_33 lc_Mod_stuckAt lv_Mod_128 rfl sh_312 rfl rfl ⟨rfl, rfl⟩ ⟨by decide, by decide⟩ ?_
          refine s_Mod_stuckAt (d := d + 1) e73 ?_
          refine wl_callV1 d_Mod_doesSay_36 lc_Mod_thingAt lv_Mod_124 rfl sh_312 rfl rfl ⟨rfl, rfl⟩ ⟨by decide, by decide⟩ ?_
          refine s_Mod_thingAt (d := d + 2) rfl ?_
          refine wp_iconst d_Mod_doesSay_39 (v := nI 1) rfl ?_
          refine wp_iadd d_Mod_doesSay_40 ?_
          obtain ⟨v75, e74, e45⟩ := ob1_some e45
          refine wa_ald d_Mod_doesSay_41 sh_313 e74 ?_
          refine wp_aload_n d_Mod_doesSay_42 rfl rfl ?_
          refine wl_getR d_Mod_doesSay_43 lf_Mod_74 sh_312 rfl ?_
          refine wp_iload_n d_Mod_doesSay_46 rfl rfl ?_
          obtain ⟨v77, e76, e45⟩ := ob1_some e45
          refine wa_ald d_Mod_doesSay_47 sh_333 e76 ?_
          refine wq_icmp_ne 55 d_Mod_doesSay_48 rfl (fun h48 => ?_) (fun h48 => ?_)
          · cases e45
            exact k64 (fun z => h48 (of_decide_eq_true z))
          · cases e45
            exact k62 (decide_eq_true h48)
        have k78 : ¬ x66 = true → wp X (d + 3) f_Mod_doesSay (0, 0) 55 [.ref 312, .int k_, .int i_] [] (lay M) Q := by
          intro x79
          replace e45 := inn e45 x79
          cases e45
          exact k64 (fun z => Bool.noConfusion z)
        refine wp_aload_n d_Mod_doesSay_18 rfl rfl ?_
        refine wp_iload_n d_Mod_doesSay_19 rfl rfl ?_
        obtain ⟨v80, e81, e67⟩ := ob1_some e67
        refine wl_callV1 d_Mod_doesSay_20 lc_Mod_isTaken lv_Mod_332 rfl sh_312 rfl rfl ⟨rfl, rfl⟩ ⟨by decide, by decide⟩ ?_
        refine s_Mod_isTaken (d := d) e81 ?_
        refine wc_eq 55 d_Mod_doesSay_23 rfl (fun h23 => ?_) (fun h23 => ?_)
        · cases e67
          exact k78 h23
        · cases e67
          exact k70 h23
theorem s_Mod_doesSay {M : mM} {r : Bool} (h : F_Mod_doesSay z M = some r) (hq : Q (some (.int (bI r))) (lay M)) : Sp X (d + 3) f_Mod_doesSay [.ref 312] (lay M) Q := by
  refine Sp_of (by decide) rfl (Nat.le_of_ble_eq_true rfl) ?_
  refine wp_iconst d_Mod_doesSay_0 (v := nI 0) rfl ?_
  refine wp_istore_n d_Mod_doesSay_1 rfl (by decide) ?_
  refine wp_iconst d_Mod_doesSay_2 (v := nI 0) rfl ?_
  refine wp_istore_n d_Mod_doesSay_3 rfl (by decide) ?_
  obtain ⟨k_82, e84, h⟩ := ob1_some h
  refine l_Mod_doesSay_1 ?_ _ _ _ e84
  intro u2
  have k83 : ∀ u2 : Value, wp X (d + 3) f_Mod_doesSay (0, 0) 74 [.ref 312, .int k_82, u2] [.int (bI (decide (k_82 = (M 312 39))))] (lay M) Q := by
    intro u2
    cases h
    exact wb_iret d_Mod_doesSay_74 rfl rfl hq
  refine wp_iload_n d_Mod_doesSay_61 rfl rfl ?_
  refine wp_aload_n d_Mod_doesSay_62 rfl rfl ?_
  refine wl_getI d_Mod_doesSay_63 lf_Mod_404 sh_312 rfl rfl ?_
  refine wq_icmp_ne 73 d_Mod_doesSay_66 rfl (fun h66 => ?_) (fun h66 => ?_)
  · refine wp_iconst d_Mod_doesSay_73 (v := nI 0) rfl ?_
    exact wj_f h66 (k83 _)
  · refine wp_iconst d_Mod_doesSay_69 (v := nI 1) rfl ?_
    refine wp_goto 74 d_Mod_doesSay_70 rfl ?_
    exact wj_t h66 (k83 _)
def L_Mod_longest_2 (z : Nat) (i_ : Int32) : Nat → Int32 → mM → Option (mM)
  | 0, _, _ => none
  | n + 1, o_, M =>
    if o_ < i_ then
    ob1 (ob1 (ob1 (ob1 (F_Mod_isTaken z o_ M) fun v110 =>
    some (v110)) fun x94 =>
    if x94 = true then ob1 (F_Mod_stuckAt z o_ M) fun v100 =>
    ob1 (ra M 313 270 ((F_Mod_thingAt v100) + (nI 5))) fun v103 =>
    ob1 (F_Mod_stuckAt z i_ M) fun v104 =>
    ob1 (ra M 313 270 ((F_Mod_thingAt v104) + (nI 5))) fun v107 =>
    some (decide (v103 < v107))
    else some (false)) fun x64 =>
    if x64 = true then
    ob1 (ra M 332 60 i_) fun v87 =>
    ob1 (ra M 332 60 o_) fun v89 =>
    ob1 (wa M 332 60 i_ (F_Mod_greater v87 v89)) fun M91 =>
    some (M91)
    else
    some (M)) fun M62 =>
    L_Mod_longest_2 z i_ n (o_ + nI 1) M62
    else
    some (M)
def L_Mod_longest_1 (z : Nat) : Nat → Int32 → Int32 → mM → Option (Int32 × mM)
  | 0, _, _, _ => none
  | n + 1, most_, i_, M =>
    if i_ < (nI 60) then
    ob1 (wa M 332 60 i_ (nI 0)) fun M2 =>
    ob1 (ob1 (ob1 (F_Mod_isTaken z i_ M2) fun v122 =>
    some (v122)) fun x120 => some (!x120)) fun x3 =>
    if x3 = true then
    L_Mod_longest_1 z n most_ (i_ + nI 1) M2
    else
    ob1 (L_Mod_longest_2 z i_ z (nI 0) M2) fun M112 =>
    ob1 (ra M112 332 60 i_) fun v114 =>
    ob1 (wa M112 332 60 i_ (v114 + (nI 1))) fun M116 =>
    ob1 (ra M116 332 60 i_) fun v118 =>
    L_Mod_longest_1 z n (F_Mod_greater most_ v118) (i_ + nI 1) M116
    else
    some (most_, M)
def F_Mod_longest (z : Nat) (M : mM) : Option (Int32 × mM) :=
  ob2 (L_Mod_longest_1 z z (nI 0) (nI 0) M) fun most_124 M125 =>
  some (most_124, M125)
theorem l_Mod_longest_2 {i_ : Int32}  {q1 : Value} {N' : mM} (K : ∀ u3 : Value, wp X (d + 3) f_Mod_longest (0, 0) 106 [.ref 312, q1, .int i_, u3] [] (lay N') Q) : ∀ (n : Nat) (o_ : Int32) (M : mM), L_Mod_longest_2 z i_ n o_ M = some (N') → wp X (d + 3) f_Mod_longest (0, 0) 30 [.ref 312, q1, .int i_, .int o_] [] (lay M) Q := by
  intro n
  induction n with
  | zero => intro o_ M h; exact nn h
  | succ n ih =>
    intro o_ M h
    refine wp_iload_n d_Mod_longest_30 rfl rfl ?_
    refine wp_iload_n d_Mod_longest_31 rfl rfl ?_
    refine wq_icmp_ge 106 d_Mod_longest_32 rfl (fun h32 => ?_) (fun h32 => ?_)
    · replace h := inn h h32
      cases h
      exact K _
    · replace h := ip h h32
      obtain ⟨M62, e63, h⟩ := ob1_some h
      have k61 : wp X (d + 3) f_Mod_longest (0, 0) 100 [.ref 312, q1, .int i_, .int o_] [] (lay M62) Q := by
        refine wp_iinc d_Mod_longest_100 (v := o_ + nI 1) rfl rfl ?_
        refine wp_goto 30 d_Mod_longest_103 rfl ?_
        exact ih _ _ h
      obtain ⟨x64, e65, e63⟩ := ob1_some e63
      have k84 : x64 = true → wp X (d + 3) f_Mod_longest (0, 0) 78 [.ref 312, q1, .int i_, .int o_] [] (lay M) Q := by
        intro x85
        replace e63 := ip e63 x85
        refine wp_aload_n d_Mod_longest_78 rfl rfl ?_
        refine wl_getR d_Mod_longest_79 lf_Mod_71 sh_312 rfl ?_
        refine wp_iload_n d_Mod_longest_82 rfl rfl ?_
        refine wp_aload_n d_Mod_longest_83 rfl rfl ?_
        refine wp_aload_n d_Mod_longest_84 rfl rfl ?_
        refine wl_getR d_Mod_longest_85 lf_Mod_71 sh_312 rfl ?_
        refine wp_iload_n d_Mod_longest_88 rfl rfl ?_
        obtain ⟨v87, e86, e63⟩ := ob1_some e63
        refine wa_ald d_Mod_longest_89 sh_332 e86 ?_
        refine wp_aload_n d_Mod_longest_90 rfl rfl ?_
        refine wl_getR d_Mod_longest_91 lf_Mod_71 sh_312 rfl ?_
        refine wp_iload_n d_Mod_longest_94 rfl rfl ?_
        obtain ⟨v89, e88, e63⟩ := ob1_some e63
        refine wa_ald d_Mod_longest_95 sh_332 e88 ?_
        refine wl_callV2 d_Mod_longest_96 lc_Mod_greater lv_Mod_354 rfl sh_312 rfl rfl ⟨rfl, rfl⟩ ⟨by decide, by decide⟩ ?_
        refine s_Mod_greater (d := d + 2) rfl ?_
        obtain ⟨M91, e90, e63⟩ := ob1_some e63
        refine wa_ast d_Mod_longest_99 sh_332 e90 ?_
        cases e63
        exact k61
      have k92 : ¬ x64 = true → wp X (d + 3) f_Mod_longest (0, 0) 100 [.ref 312, q1, .int i_, .int o_] [] (lay M) Q := by
        intro x93
        replace e63 := inn e63 x93
        cases e63
        exact k61
      obtain ⟨x94, e95, e65⟩ := ob1_some e65
      have k98 : x94 = true → wp X (d + 3) f_Mod_longest (0, 0) 43 [.ref 312, q1, .int i_, .int o_] [] (lay M) Q := by
        intro x99
        replace e65 := ip e65 x99
        refine wp_aload_n d_Mod_longest_43 rfl rfl ?_
        refine wl_getR d_Mod_longest_44 lf_Mod_7 sh_312 rfl ?_
        refine wp_aload_n d_Mod_longest_47 rfl rfl ?_
        refine wp_aload_n d_Mod_longest_48 rfl rfl ?_
        refine wp_iload_n d_Mod_longest_49 rfl rfl ?_
        obtain ⟨v100, e101, e65⟩ := ob1_some e65
        refine wl_callV1 d_Mod_longest_50 lc_Mod_stuckAt lv_Mod_128 rfl sh_312 rfl rfl ⟨rfl, rfl⟩ ⟨by decide, by decide⟩ ?_
        refine s_Mod_stuckAt (d := d + 1) e101 ?_
        refine wl_callV1 d_Mod_longest_53 lc_Mod_thingAt lv_Mod_124 rfl sh_312 rfl rfl ⟨rfl, rfl⟩ ⟨by decide, by decide⟩ ?_
        refine s_Mod_thingAt (d := d + 2) rfl ?_
        refine wp_iconst d_Mod_longest_56 (v := nI 5) rfl ?_
        refine wp_iadd d_Mod_longest_57 ?_
        obtain ⟨v103, e102, e65⟩ := ob1_some e65
        refine wa_ald d_Mod_longest_58 sh_313 e102 ?_
        refine wp_aload_n d_Mod_longest_59 rfl rfl ?_
        refine wl_getR d_Mod_longest_60 lf_Mod_7 sh_312 rfl ?_
        refine wp_aload_n d_Mod_longest_63 rfl rfl ?_
        refine wp_aload_n d_Mod_longest_64 rfl rfl ?_
        refine wp_iload_n d_Mod_longest_65 rfl rfl ?_
        obtain ⟨v104, e105, e65⟩ := ob1_some e65
        refine wl_callV1 d_Mod_longest_66 lc_Mod_stuckAt lv_Mod_128 rfl sh_312 rfl rfl ⟨rfl, rfl⟩ ⟨by decide, by decide⟩ ?_
        refine s_Mod_stuckAt (d := d + 1) e105 ?_
        refine wl_callV1 d_Mod_longest_69 lc_Mod_thingAt lv_Mod_124 rfl sh_312 rfl rfl ⟨rfl, rfl⟩ ⟨by decide, by decide⟩ ?_
        refine s_Mod_thingAt (d := d + 2) rfl ?_
        refine wp_iconst d_Mod_longest_72 (v := nI 5) rfl ?_
        refine wp_iadd d_Mod_longest_73 ?_
        obtain ⟨v107, e106, e65⟩ := ob1_some e65
        refine wa_ald d_Mod_longest_74 sh_313 e106 ?_
        refine wq_icmp_ge 100 d_Mod_longest_75 rfl (fun h75 => ?_) (fun h75 => ?_)
        · cases e65
          exact k92 (fun z => h75 (of_decide_eq_true z))
        · cases e65
          exact k84 (decide_eq_true h75)
      have k108 : ¬ x94 = true → wp X (d + 3) f_Mod_longest (0, 0) 100 [.ref 312, q1, .int i_, .int o_] [] (lay M) Q := by
        intro x109
        replace e65 := inn e65 x109
        cases e65
        exact k92 (fun z => Bool.noConfusion z)
      refine wp_aload_n d_Mod_longest_35 rfl rfl ?_
      refine wp_iload_n d_Mod_longest_36 rfl rfl ?_
      obtain ⟨v110, e111, e95⟩ := ob1_some e95
      refine wl_callV1 d_Mod_longest_37 lc_Mod_isTaken lv_Mod_332 rfl sh_312 rfl rfl ⟨rfl, rfl⟩ ⟨by decide, by decide⟩ ?_
      refine s_Mod_isTaken (d := d) e111 ?_
      refine wc_eq 100 d_Mod_longest_40 rfl (fun h40 => ?_) (fun h40 => ?_)
      · cases e95
        exact k108 h40
      · cases e95
        exact k98 h40
theorem l_Mod_longest_1  {most_r : Int32} {N' : mM} (K : ∀ u2 u3 : Value, wp X (d + 3) f_Mod_longest (0, 0) 138 [.ref 312, .int most_r, u2, u3] [] (lay N') Q) : ∀ (n : Nat) (most_ : Int32) (i_ : Int32) (M : mM) (u3 : Value), L_Mod_longest_1 z n most_ i_ M = some (most_r, N') → wp X (d + 3) f_Mod_longest (0, 0) 4 [.ref 312, .int most_, .int i_, u3] [] (lay M) Q := by
  intro n
  induction n with
  | zero => intro most_ i_ M u3 h; exact nn h
  | succ n ih =>
    intro most_ i_ M u3 h
    refine wp_iload_n d_Mod_longest_4 rfl rfl ?_
    refine wp_bipush d_Mod_longest_5 (v := nI 60) rfl ?_
    refine wq_icmp_ge 138 d_Mod_longest_7 rfl (fun h7 => ?_) (fun h7 => ?_)
    · replace h := inn h h7
      cases h
      exact K _ _
    · replace h := ip h h7
      refine wp_aload_n d_Mod_longest_10 rfl rfl ?_
      refine wl_getR d_Mod_longest_11 lf_Mod_71 sh_312 rfl ?_
      refine wp_iload_n d_Mod_longest_14 rfl rfl ?_
      refine wp_iconst d_Mod_longest_15 (v := nI 0) rfl ?_
      obtain ⟨M2, e1, h⟩ := ob1_some h
      refine wa_ast d_Mod_longest_16 sh_332 e1 ?_
      obtain ⟨x3, e4, h⟩ := ob1_some h
      have k9 : ∀ u3 : Value, x3 = true → wp X (d + 3) f_Mod_longest (0, 0) 25 [.ref 312, .int most_, .int i_, u3] [] (lay M2) Q := by
        intro u3 x10
        replace h := ip h x10
        refine wp_goto 132 d_Mod_longest_25 rfl ?_
        refine wp_iinc d_Mod_longest_132 (v := i_ + nI 1) rfl rfl ?_
        refine wp_goto 4 d_Mod_longest_135 rfl ?_
        exact ih _ _ _ _ h
      have k11 : ∀ u3 : Value, ¬ x3 = true → wp X (d + 3) f_Mod_longest (0, 0) 28 [.ref 312, .int most_, .int i_, u3] [] (lay M2) Q := by
        intro u3 x12
        replace h := inn h x12
        refine wp_iconst d_Mod_longest_28 (v := nI 0) rfl ?_
        refine wp_istore_n d_Mod_longest_29 rfl (by decide) ?_
        obtain ⟨M112, e119, h⟩ := ob1_some h
        refine l_Mod_longest_2 ?_ _ _ _ e119
        intro u3
        refine wp_aload_n d_Mod_longest_106 rfl rfl ?_
        refine wl_getR d_Mod_longest_107 lf_Mod_71 sh_312 rfl ?_
        refine wp_iload_n d_Mod_longest_110 rfl rfl ?_
        refine wp_aload_n d_Mod_longest_111 rfl rfl ?_
        refine wl_getR d_Mod_longest_112 lf_Mod_71 sh_312 rfl ?_
        refine wp_iload_n d_Mod_longest_115 rfl rfl ?_
        obtain ⟨v114, e113, h⟩ := ob1_some h
        refine wa_ald d_Mod_longest_116 sh_332 e113 ?_
        refine wp_iconst d_Mod_longest_117 (v := nI 1) rfl ?_
        refine wp_iadd d_Mod_longest_118 ?_
        obtain ⟨M116, e115, h⟩ := ob1_some h
        refine wa_ast d_Mod_longest_119 sh_332 e115 ?_
        refine wp_aload_n d_Mod_longest_120 rfl rfl ?_
        refine wp_iload_n d_Mod_longest_121 rfl rfl ?_
        refine wp_aload_n d_Mod_longest_122 rfl rfl ?_
        refine wl_getR d_Mod_longest_123 lf_Mod_71 sh_312 rfl ?_
        refine wp_iload_n d_Mod_longest_126 rfl rfl ?_
        obtain ⟨v118, e117, h⟩ := ob1_some h
        refine wa_ald d_Mod_longest_127 sh_332 e117 ?_
        refine wl_callV2 d_Mod_longest_128 lc_Mod_greater lv_Mod_354 rfl sh_312 rfl rfl ⟨rfl, rfl⟩ ⟨by decide, by decide⟩ ?_
        refine s_Mod_greater (d := d + 2) rfl ?_
        refine wp_istore_n d_Mod_longest_131 rfl (by decide) ?_
        refine wp_iinc d_Mod_longest_132 (v := i_ + nI 1) rfl rfl ?_
        refine wp_goto 4 d_Mod_longest_135 rfl ?_
        exact ih _ _ _ _ h
      obtain ⟨x120, e121, e4⟩ := ob1_some e4
      cases e4
      refine wp_aload_n d_Mod_longest_17 rfl rfl ?_
      refine wp_iload_n d_Mod_longest_18 rfl rfl ?_
      obtain ⟨v122, e123, e121⟩ := ob1_some e121
      refine wl_callV1 d_Mod_longest_19 lc_Mod_isTaken lv_Mod_332 rfl sh_312 rfl rfl ⟨rfl, rfl⟩ ⟨by decide, by decide⟩ ?_
      refine s_Mod_isTaken (d := d) e123 ?_
      refine wc_ne 28 d_Mod_longest_22 rfl (fun h22 => ?_) (fun h22 => ?_)
      · cases e121
        exact k11 _ (nb_t h22)
      · cases e121
        exact k9 _ (nb_f h22)
theorem s_Mod_longest {M : mM} {r : Int32} {M' : mM} (h : F_Mod_longest z M = some (r, M')) (hq : Q (some (.int r)) (lay M')) : Sp X (d + 3) f_Mod_longest [.ref 312] (lay M) Q := by
  refine Sp_of (by decide) rfl (Nat.le_of_ble_eq_true rfl) ?_
  refine wp_iconst d_Mod_longest_0 (v := nI 0) rfl ?_
  refine wp_istore_n d_Mod_longest_1 rfl (by decide) ?_
  refine wp_iconst d_Mod_longest_2 (v := nI 0) rfl ?_
  refine wp_istore_n d_Mod_longest_3 rfl (by decide) ?_
  obtain ⟨most_124, M125, e126, h⟩ := ob2_some h
  refine l_Mod_longest_1 ?_ _ _ _ _ _ e126
  intro u2 u3
  refine wp_iload_n d_Mod_longest_138 rfl rfl ?_
  cases h
  exact wp_iret d_Mod_longest_139 rfl rfl rfl hq
end S1418
