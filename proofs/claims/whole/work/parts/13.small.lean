/-! ===== small methods ===== -/
section S13
variable {X : mXs} {d : Nat} {M : mM} {Q : Option Value → mH → Prop}
theorem c_Mod_isIn {v a b : Int32} (h : Q (some (.int (bI (inR v a b)))) (lay M)) : Sp X d f_Mod_isIn [.ref 312, .int v, .int a, .int b] (lay M) Q := by
  refine Sp_of rfl rfl (Nat.le_of_ble_eq_true rfl) ?_
  refine wp_iload_n d_Mod_isIn_0 rfl rfl ?_
  refine wp_iload_n d_Mod_isIn_1 rfl rfl ?_
  refine wq_icmp_lt 14 d_Mod_isIn_2 rfl (fun h2 => ?_) (fun h2 => ?_)
  · refine wp_iconst d_Mod_isIn_14 (v := nI 0) rfl ?_
    exact wp_iret d_Mod_isIn_15 rfl rfl rfl (qF (by simp [inR, *]) h)
  · refine wp_iload_n d_Mod_isIn_5 rfl rfl ?_
    refine wp_iload_n d_Mod_isIn_6 rfl rfl ?_
    refine wq_icmp_gt 14 d_Mod_isIn_7 rfl (fun h7 => ?_) (fun h7 => ?_)
    · refine wp_iconst d_Mod_isIn_14 (v := nI 0) rfl ?_
      exact wp_iret d_Mod_isIn_15 rfl rfl rfl (qF (by simp [inR, *]) h)
    · refine wp_iconst d_Mod_isIn_10 (v := nI 1) rfl ?_
      refine wp_goto 15 d_Mod_isIn_11 rfl ?_
      exact wp_iret d_Mod_isIn_15 rfl rfl rfl (qT (by simp [inR, *]) h)
theorem c_Rec_within {v a b : Int32} (h : Q (some (.int (bI (inR v a b)))) (lay M)) : Sp X d f_Rec_within [.int v, .int a, .int b] (lay M) Q := by
  refine Sp_of rfl rfl (Nat.le_of_ble_eq_true rfl) ?_
  refine wp_iload_n d_Rec_within_0 rfl rfl ?_
  refine wp_iload_n d_Rec_within_1 rfl rfl ?_
  refine wq_icmp_lt 14 d_Rec_within_2 rfl (fun h2 => ?_) (fun h2 => ?_)
  · refine wp_iconst d_Rec_within_14 (v := nI 0) rfl ?_
    exact wp_iret d_Rec_within_15 rfl rfl rfl (qF (by simp [inR, *]) h)
  · refine wp_iload_n d_Rec_within_5 rfl rfl ?_
    refine wp_iload_n d_Rec_within_6 rfl rfl ?_
    refine wq_icmp_gt 14 d_Rec_within_7 rfl (fun h7 => ?_) (fun h7 => ?_)
    · refine wp_iconst d_Rec_within_14 (v := nI 0) rfl ?_
      exact wp_iret d_Rec_within_15 rfl rfl rfl (qF (by simp [inR, *]) h)
    · refine wp_iconst d_Rec_within_10 (v := nI 1) rfl ?_
      refine wp_goto 15 d_Rec_within_11 rfl ?_
      exact wp_iret d_Rec_within_15 rfl rfl rfl (qT (by simp [inR, *]) h)
theorem c_Mod_thingAt {t : Nat} (h : Q (some (.int (nI (130 + 7 * t)))) (lay M)) : Sp X d f_Mod_thingAt [.ref 312, .int (nI t)] (lay M) Q := by
  refine Sp_of rfl rfl (Nat.le_of_ble_eq_true rfl) ?_
  refine wp_sipush d_Mod_thingAt_0 (v := nI 130) rfl ?_
  refine wp_bipush d_Mod_thingAt_3 (v := nI 7) rfl ?_
  refine wp_iload_n d_Mod_thingAt_5 rfl rfl ?_
  refine wn_imul d_Mod_thingAt_6 ?_
  refine wn_iadd d_Mod_thingAt_7 ?_
  exact wp_iret d_Mod_thingAt_8 rfl rfl rfl h
theorem l_Mod_thingOf {number : Int32} {many : Nat} (hm : M 313 8 = nI many) (hl : many ≤ 20) : ∀ (n t : Nat), t + n = many → Q (some (.int (oI (fi (fun t => M 313 (130 + 7 * t) == number) n t)))) (lay M) → wp X (d + 1) f_Mod_thingOf (0, 0) 2 [.ref 312, .int number, .int (nI t)] [] (lay M) Q := by
  intro n
  induction n with
  | zero =>
    intro t ht h
    refine wp_iload_n d_Mod_thingOf_2 rfl rfl ?_
    refine wp_aload_n d_Mod_thingOf_3 rfl rfl ?_
    refine wl_getR d_Mod_thingOf_4 lf_Mod_7 sh_312 rfl ?_
    refine wp_bipush d_Mod_thingOf_7 (v := nI 8) rfl ?_
    refine wl_aldn d_Mod_thingOf_9 sh_313 (by omega) hm ?_
    refine wn_icmp_ge 35 d_Mod_thingOf_10 rfl (by omega) (by omega) (fun h10 => ?_) (fun h10 => ?_)
    · refine wp_iconst d_Mod_thingOf_35 (v := -1) rfl ?_
      exact wp_iret d_Mod_thingOf_36 rfl rfl rfl h
    · exact absurd h10 (by omega)
  | succ n ih =>
    intro t ht h
    refine wp_iload_n d_Mod_thingOf_2 rfl rfl ?_
    refine wp_aload_n d_Mod_thingOf_3 rfl rfl ?_
    refine wl_getR d_Mod_thingOf_4 lf_Mod_7 sh_312 rfl ?_
    refine wp_bipush d_Mod_thingOf_7 (v := nI 8) rfl ?_
    refine wl_aldn d_Mod_thingOf_9 sh_313 (by omega) hm ?_
    refine wn_icmp_ge 35 d_Mod_thingOf_10 rfl (by omega) (by omega) (fun h10 => ?_) (fun h10 => ?_)
    · exact absurd h10 (by omega)
    · refine wp_aload_n d_Mod_thingOf_13 rfl rfl ?_
      refine wl_getR d_Mod_thingOf_14 lf_Mod_7 sh_312 rfl ?_
      refine wp_aload_n d_Mod_thingOf_17 rfl rfl ?_
      refine wp_iload_n d_Mod_thingOf_18 rfl rfl ?_
      refine wl_callV1 d_Mod_thingOf_19 lc_Mod_thingAt lv_Mod_124 rfl sh_312 rfl rfl ⟨rfl, rfl⟩ ⟨by decide, by decide⟩ ?_
      refine c_Mod_thingAt ?_
      refine wl_aldn d_Mod_thingOf_22 sh_313 (by omega) rfl ?_
      refine wp_iload_n d_Mod_thingOf_23 rfl rfl ?_
      refine wq_icmp_ne 29 d_Mod_thingOf_24 rfl (fun h24 => ?_) (fun h24 => ?_)
      · refine wn_iinc d_Mod_thingOf_29 rfl ?_
        refine wp_goto 2 d_Mod_thingOf_32 rfl ?_
        exact ih (t + 1) (by omega) (by simpa [fi, h24] using h)
      · refine wp_iload_n d_Mod_thingOf_27 rfl rfl ?_
        exact wp_iret d_Mod_thingOf_28 rfl rfl rfl (by simpa [fi, h24, oI] using h)
theorem c_Mod_thingOf {number : Int32} {many : Nat} (hm : M 313 8 = nI many) (hl : many ≤ 20) (h : Q (some (.int (oI (fi (fun t => M 313 (130 + 7 * t) == number) many 0)))) (lay M)) : Sp X (d + 1) f_Mod_thingOf [.ref 312, .int number] (lay M) Q := by
  refine Sp_of rfl rfl (Nat.le_of_ble_eq_true rfl) ?_
  refine wp_iconst d_Mod_thingOf_0 (v := nI 0) rfl ?_
  refine wp_istore_n d_Mod_thingOf_1 rfl (by decide) ?_
  exact l_Mod_thingOf hm hl many 0 (by omega) h
end S13
