/-! ===== the start: what the statement gives; room; the law whole ===== -/
def gnL : List Cond := flatC (Cond.and given_1 narrow_1)
def tQ_m : Term := .static "StuckRecord$Dates" "MONTHS" "[I"
def tQ_w : Term := .static "StuckRecord$Asker" "WORTHS" "[I"
def tQ_s (i : Nat) : Term := .string "StuckRecord$Reader" (if i = 0 then 107 else 100)
def tQ_v (i : Nat) : Term := .field (tQ_s i) "java/lang/String" "value" "[B"
def tQ_g (i : Nat) : Nat := if i = 0 then 59 else 205
set_option maxRecDepth 100000 in
theorem gn_m : gnL[10]? = some (Cond.arrayOf tQ_m .int) ∧ gnL[11]? = some (Cond.eq (.length tQ_m) (.int (Int32.ofNat 12))) ∧ ∀ j, j < 12 → gnL[12 + j]? = some (Cond.eq (.elem tQ_m (.int (Int32.ofNat j))) (.int (xMonths j))) := by decide +kernel
set_option maxRecDepth 100000 in
theorem gn_w : gnL[25]? = some (Cond.arrayOf tQ_w .int) ∧ gnL[26]? = some (Cond.eq (.length tQ_w) (.int (Int32.ofNat 10))) ∧ ∀ j, j < 10 → gnL[27 + j]? = some (Cond.eq (.elem tQ_w (.int (Int32.ofNat j))) (.int (xWorths j))) := by decide +kernel
set_option maxRecDepth 100000 in
theorem gn_s : ∀ i, i < 2 → gnL[tQ_g i]? = some (Cond.exactly (tQ_s i) "java/lang/String") ∧ gnL[tQ_g i + 1]? = some (Cond.eq (.field (tQ_s i) "java/lang/String" "coder" "B") (.int 0)) ∧ gnL[tQ_g i + 2]? = some (Cond.arrayOf (tQ_v i) .byte) ∧ gnL[tQ_g i + 3]? = some (Cond.eq (.length (tQ_v i)) (.int (Int32.ofNat (xSl.getD i 0)))) := by decide +kernel
set_option maxRecDepth 100000 in
theorem gn_b : ∀ i, i < 2 → ∀ j, j < xSl.getD i 0 → gnL[tQ_g i + 4 + j]? = some (Cond.eq (.elem (tQ_v i) (.int (Int32.ofNat j))) (.int ((xSb.getD i []).getD j 0))) := by decide +kernel
theorem gn_4 : gnL[4]? = some (Cond.eq (.static "java/lang/String" "COMPACT_STRINGS" "Z") (.int 1)) := by decide +kernel
theorem gn_5 : gnL[5]? = some (Cond.isRef (.static "jdk/internal/util/Preconditions" "SIOOBE_FORMATTER" "Ljava/util/function/BiFunction;")) := by decide +kernel
theorem gn_219 : gnL[219]? = some (Cond.not (Cond.eq (tQ_s 0) (tQ_s 1))) := by decide +kernel
theorem gn_use {args : Array Value} {s : State} (h : (Cond.and given_1 narrow_1).before args s = true) (k : Nat) {w : Cond} (hk : gnL[k]? = some w) : w.before args s = true := flat_of_before _ h w (List.mem_of_getElem? hk)
theorem xs_of {args : Array Value} {s : State} {tm : Term} {N : Nat} {f : Nat → Int32} (hN : N < 2147483648) (harr : (Cond.arrayOf tm .int).before args s = true) (hlen : (Cond.eq (.length tm) (.int (Int32.ofNat N))).before args s = true) (hel : ∀ j, j < N → (Cond.eq (.elem tm (.int (Int32.ofNat j))) (.int (f j))).before args s = true) : ∃ t : Nat, tm.eval args s none [] s = some (.ref t) ∧ t < s.heap.size ∧ va_X t N f s s.heap := by
  have hl := va_eqt hlen
  obtain ⟨t, ht, cell, h1, h2, h3, h4, h5, h6, h7⟩ := va_Tof (f := fun j => .int (f j)) (A := fun q => s.heap.size ≤ q) (by omega) harr hl (fun j hj => va_eqt (hel j hj)) (fun a h => Nat.not_le.mpr h)
  obtain ⟨a, cell2, q1, q2, q3⟩ := Term.length_spec hl
  cases ht.symm.trans q1
  obtain ⟨hcell, -, -, -⟩ := State.arrayAt?_spec q2
  cases h1.symm.trans hcell
  have hsz : cell.slots.size < 2147483648 := by
    simp only [Term.eval, ht, q2, Option.bind_eq_bind, Option.bind_some] at hl
    by_cases hlt : cell.slots.size < 2147483648
    · exact hlt
    · simp [hlt] at hl
  exact ⟨t, ht, (Array.getElem?_eq_some_iff.mp h1).1, cell, h1, h2, h3, (nI_inj hsz hN).mp h5, h6⟩
theorem vk_S_cg {N : Nat} {len : List Nat} {byt : List (List Int32)} {adK adV adK' adV' : Nat → Nat} {A : Nat → Prop} {U : State} {H : Heap} (h : vk_S N len byt adK adV A U H) (e1 : ∀ i, i < N → adK' i = adK i) (e2 : ∀ i, i < N → adV' i = adV i) : vk_S N len byt adK' adV' A U H :=
  ⟨fun i hi => by rw [e1 i hi, e2 i hi]; exact h.1 i hi, fun i j hi hj e => h.2 i j hi hj (by rw [← e1 i hi, ← e1 j hj]; exact e)⟩
section KNOWN
variable {args : Array Value} {s : State}
theorem kn_all (hw : ∀ w ∈ mW, w.before args s = true) : ∀ c : Nat, ∃ q : ClassId × (Nat → Nat), ∀ r, mcl[c]? = some r → u_Kn s r.1 r.2.1 r.2.2 q.1 q.2 := by
  intro c
  match c with
  | 0 =>
    obtain ⟨cC, iS, h⟩ := u_known (C := R_Asker) (T := F_Asker) (N := 7) (n := 7) hw i_Asker (hw _ (mW_at 451 (by decide +kernel) rfl))
    refine ⟨(cC, iS), fun r hr => ?_⟩
    have e : (R_Asker, F_Asker, 7) = r := Option.some.inj hr
    subst e
    exact h
  | 1 =>
    obtain ⟨cC, iS, h⟩ := u_known (C := R_Law) (T := F_Law) (N := 4) (n := 4) hw i_Law (hw _ (mW_at 329 (by decide +kernel) rfl))
    refine ⟨(cC, iS), fun r hr => ?_⟩
    have e : (R_Law, F_Law, 4) = r := Option.some.inj hr
    subst e
    exact h
  | 2 =>
    obtain ⟨cC, iS, h⟩ := u_known (C := R_Layers) (T := F_Layers) (N := 2) (n := 2) hw i_Layers (hw _ (mW_at 479 (by decide +kernel) rfl))
    refine ⟨(cC, iS), fun r hr => ?_⟩
    have e : (R_Layers, F_Layers, 2) = r := Option.some.inj hr
    subst e
    exact h
  | 3 =>
    obtain ⟨cC, iS, h⟩ := u_known (C := R_Reader) (T := F_Reader) (N := 13) (n := 13) hw i_Reader (hw _ (mW_at 397 (by decide +kernel) rfl))
    refine ⟨(cC, iS), fun r hr => ?_⟩
    have e : (R_Reader, F_Reader, 13) = r := Option.some.inj hr
    subst e
    exact h
  | 4 =>
    obtain ⟨cC, iS, h⟩ := u_known (C := R_Rows) (T := F_Rows) (N := 4) (n := 4) hw i_Rows (hw _ (mW_at 183 (by decide +kernel) rfl))
    refine ⟨(cC, iS), fun r hr => ?_⟩
    have e : (R_Rows, F_Rows, 4) = r := Option.some.inj hr
    subst e
    exact h
  | 5 =>
    obtain ⟨cC, iS, h⟩ := u_known (C := R_Thing) (T := F_Thing) (N := 7) (n := 7) hw i_Thing (hw _ (mW_at 212 (by decide +kernel) rfl))
    refine ⟨(cC, iS), fun r hr => ?_⟩
    have e : (R_Thing, F_Thing, 7) = r := Option.some.inj hr
    subst e
    exact h
  | 6 =>
    obtain ⟨cC, iS, h⟩ := u_known (C := R_Told) (T := F_Told) (N := 9) (n := 9) hw i_Told (hw _ (mW_at 323 (by decide +kernel) rfl))
    refine ⟨(cC, iS), fun r hr => ?_⟩
    have e : (R_Told, F_Told, 9) = r := Option.some.inj hr
    subst e
    exact h
  | 7 =>
    obtain ⟨cC, iS, h⟩ := u_known (C := R_Wings) (T := F_Wings) (N := 3) (n := 3) hw i_Wings (hw _ (mW_at 492 (by decide +kernel) rfl))
    refine ⟨(cC, iS), fun r hr => ?_⟩
    have e : (R_Wings, F_Wings, 3) = r := Option.some.inj hr
    subst e
    exact h
  | 8 =>
    obtain ⟨cC, iS, h⟩ := u_known (C := R_World) (T := F_World) (N := 13) (n := 13) hw i_World (hw _ (mW_at 175 (by decide +kernel) rfl))
    refine ⟨(cC, iS), fun r hr => ?_⟩
    have e : (R_World, F_World, 13) = r := Option.some.inj hr
    subst e
    exact h
  | 9 =>
    obtain ⟨cC, iS, h⟩ := u_known (C := R_Rec) (T := F_Rec) (N := 13) (n := 13) hw i_Rec (hw _ (mW_at 167 (by decide +kernel) rfl))
    refine ⟨(cC, iS), fun r hr => ?_⟩
    have e : (R_Rec, F_Rec, 13) = r := Option.some.inj hr
    subst e
    exact h
  | 10 =>
    obtain ⟨cC, iS, h⟩ := u_known (C := R_Mod) (T := F_Mod) (N := 56) (n := 56) hw i_Mod (hw _ (mW_at 1251 (by decide +kernel) rfl))
    refine ⟨(cC, iS), fun r hr => ?_⟩
    have e : (R_Mod, F_Mod, 56) = r := Option.some.inj hr
    subst e
    exact h
  | c + 11 =>
    obtain ⟨cC, iS, h⟩ := u_known (C := R_Asker) (T := F_Asker) (N := 7) (n := 7) hw i_Asker (hw _ (mW_at 451 (by decide +kernel) rfl))
    refine ⟨(cC, iS), fun r hr => ?_⟩
    have e : mcl[c + 11]? = none := List.getElem?_eq_none (show 11 ≤ c + 11 by omega)
    rw [e] at hr
    cases hr
theorem kn_ai (hts : ∀ w ∈ lw_tbl, w.before args s = true) : ∃ c, ArrOfT s c .int ∧ va_RA s c .int := by
  have h : (Cond.arrayClass .int).before args s = true := hts _ (List.mem_of_getElem? (i := 208) (by decide +kernel))
  obtain ⟨c, k, comp, h1, h2, h3⟩ := Cond.arrayClass_spec h
  exact ⟨c, fun n z => ⟨(fun k h => by cases h), k, h2, comp, h3⟩, h1⟩
theorem kn_ao {C : String} (h : (Cond.arrayOver (.object C)).before args s = true) : ∃ c, ArrOfT s c (.object C) ∧ va_RA s c (.object C) := by
  obtain ⟨comp, c, k, h1, h2, h3, h4, h5⟩ := Cond.arrayOver_spec h
  exact ⟨c, fun n z => ⟨(fun k h => by cases h), k, h3, comp, h4⟩, k, comp, h3, h4, h1, h5⟩
theorem mX_start {b L : Nat} {xs : Nat → Int32} (hts : ∀ w ∈ lw_tbl, w.before args s = true) (hX : va_X b L xs s s.heap) (hbl : b < s.heap.size) (hgv : (Cond.and given_1 narrow_1).before args s = true) : ∃ (D : va_G) (I : ClassId × ClassId × ClassId) (g : Nat → Nat), g 2 = b ∧ ∀ l : Launch, mX (l, D, s.heap.size, I, g) (L, xs) s := by
  have hw : ∀ w ∈ mW, w.before args s = true := fun w h => hts w (List.mem_filter.mp h).1
  have hA : ∀ a : Nat, a < s.heap.size → ¬ s.heap.size ≤ a := fun a h => Nat.not_le.mpr h
  obtain ⟨dd, hdd⟩ := Classical.axiomOfChoice (kn_all hw)
  obtain ⟨cI, aI1, aI2⟩ := kn_ai hts
  have hoT : (Cond.arrayOver (.object "StuckRecord$Thing")).before args s = true := hts _ (List.mem_of_getElem? (i := 181) (by decide +kernel))
  have hoW : (Cond.arrayOver (.object "StuckRecord$World")).before args s = true := hts _ (List.mem_of_getElem? (i := 395) (by decide +kernel))
  obtain ⟨cT, aT1, aT2⟩ := kn_ao hoT
  obtain ⟨cW, aW1, aW2⟩ := kn_ao hoW
  obtain ⟨tm, m1, m2, m3⟩ := xs_of (f := xMonths) (by decide) (gn_use hgv 10 gn_m.1) (gn_use hgv 11 gn_m.2.1) (fun j hj => gn_use hgv (12 + j) (gn_m.2.2 j hj))
  obtain ⟨tw, w1, w2, w3⟩ := xs_of (f := xWorths) (by decide) (gn_use hgv 25 gn_w.1) (gn_use hgv 26 gn_w.2.1) (fun j hj => gn_use hgv (27 + j) (gn_w.2.2 j hj))
  obtain ⟨adK, adV, hS, hSe⟩ := vk_Sof (args := args) (s := s) (N := 2) (tm := tQ_s) (len := xSl) (byt := xSb) (A := fun q => s.heap.size ≤ q) (fun i hi => by have := xSl_lt hi; omega) (fun i hi => gn_use hgv _ (gn_s i hi).1) (fun i hi => gn_use hgv _ (gn_s i hi).2.1) (fun i hi => gn_use hgv _ (gn_s i hi).2.2.1) (fun i hi => gn_use hgv _ (gn_s i hi).2.2.2) (fun i hi j hj => gn_use hgv _ (gn_b i hi j hj)) (fun i j hi hj hij => by
    rcases (show (i = 0 ∧ j = 1) ∨ (i = 1 ∧ j = 0) by omega) with ⟨rfl, rfl⟩ | ⟨rfl, rfl⟩
    · exact Or.inl (gn_use hgv _ gn_219)
    · exact Or.inr (gn_use hgv _ gn_219)) hA
  have zM : va_Z "StuckRecord$Dates" "MONTHS" "[I" (.ref tm) (fun q => s.heap.size ≤ q) s s.heap := va_Zof (hts _ (List.mem_of_getElem? (i := 1166) (by decide +kernel))) (hts _ (List.mem_of_getElem? (i := 165) (by decide +kernel))) m1 hA
  have zW : va_Z "StuckRecord$Asker" "WORTHS" "[I" (.ref tw) (fun q => s.heap.size ≤ q) s s.heap := va_Zof (hts _ (List.mem_of_getElem? (i := 1230) (by decide +kernel))) (hts _ (List.mem_of_getElem? (i := 153) (by decide +kernel))) w1 hA
  have zC : va_Z "java/lang/String" "COMPACT_STRINGS" "Z" (.int 1) (fun q => s.heap.size ≤ q) s s.heap := va_Zof (hts _ (List.mem_of_getElem? (i := 775) (by decide +kernel))) (hts _ (List.mem_of_getElem? (i := 159) (by decide +kernel))) (va_eqi (gn_use hgv 4 gn_4)) hA
  obtain ⟨aF, zF⟩ : ∃ aF : Nat, va_Z "jdk/internal/util/Preconditions" "SIOOBE_FORMATTER" "Ljava/util/function/BiFunction;" .null (fun q => s.heap.size ≤ q) s s.heap ∨ va_Z "jdk/internal/util/Preconditions" "SIOOBE_FORMATTER" "Ljava/util/function/BiFunction;" (.ref aF) (fun q => s.heap.size ≤ q) s s.heap := by
    obtain ⟨v, hv, hr⟩ := Cond.isRef_spec (gn_use hgv 5 gn_5)
    have hz : va_Z "jdk/internal/util/Preconditions" "SIOOBE_FORMATTER" "Ljava/util/function/BiFunction;" v (fun q => s.heap.size ≤ q) s s.heap := va_Zof (hts _ (List.mem_of_getElem? (i := 791) (by decide +kernel))) (hts _ (List.mem_of_getElem? (i := 161) (by decide +kernel))) hv hA
    cases v with
    | null => exact ⟨0, Or.inl hz⟩
    | ref t => exact ⟨t, Or.inr hz⟩
    | _ => exact absurd hr Bool.false_ne_true
  obtain ⟨g, hg⟩ : ∃ g : Nat → Nat, g = fun k => if k = 0 then tw else if k = 1 then tm else if k = 2 then b else if k = 300 then aF else if k < 200 then adK (k - 100) else adV (k - 200) := ⟨_, rfl⟩
  have g0 : g 0 = tw := by rw [hg]; rfl
  have g1 : g 1 = tm := by rw [hg]; rfl
  have g2 : g 2 = b := by rw [hg]; rfl
  have g300 : g 300 = aF := by rw [hg]; rfl
  have gK : ∀ i, i < 2 → g (100 + i) = adK i := by
    intro i hi
    rw [hg]
    show (if 100 + i = 0 then _ else if 100 + i = 1 then _ else if 100 + i = 2 then _ else if 100 + i = 300 then _ else if 100 + i < 200 then adK (100 + i - 100) else _) = _
    rw [if_neg (by omega), if_neg (by omega), if_neg (by omega), if_neg (by omega), if_pos (by omega), Nat.add_sub_cancel_left]
  have gV : ∀ i, i < 2 → g (200 + i) = adV i := by
    intro i hi
    rw [hg]
    show (if 200 + i = 0 then _ else if 200 + i = 1 then _ else if 200 + i = 2 then _ else if 200 + i = 300 then _ else if 200 + i < 200 then _ else adV (200 + i - 200)) = _
    rw [if_neg (by omega), if_neg (by omega), if_neg (by omega), if_neg (by omega), if_neg (by omega), Nat.add_sub_cancel_left]
  refine ⟨(fun c => (dd c).1, fun c => (dd c).2), (cI, cT, cW), g, g2, fun l => ⟨⟨fun c q hq => hdd c q hq, fun k q hq => ?_⟩, fun w hw0 => ?_, ⟨va_AO.of hoT, va_AO.of hoW⟩, ⟨?_, ?_, ?_, ?_, ?_, ?_, ?_⟩, fun k hk => ?_⟩⟩
  · match k, hq with
    | 0, hq =>
      have e : (cI, FieldType.int) = q := Option.some.inj hq
      subst e
      exact ⟨aI1, aI2⟩
    | 1, hq =>
      have e : (cT, FieldType.object "StuckRecord$Thing") = q := Option.some.inj hq
      subst e
      exact ⟨aT1, aT2⟩
    | 2, hq =>
      have e : (cW, FieldType.object "StuckRecord$World") = q := Option.some.inj hq
      subst e
      exact ⟨aW1, aW2⟩
    | k + 3, hq =>
      exact absurd hq (by simp)
  · have h1 := hts w (mNest_in w hw0)
    simp only [mNest, List.mem_cons, List.not_mem_nil, or_false] at hw0
    rcases hw0 with rfl | rfl | rfl | rfl | rfl | rfl | rfl | rfl <;> exact va_Nw.of rfl h1
  · show va_Z _ _ _ (.ref (g 0)) _ s s.heap
    rw [g0]; exact zW
  · show va_Z _ _ _ (.ref (g 1)) _ s s.heap
    rw [g1]; exact zM
  · show vk_R _ 107 _ (g (100 + 0)) s
    rw [gK 0 (by decide)]
    exact vk_R.of (A := args) (hts _ (List.mem_of_getElem? (i := 765) (by decide +kernel))) (hSe 0 (by decide))
  · show vk_R _ 100 _ (g (100 + 1)) s
    rw [gK 1 (by decide)]
    exact vk_R.of (A := args) (hts _ (List.mem_of_getElem? (i := 825) (by decide +kernel))) (hSe 1 (by decide))
  · exact vk_S_cg hS gK gV
  · exact zC
  · show va_Z _ _ _ .null _ s s.heap ∨ va_Z _ _ _ (.ref (g 300)) _ s s.heap
    rw [g300]; exact zF
  · match k, hk with
    | 0, _ =>
      show g 0 < s.heap.size ∧ va_X (g 0) 10 xWorths s s.heap
      rw [g0]; exact ⟨w2, w3⟩
    | 1, _ =>
      show g 1 < s.heap.size ∧ va_X (g 1) 12 xMonths s s.heap
      rw [g1]; exact ⟨m2, m3⟩
    | 2, _ =>
      show g 2 < s.heap.size ∧ va_X (g 2) L xs s s.heap
      rw [g2]; exact ⟨hbl, hX⟩
    | k + 3, hk => exact absurd hk (by omega)
end KNOWN
/-! ===== room ===== -/
theorem W_room {p : Program} {l : Launch} {e : Env} {R R' : Room} {s : State} {m : MethodId} {args : Array Value} {below : List Frame} {meth : Method} {c : Code} {H : Heap} {locs : List Loc} {cells slots : Nat} {Q Q' : State → Prop} {g : JFrame} (hR : R'.frames ≤ R.frames ∧ R'.locals ≤ R.locals ∧ R'.cells ≤ R.cells ∧ R'.slots ≤ R.slots) (hQ : ∀ t, Q t → Q' t) (k : W p l e R' s m args below meth c H locs cells slots Q g) : W p l e R s m args below meth c H locs cells slots Q' g := by
  intro T hT X
  have h0 : s.hasRoom e.platform R' = true := by
    have h := X.room
    obtain ⟨r1, r2, r3, r4⟩ := hR
    simp only [State.hasRoom, Bool.and_eq_true, decide_eq_true_eq] at h ⊢
    obtain ⟨⟨⟨⟨h1, h2, h3, h4, h5, h6⟩, h7⟩, h8⟩, h9⟩ := h
    exact ⟨⟨⟨⟨by omega, by omega, by omega, by omega, by omega, h6⟩, by omega⟩, by omega⟩, h9⟩
  obtain ⟨t, a, b⟩ := k T hT { X with room := h0 }
  exact ⟨t, a, hQ t b⟩
theorem sbn_fresh {s s' : State} {L : List Loc} {k n k' n' : Nat} (h : s.sameButNew s' L k n) (hL : ∀ q ∈ L, s.heap.size ≤ q.base) (hk : k ≤ k') (hn : n ≤ n') : s.sameButNew s' [] k' n' := by
  obtain ⟨h1, h2, h3, h4, h5, h6⟩ := h
  refine ⟨h1, h2, Nat.le_trans h3 (Nat.add_le_add_left hk _), h4, Nat.le_trans h5 hn, fun a c hc => ?_⟩
  obtain ⟨c', hc', hce, hsz, hout⟩ := h6 a c hc
  refine ⟨c', hc', hce, hsz, fun i _ => hout i (fun hm => ?_)⟩
  have hb : s.heap.size ≤ a := hL _ hm
  have ha : a < s.heap.size := (Array.getElem?_eq_some_iff.mp hc).1
  exact absurd ha (Nat.not_lt.mpr hb)
theorem len_bk_Rec (b : Nat) : (bk_Rec b).length = 312 := len_rcX b 6 _
theorem law_all {X : mXs} {d : Nat} {Q : Option Value → mH → Prop} (hL : X.1 ≤ 3072) (hQ : ∀ M, Q (some (.int 1)) (lay M)) : wp X (d + 50) f_law2 (0, 0) 0 (mLoc 4 [.ref 100002]) [] [] Q := by
  refine wp_new (kn' := (1, 13)) d_law_0 ln_law_7 rfl (by decide) (by decide) (by decide) ?_
  show wp X (d + 50) f_law2 (1, 13) 3 (mLoc 4 [.ref 100002]) [.ref 0] ([] ++ [.inr (9, dF_Rec)]) Q
  refine wp_dup d_law_3 rfl ?_
  refine wp_callI (g := f_Rec_init) (as := []) (st := [.ref 0]) (kn' := (312, 12992)) d_law_4 lc_Rec_init li_law_9 rfl rfl rfl ⟨by decide, by decide⟩ ?_
  refine con_Rec (d := d + 45) [] 0 _ rfl (by decide) ?_
  show wp X (d + 50) f_law2 (312, 12992) 7 (mLoc 4 [.ref 100002]) [.ref 0] (bk_Rec 0) Q
  refine wp_astore_n (x := 0) d_law_7 rfl (by decide) ?_
  refine wp_new (kn' := (313, 13048)) d_law_8 ln_law_10 rfl (by decide) (by decide) (by rw [len_bk_Rec]; decide) ?_
  rw [len_bk_Rec]
  refine wp_dup d_law_11 rfl ?_
  refine wp_callI (g := f_Mod_init) (as := []) (st := [.ref 312]) (kn' := (344, 26090)) d_law_12 lc_Mod_init li_law_12 rfl rfl rfl ⟨by decide, by decide⟩ ?_
  refine con_Mod (d := d + 48) (bk_Rec 0) 312 _ (len_bk_Rec 0) (by decide) ?_
  show wp X (d + 50) f_law2 (344, 26090) 15 ((mLoc 4 [.ref 100002]).set 1 (.ref 0)) [.ref 312] B0 Q
  rw [← start_lay]
  refine wp_astore_n (x := 312) d_law_15 rfl (by decide) ?_
  refine wp_iconst (v := nI 0) d_law_16 rfl ?_
  refine wp_istore_n d_law_17 rfl (by decide) ?_
  exact law_loopz hL hQ 512 0 0 M0 (by omega) (by decide) (by decide) Iv_0
