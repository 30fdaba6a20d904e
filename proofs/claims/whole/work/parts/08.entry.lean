/-! ===== entry of a method, rows outside, makings, arraycopy ===== -/
abbrev junk : Value := .long 0
def mLoc (n : Nat) (as : List Value) : List Value := as ++ List.replicate (n - as.length) junk
theorem lg_sl_1 (G : mG) : ∀ as : List Value, (∀ v ∈ as, v.category = 1) → lg_sl (as.map (tv G)) = (as.map (tv G)).map Slot.val := by
  intro as
  induction as with
  | nil => intro _; rfl
  | cons v t ih =>
    intro h
    have h1 : ¬ (tv G v).category = 2 := by rw [tv_cat, h v List.mem_cons_self]; decide
    have h2 := ih (fun w hw => h w (List.mem_cons_of_mem _ hw))
    rw [lg_sl] at h2 ⊢
    simp only [List.map_cons, List.flatMap_cons, if_neg h1]
    rw [h2]
    rfl
theorem lv_args_1 : ∀ (vs : List Value) (i : Nat), (∀ v ∈ vs, v.category = 1) → ∀ (j : Nat) (v : Value), vs[j]? = some v → (i + j, v) ∈ lv_args i vs := by
  intro vs
  induction vs with
  | nil => intro i _ j v h; cases h
  | cons w t ih =>
    intro i h j v hj
    have h1 : ¬ w.category = 2 := by rw [h w List.mem_cons_self]; decide
    rw [lv_args, if_neg h1]
    cases j with
    | zero =>
      cases hj
      exact List.mem_cons_self
    | succ j =>
      have := ih (i + 1) (fun x hx => h x (List.mem_cons_of_mem _ hx)) j v hj
      rw [show i + 1 + j = i + (j + 1) by omega] at this
      exact List.mem_cons_of_mem _ this
theorem mL_entry {G : mG} {n : Nat} {as : List Value} (h1 : ∀ v ∈ as, v.category = 1) (h2 : as.length ≤ n) : mL G n (mLoc n as) ((lg_sl (as.map (tv G)) ++ List.replicate (n - (lg_sl (as.map (tv G))).length) Slot.unset).toArray) := by
  have hl : (lg_sl (as.map (tv G))).length = as.length := by rw [lg_sl_1 G as h1]; simp
  have he := lv_entry (as.map (tv G)) (n := n) (by rw [hl]; exact h2)
  refine ⟨?_, he.1, he.2.1, fun i v hi hc => ?_⟩
  · unfold mLoc
    rw [List.length_append, List.length_replicate]
    omega
  · unfold mLoc at hi
    rw [List.getElem?_append] at hi
    by_cases hlt : i < as.length
    · rw [if_pos hlt] at hi
      have h3 := lv_args_1 (as.map (tv G)) 0 (fun w hw => by
        obtain ⟨x, hx, rfl⟩ := List.mem_map.mp hw
        rw [tv_cat]; exact h1 x hx) i (tv G v) (by rw [List.getElem?_map, hi]; rfl)
      rw [Nat.zero_add] at h3
      exact he.2.2 _ h3
    · rw [if_neg hlt, List.getElem?_replicate] at hi
      split at hi
      · cases hi
        cases hc
      · cases hi
theorem Sp_of {X : mXs} {d : Nat} {f : mI} {as : List Value} {Hm : mH} {Q : Option Value → mH → Prop} (hy : plainName (iy f).cls = true) (h1 : (as.all fun v => v.category == 1) = true) (h2 : as.length ≤ il f) (k : wp X d f (0, 0) 0 (mLoc (il f) as) [] Hm Q) : Sp X d f as Hm Q := by
  intro G
  refine Met.ofW (cc := ib f) (maxL := il f) (ret := ir f) hy rfl ?_
  intro p e s m args below meth c s₁ B hml hv
  obtain ⟨rfl, hS, hX, hH⟩ := hv
  have h1' : ∀ v ∈ as, v.category = 1 := by
    intro v hv
    have := List.all_eq_true.mp h1 v hv
    simpa using this
  rw [lg_entry_eq]
  have C : mC G X f p s m (as.map (tv G)).toArray meth c := ⟨B.exec, B.bytes, B.returns, atoms_spec (ws := mw f) B.pre, findClass_of_methodNamed B.named, hml, B.notSynchronized, (name_of_methodNamed B.named B.method).1, hX, by omega⟩
  exact k G p e s m _ below meth c _ s.heap [] C hS va_S.rf (mL_entry h1' h2) hH
section ME
variable {X : mXs} {d : Nat} {f g : mI} {kn : Nat × Nat} {pc : Nat} {ls st : List Value} {Hm : mH} {Q : Option Value → mH → Prop}
theorem ad_x (G : mG) (k : Nat) : ad G (100000 + k) = gx G k := by
  rw [ad, if_neg (by omega), Nat.add_sub_cancel_left]
theorem wp_xald {k j : Nat} {i v : Int32} (hd : decode (ib f) pc = .ok (.iaload, 1)) (hk : k < 3) (hi : ix i j) (hj : j < xLen X k) (hv : xVal X k j = v) (kk : wp X d f kn (pc + 1) ls (.int v :: st) Hm Q) : wp X d f kn pc ls (.int i :: .ref (100000 + k) :: st) Hm Q := by
  intro G p e s m args below meth c a H locs C hS hV hL hz
  subst hv
  show W p (gl G) e (mRm d f) s m args below meth c H locs kn.1 kn.2 _ (F0 m pc a (.int i :: .ref (ad G (100000 + k)) :: st.map (tv G)))
  rw [ad_x]
  have k1 := kk G p e s m args below meth c a H locs C hS hV hL hz
  have hX := C.2.2.2.2.2.2.2.2.1.2.2.2.2 k hk
  have hbs := C.2.2.2.2.2.2.2.2.2
  refine va_sld (A := mA G) C.1 C.2.1 hX.2 (by omega) (fun z => by unfold mA at z; omega) hV (ix_in hi hj) hd ?_
  rw [ix_clamp hi]
  exact k1
theorem wp_xlen {k : Nat} {v : Int32} (hd : decode (ib f) pc = .ok (.arraylength, 1)) (hk : k < 3) (hv : Int32.ofNat (xLen X k) = v) (kk : wp X d f kn (pc + 1) ls (.int v :: st) Hm Q) : wp X d f kn pc ls (.ref (100000 + k) :: st) Hm Q := by
  intro G p e s m args below meth c a H locs C hS hV hL hz
  subst hv
  show W p (gl G) e (mRm d f) s m args below meth c H locs kn.1 kn.2 _ (F0 m pc a (.ref (ad G (100000 + k)) :: st.map (tv G)))
  rw [ad_x]
  have hX := C.2.2.2.2.2.2.2.2.1.2.2.2.2 k hk
  have hbs := C.2.2.2.2.2.2.2.2.2
  exact va_slen (A := mA G) C.1 C.2.1 hX.2 (by omega) (fun z => by unfold mA at z; omega) hV hd (kk G p e s m args below meth c a H locs C hS hV hL hz)
theorem wp_xget0 {index : Nat} (hd : decode (ib f) pc = .ok (.getstatic index, 3)) (hl : Cond.fieldLink (iy f).cls index "StuckRecord$Asker" "WORTHS" "[I" ∈ mW) (kk : wp X d f kn (pc + 3) ls (.ref (100000 + 0) :: st) Hm Q) : wp X d f kn pc ls st Hm Q := by
  intro G p e s m args below meth c a H locs C hS hV hL hz
  have k1 := kk G p e s m args below meth c a H locs C hS hV hL hz
  have e1 : (Value.ref (100000 + 0) :: st).map (tv G) = .ref (gx G 0) :: st.map (tv G) := by
    rw [List.map_cons, tv_ref, ad_x]
  rw [e1] at k1
  exact va_gets C.1 C.2.1 C.2.2.2.2.2.2.2.2.1.2.2.2.1.1 hV C.2.2.2.2.1 (C.2.2.2.1 _ (List.mem_cons_of_mem _ hl)) (fun _ h => h) hd k1
theorem wp_xget1 {index : Nat} (hd : decode (ib f) pc = .ok (.getstatic index, 3)) (hl : Cond.fieldLink (iy f).cls index "StuckRecord$Dates" "MONTHS" "[I" ∈ mW) (kk : wp X d f kn (pc + 3) ls (.ref (100000 + 1) :: st) Hm Q) : wp X d f kn pc ls st Hm Q := by
  intro G p e s m args below meth c a H locs C hS hV hL hz
  have k1 := kk G p e s m args below meth c a H locs C hS hV hL hz
  have e1 : (Value.ref (100000 + 1) :: st).map (tv G) = .ref (gx G 1) :: st.map (tv G) := by
    rw [List.map_cons, tv_ref, ad_x]
  rw [e1] at k1
  exact va_gets C.1 C.2.1 C.2.2.2.2.2.2.2.2.1.2.2.2.1.2.1 hV C.2.2.2.2.1 (C.2.2.2.1 _ (List.mem_cons_of_mem _ hl)) (fun _ h => h) hd k1
theorem wp_copyi {index c0 c1 n0 n1 j0 j1 n : Nat} {g0 g1 : Nat → Int32} {sp dp nn : Int32} (hd : decode (ib f) pc = .ok (.invokestatic index, 3)) (hl : Cond.methodLink (iy f).cls index arraycopyName ∈ mW) (hnat : Cond.native arraycopyName ∈ mW) (hstat : Cond.static arraycopyName ∈ mW) (hini : Cond.initialized "java/lang/System" ∈ mW)
    (h0 : Hm[c0]? = some (.inl (0, n0, g0))) (h1 : Hm[c1]? = some (.inl (0, n1, g1))) (hsp : ix sp j0) (hdp : ix dp j1) (hn : ix nn n) (hb0 : j0 + n ≤ n0) (hb1 : j1 + n ≤ n1) (hst : stOk st = true)
    (kk : wp X (d + 1) f kn (pc + 3) ls st (Hm.set c1 (.inl (0, n1, va_cpy g0 g1 j0 j1 n))) Q) : wp X (d + 1) f kn pc ls (.int nn :: .int dp :: .ref c1 :: .int sp :: .ref c0 :: st) Hm Q := by
  intro G p e s m args below meth c a H locs C hS hV hL hz
  have hw : ∀ w ∈ mW, w.before args s = true := fun w h => C.2.2.2.1 w (List.mem_cons_of_mem _ h)
  show W p (gl G) e (mRm (d + 1) f) s m args below meth c H locs kn.1 kn.2 _ (F0 m pc a (.int nn :: .int dp :: .ref (ad G c1) :: .int sp :: .ref (ad G c0) :: st.map (tv G)))
  rw [mS_ad hS h0, mS_ad hS h1]
  have hroom := st_room (G := G) (m := m) (pc := pc) (a := a) (st0 := []) hst
  refine va_copyi (D := gD G) (cl := mcl) (tys := mty G) (ty := .int) C.1 C.2.1 (by rw [C.2.2.2.2.2.1]; exact hL.2.1.symm) C.2.2.2.2.1 (hw _ hl) (hw _ hnat) (hw _ hstat) (hw _ hini) C.2.2.2.2.2.2.2.2.1.1 hS.2 (tw_D G Hm) hV c0 c1 0 0 (tw_at h0) (tw_at h1) rfl rfl rfl (ix_nl hsp) (ix_nl hdp) (ix_nl hn) (by rw [ix_clamp hsp, ix_clamp hn]; exact hb0) (by rw [ix_clamp hdp, ix_clamp hn]; exact hb1) (fun _ _ => rfl) (Nat.le_add_left _ _) ?_ hd (fun H1 l1 a1 _ a3 => ?_)
  · have h64 : nativeFrameWords "java/lang/System" "arraycopy" 5 + 11 ≤ 50 := by decide
    show ((st.map (tv G)).map fun v => v.category).sum + (nativeFrameWords "java/lang/System" "arraycopy" 5 + 11) ≤ 64 * (d + 1)
    omega
  · rw [ix_clamp hsp, ix_clamp hdp, ix_clamp hn] at a1
    refine kk G p e s m args below meth c a H1 l1 C ⟨by rw [List.length_set]; exact hS.1, ?_⟩ a3 hL (by rw [List.length_set]; exact hz)
    rw [tw_set]
    exact a1
end ME
