/-! ===== a layer of my own: cells by number, a method by its walk over numbered cells ===== -/
/-- what a run fixes: launch, class numbers, first cell, array classes, cells outside -/
abbrev mG : Type := Launch × va_G × Nat × (ClassId × ClassId × ClassId) × (Nat → Nat)
abbrev gl (G : mG) : Launch := G.1
abbrev gD (G : mG) : va_G := G.2.1
abbrev gb (G : mG) : Nat := G.2.2.1
abbrev gI (G : mG) : ClassId := G.2.2.2.1.1
abbrev gT (G : mG) : ClassId := G.2.2.2.1.2.1
abbrev gW (G : mG) : ClassId := G.2.2.2.1.2.2
abbrev gx (G : mG) : Nat → Nat := G.2.2.2.2
def ad (G : mG) (c : Nat) : Nat := if c < 100000 then gb G + c else gx G (c - 100000)
def tv (G : mG) (v : Value) : Value := match v with
  | .ref c => .ref (ad G c)
  | v => v
theorem tv_int (G : mG) (x : Int32) : tv G (.int x) = .int x := rfl
theorem tv_null (G : mG) : tv G .null = .null := rfl
theorem tv_ref (G : mG) (c : Nat) : tv G (.ref c) = .ref (ad G c) := rfl
theorem tv_cat (G : mG) (v : Value) : (tv G v).category = v.category := by cases v <;> rfl
def tr (G : mG) (x : Int32) : Option Nat := if x < 0 then none else some (ad G x.toNatClampNeg)
abbrev mE : Type := (Nat × Nat × (Nat → Int32)) ⊕ (Nat × List Value)
abbrev mH : Type := List mE
def te (G : mG) (q : mE) : va_E := match q with
  | .inl (0, n, f) => .inl (gI G, n, .inl f)
  | .inl (1, n, f) => .inl (gT G, n, .inr (.inr (.inr (.inr (fun i => tr G (f i))))))
  | .inl (_, n, f) => .inl (gW G, n, .inr (.inr (.inr (.inr (fun i => tr G (f i))))))
  | .inr (ci, fs) => .inr (ci, fs.map (tv G))
def tw (G : mG) (Hm : mH) : va_W := Hm.mapIdx (fun i q => (gb G + i, te G q))
theorem tw_get (G : mG) (Hm : mH) (k : Nat) : (tw G Hm)[k]? = (Hm[k]?).map (fun q => (gb G + k, te G q)) := by
  simp [tw, List.getElem?_mapIdx]
theorem tw_at {G : mG} {Hm : mH} {k : Nat} {q : mE} (h : Hm[k]? = some q) : (tw G Hm)[k]? = some (gb G + k, te G q) := by
  rw [tw_get, h]; rfl
theorem tw_set {G : mG} {Hm : mH} {k : Nat} {q : mE} : tw G (Hm.set k q) = (tw G Hm).set k (gb G + k, te G q) := by
  apply List.ext_getElem?
  intro i
  rw [tw_get, List.getElem?_set, List.getElem?_set, tw_get]
  have hl : (tw G Hm).length = Hm.length := by simp [tw]
  by_cases h : k = i
  · subst h
    rw [if_pos rfl, if_pos rfl, hl]
    by_cases h2 : k < Hm.length
    · rw [if_pos h2, if_pos h2]; rfl
    · rw [if_neg h2, if_neg h2]; rfl
  · rw [if_neg h, if_neg h]
theorem tw_app {G : mG} {Hm : mH} {q : mE} : tw G (Hm ++ [q]) = tw G Hm ++ [(gb G + Hm.length, te G q)] := by
  simp [tw, List.mapIdx_append]
def mA (G : mG) : Nat → Prop := fun q => gb G ≤ q
theorem tw_D (G : mG) (Hm : mH) : va_D (mA G) (tw G Hm) := by
  refine ⟨fun i j x y hx hy h => ?_, fun k q h => ?_⟩
  · rw [tw_get] at hx hy
    obtain ⟨a, -, rfl⟩ := Option.map_eq_some_iff.mp hx
    obtain ⟨b, -, rfl⟩ := Option.map_eq_some_iff.mp hy
    exact Nat.add_left_cancel h
  · rw [tw_get] at h
    obtain ⟨a, -, rfl⟩ := Option.map_eq_some_iff.mp h
    exact Nat.le_add_right _ _
def mS (G : mG) (Hm : mH) (H : Heap) : Prop := Hm.length ≤ 100000 ∧ va_P (gD G) mcl (tw G Hm) H
theorem mS_ad {G : mG} {Hm : mH} {H : Heap} (h : mS G Hm H) {k : Nat} {q : mE} (hk : Hm[k]? = some q) : ad G k = gb G + k := by
  have h1 := (List.getElem?_eq_some_iff.mp hk).1
  have h2 := h.1
  have h3 : k < 100000 := by omega
  rw [ad, if_pos h3]
abbrev mty (G : mG) : List (ClassId × FieldType) := [(gI G, .int), (gT G, .object "StuckRecord$Thing"), (gW G, .object "StuckRecord$World")]

/-- the static rows of numbers, and the script -/
def xWorths (j : Nat) : Int32 := ([0, 1, 2, 1, 0, 1, 0, 1, 0, 1] : List Int32).getD j 0
def xMonths (j : Nat) : Int32 := ([31, 28, 31, 30, 31, 30, 31, 31, 30, 31, 30, 31] : List Int32).getD j 0
abbrev mXs : Type := Nat × (Nat → Int32)
def xLen (X : mXs) (k : Nat) : Nat := match k with
  | 0 => 10
  | 1 => 12
  | _ => X.1
def xVal (X : mXs) (k : Nat) : Nat → Int32 := match k with
  | 0 => xWorths
  | 1 => xMonths
  | _ => X.2
def xSl : List Nat := [142, 10]
def xSb : List (List Int32) := [[115, 116, 105, 99, 107, 115, 32, 102, 114, 101, 101, 115, 32, 115, 108, 105, 100, 101, 115, 32, 119, 104, 101, 110, 32, 111, 114, 32, 97, 110, 100, 32, 110, 111, 116, 32, 107, 105, 110, 100, 32, 115, 105, 122, 101, 32, 108, 105, 102, 101, 32, 105, 110, 99, 104, 32, 103, 108, 117, 101, 32, 97, 103, 101, 32, 108, 105, 109, 98, 115, 32, 119, 105, 110, 100, 32, 104, 101, 97, 116, 32, 110, 101, 97, 114, 32, 100, 97, 121, 32, 111, 110, 32, 97, 116, 32, 102, 108, 121, 32, 100, 97, 116, 101, 32, 115, 108, 101, 101, 118, 101, 32, 119, 111, 114, 100, 32, 119, 97, 115, 112, 32, 118, 101, 105, 108, 32, 98, 111, 105, 108, 32, 100, 114, 121, 32, 115, 116, 114, 105, 112, 32], [59, 43, 45, 42, 47, 40, 41, 60, 61, 62]]
/-- the two texts of the Reader: objects 100, 101 outside, their bytes 200, 201; String's own static, the Preconditions' one -/
def mStr (G : mG) (U : State) : Prop :=
  vk_R "StuckRecord$Reader" 107 "sticks frees slides when or and not kind size life inch glue age limbs wind heat near day on at fly date sleeve word wasp veil boil dry strip " (gx G (100 + 0)) U ∧ vk_R "StuckRecord$Reader" 100 ";+-*/()<=>" (gx G (100 + 1)) U ∧
  vk_S 2 xSl xSb (fun i => gx G (100 + i)) (fun i => gx G (200 + i)) (mA G) U U.heap ∧
  va_Z "java/lang/String" "COMPACT_STRINGS" "Z" (.int 1) (mA G) U U.heap ∧ (va_Z "jdk/internal/util/Preconditions" "SIOOBE_FORMATTER" "Ljava/util/function/BiFunction;" .null (mA G) U U.heap ∨ va_Z "jdk/internal/util/Preconditions" "SIOOBE_FORMATTER" "Ljava/util/function/BiFunction;" (.ref (gx G 300)) (mA G) U U.heap)
theorem mStr_moved {G : mG} {s U : State} (hW : s.WarmedH U.vm) (hq : ∀ q : Nat, q < s.heap.size → ¬ mA G q → U.heap[q]? = s.heap[q]?) (h : mStr G s) : mStr G U := by
  obtain ⟨h1, h2, h3, h4, h5⟩ := h
  exact ⟨h1.warm hW, h2.warm hW, (h3.kept hq).moved hW.alike, (h4.kept hq).moved hW.alike, h5.elim (fun h5 => Or.inl ((h5.kept hq).moved hW.alike)) (fun h5 => Or.inr ((h5.kept hq).moved hW.alike))⟩
theorem mStr_same {G : mG} {U U' : State} (hv : U.vm = U'.vm) (hh : U.heap = U'.heap) (h : mStr G U) : mStr G U' := by
  obtain ⟨h1, h2, h3, h4, h5⟩ := h
  have hA : U.vm.Alike U'.vm := by rw [hv]; exact Vm.Alike.refl _
  exact ⟨h1.same hv.symm, h2.same hv.symm, by rw [← hh]; exact h3.moved hA, by rw [← hh]; exact h4.moved hA, by rw [← hh]; exact h5.elim (fun h5 => Or.inl (h5.moved hA)) (fun h5 => Or.inr (h5.moved hA))⟩
def mX (G : mG) (X : mXs) (U : State) : Prop :=
  va_K (gD G) mcl (mty G) U ∧ (∀ w ∈ mNest, va_Nw w U) ∧ (va_AO "StuckRecord$Thing" U ∧ va_AO "StuckRecord$World" U) ∧
  (va_Z "StuckRecord$Asker" "WORTHS" "[I" (.ref (gx G 0)) (mA G) U U.heap ∧ va_Z "StuckRecord$Dates" "MONTHS" "[I" (.ref (gx G 1)) (mA G) U U.heap ∧ mStr G U) ∧
  (∀ k, k < 3 → gx G k < gb G ∧ va_X (gx G k) (xLen X k) (xVal X k) U U.heap)
theorem mNest_warm {s U : State} (hW : s.WarmedH U.vm) : ∀ w ∈ mNest, va_Nw w s → va_Nw w U := by
  intro w hw h
  simp only [mNest, List.mem_cons, List.not_mem_nil, or_false] at hw
  rcases hw with rfl | rfl | rfl | rfl | rfl | rfl | rfl | rfl <;> exact h.warmM hW
theorem mX_moved {G : mG} {X : mXs} {s U : State} (hW : s.WarmedH U.vm) (hz : s.heap.size ≤ U.heap.size) (hb : gb G ≤ s.heap.size) (hq : ∀ q : Nat, q < s.heap.size → ¬ mA G q → U.heap[q]? = s.heap[q]?) (h : mX G X s) : mX G X U := by
  obtain ⟨h1, h2, ⟨h3, h4⟩, ⟨h5, h6, h8⟩, h7⟩ := h
  refine ⟨h1.moved hW.alike, fun w hw => mNest_warm hW w hw (h2 w hw), ⟨h3.moved hW.alike, h4.moved hW.alike⟩, ⟨(h5.kept hq).moved hW.alike, (h6.kept hq).moved hW.alike, mStr_moved hW hq h8⟩, fun k hk => ?_⟩
  obtain ⟨a, b⟩ := h7 k hk
  exact ⟨a, (b.kept (hq _ (by omega) (fun z => by unfold mA at z; omega))).moved hW.alike⟩
abbrev mw (f : mI) : List Cond := Cond.code (iy f) (ib f) (il f) (ir f) :: mW
abbrev mRm (d : Nat) (f : mI) : Room := { frames := d, cells := ic f, slots := is_ f, locals := 64 * d }
def mC (G : mG) (X : mXs) (f : mI) (p : Program) (s : State) (m : MethodId) (args : Array Value) (meth : Method) (c : Code) : Prop :=
  p.tables.exec = Jvm.exec ∧ c.code = ib f ∧ meth.sig.returnType = ir f ∧ (∀ w ∈ mw f, w.before args s = true) ∧ s.vm.findClass (iy f).cls = some m.cls ∧ c.maxLocals = il f ∧ meth.locks = false ∧ meth.name = (iy f).name ∧ mX G X s ∧ gb G ≤ s.heap.size
def mQ (G : mG) (f : mI) (Q : Option Value → mH → Prop) : Array Value → State → Outcome → State → Prop := fun _ st o t =>
  (∃ (r : Option Value) (u : mH), o = .returned (r.map (tv G)) ∧ Q r u ∧ mS G u t.heap ∧ st.heap.size + ic f = gb G + u.length) ∧ va_F (mA G) st t
/-- the locals: a place with a number or a reference holds it -/
def mL (G : mG) (nL : Nat) (ls : List Value) (a : Array Slot) : Prop :=
  ls.length = nL ∧ a.size = nL ∧ lv_wf a ∧ ∀ (i : Nat) (v : Value), ls[i]? = some v → v.category = 1 → a[i]? = some (.val (tv G v))
def wp (X : mXs) (d : Nat) (f : mI) (kn : Nat × Nat) (pc : Nat) (ls st : List Value) (Hm : mH) (Q : Option Value → mH → Prop) : Prop :=
  ∀ (G : mG) (p : Program) (e : Env) (s : State) (m : MethodId) (args : Array Value) (below : List Frame) (meth : Method) (c : Code) (a : Array Slot) (H : Heap) (locs : List Loc),
    mC G X f p s m args meth c → mS G Hm H → va_S (mA G) s.heap H locs → mL G (il f) ls a → s.heap.size + kn.1 = gb G + Hm.length →
    W p (gl G) e (mRm d f) s m args below meth c H locs kn.1 kn.2 (MQ below (mQ G f Q) args s (ic f) (is_ f) (mA G)) (F0 m pc a (st.map (tv G)))
def Sp (X : mXs) (d : Nat) (f : mI) (as : List Value) (Hm : mH) (Q : Option Value → mH → Prop) : Prop :=
  ∀ G : mG, Met (gl G) (iy f) (mw f) (mRm d f) (fun v U => v = (as.map (tv G)).toArray ∧ mS G Hm U.heap ∧ mX G X U ∧ U.heap.size = gb G + Hm.length) (mQ G f Q) (ic f) (is_ f) (mA G)
section MR
variable {X : mXs} {d : Nat} {f : mI} {kn : Nat × Nat} {pc : Nat} {ls st : List Value} {Hm : mH} {Q : Option Value → mH → Prop}
theorem mL_at {G : mG} {nL : Nat} {ls : List Value} {a : Array Slot} (h : mL G nL ls a) {i : Nat} {v : Value} (hi : ls[i]? = some v) (hc : v.category = 1) : a[i]? = some (.val (tv G v)) := h.2.2.2 i v hi hc
theorem mL_has {G : mG} {nL : Nat} {ls : List Value} {a : Array Slot} (h : mL G nL ls a) : lv_has a nL ((ls.mapIdx (fun i v => (i, tv G v))).filter (fun q => q.2.category == 1)) := by
  refine ⟨h.2.1, h.2.2.1, fun q hq => ?_⟩
  obtain ⟨h1, h2⟩ := List.mem_filter.mp hq
  obtain ⟨k, hk⟩ := List.getElem?_of_mem h1
  rw [List.getElem?_mapIdx] at hk
  obtain ⟨v, hv, rfl⟩ := Option.map_eq_some_iff.mp hk
  simp only [tv_cat, beq_iff_eq] at h2
  exact h.2.2.2 k v hv h2
theorem mL_set {G : mG} {nL : Nat} {ls : List Value} {a a' : Array Slot} (h : mL G nL ls a) {i : Nat} {v : Value} (h' : lv_has a' nL ((i, tv G v) :: ((ls.mapIdx (fun i v => (i, tv G v))).filter (fun q => q.2.category == 1)).filter (fun q => !(q.1 == i) && !(q.1 + 1 == i && q.2.category == 2)))) : mL G nL (ls.set i v) a' := by
  refine ⟨by rw [List.length_set]; exact h.1, h'.1, h'.2.1, fun j w hj hw => ?_⟩
  rw [List.getElem?_set] at hj
  by_cases hij : i = j
  · subst hij
    rw [if_pos rfl] at hj
    by_cases hl : i < ls.length
    · rw [if_pos hl] at hj
      cases hj
      exact h'.2.2 (i, tv G v) List.mem_cons_self
    · rw [if_neg hl] at hj
      cases hj
  · rw [if_neg hij] at hj
    refine h'.2.2 (j, tv G w) (List.mem_cons_of_mem _ (List.mem_filter.mpr ⟨List.mem_filter.mpr ⟨?_, ?_⟩, ?_⟩))
    · refine List.mem_of_getElem? (i := j) ?_
      rw [List.getElem?_mapIdx, hj]
      rfl
    · simp [tv_cat, hw]
    · simp [tv_cat, hw, Ne.symm hij]
theorem wp_iconst {n : Int} {v : Int32} (hd : decode (ib f) pc = .ok (.iconst n, 1)) (hv : Int32.ofInt n = v) (k : wp X d f kn (pc + 1) ls (.int v :: st) Hm Q) : wp X d f kn pc ls st Hm Q := by
  intro G p e s m args below meth c a H locs C hS hV hL hz
  exact lv_iconst C.1 C.2.1 hd hv (k G p e s m args below meth c a H locs C hS hV hL hz)
theorem wp_bipush {n : Int} {v : Int32} (hd : decode (ib f) pc = .ok (.bipush n, 2)) (hv : (Int8.ofInt n).toInt32 = v) (k : wp X d f kn (pc + 2) ls (.int v :: st) Hm Q) : wp X d f kn pc ls st Hm Q := by
  intro G p e s m args below meth c a H locs C hS hV hL hz
  exact lv_bipush C.1 C.2.1 hd hv (k G p e s m args below meth c a H locs C hS hV hL hz)
theorem wp_sipush {n : Int} {v : Int32} (hd : decode (ib f) pc = .ok (.sipush n, 3)) (hv : (Int16.ofInt n).toInt32 = v) (k : wp X d f kn (pc + 3) ls (.int v :: st) Hm Q) : wp X d f kn pc ls st Hm Q := by
  intro G p e s m args below meth c a H locs C hS hV hL hz
  exact lv_sipush C.1 C.2.1 hd hv (k G p e s m args below meth c a H locs C hS hV hL hz)
theorem wp_ldc {index : Nat} {v : Int32} (hd : decode (ib f) pc = .ok (.ldc index, 2)) (hw : Cond.constant (iy f).cls index v ∈ mW) (k : wp X d f kn (pc + 2) ls (.int v :: st) Hm Q) : wp X d f kn pc ls st Hm Q := by
  intro G p e s m args below meth c a H locs C hS hV hL hz
  exact lv_ldc C.1 C.2.1 C.2.2.2.2.1 (C.2.2.2.1 _ (List.mem_cons_of_mem _ hw)) hd (k G p e s m args below meth c a H locs C hS hV hL hz)
theorem wp_ldcw {index : Nat} {v : Int32} (hd : decode (ib f) pc = .ok (.ldc_w index, 3)) (hw : Cond.constant (iy f).cls index v ∈ mW) (k : wp X d f kn (pc + 3) ls (.int v :: st) Hm Q) : wp X d f kn pc ls st Hm Q := by
  intro G p e s m args below meth c a H locs C hS hV hL hz
  exact lv_ldcw C.1 C.2.1 C.2.2.2.2.1 (C.2.2.2.1 _ (List.mem_cons_of_mem _ hw)) hd (k G p e s m args below meth c a H locs C hS hV hL hz)
theorem wp_iload_n {n : Fin 4} {i : Nat} {x : Int32} (hd : decode (ib f) pc = .ok (.iload_n n, 1)) (hi : (n : Nat) = i) (hl : ls[i]? = some (.int x)) (k : wp X d f kn (pc + 1) ls (.int x :: st) Hm Q) : wp X d f kn pc ls st Hm Q := by
  intro G p e s m args below meth c a H locs C hS hV hL hz
  exact lv_iload_n C.1 C.2.1 hd hi (mL_at hL hl rfl) (k G p e s m args below meth c a H locs C hS hV hL hz)
theorem wp_iload {i : Nat} {x : Int32} (hd : decode (ib f) pc = .ok (.iload i, 2)) (hl : ls[i]? = some (.int x)) (k : wp X d f kn (pc + 2) ls (.int x :: st) Hm Q) : wp X d f kn pc ls st Hm Q := by
  intro G p e s m args below meth c a H locs C hS hV hL hz
  exact lv_iload C.1 C.2.1 hd (mL_at hL hl rfl) (k G p e s m args below meth c a H locs C hS hV hL hz)
theorem wp_aload_n {n : Fin 4} {i : Nat} {x : Nat} (hd : decode (ib f) pc = .ok (.aload_n n, 1)) (hi : (n : Nat) = i) (hl : ls[i]? = some (.ref x)) (k : wp X d f kn (pc + 1) ls (.ref x :: st) Hm Q) : wp X d f kn pc ls st Hm Q := by
  intro G p e s m args below meth c a H locs C hS hV hL hz
  exact lv_aload_n C.1 C.2.1 hd hi (mL_at hL hl rfl) (k G p e s m args below meth c a H locs C hS hV hL hz)
theorem wp_aload {i : Nat} {x : Nat} (hd : decode (ib f) pc = .ok (.aload i, 2)) (hl : ls[i]? = some (.ref x)) (k : wp X d f kn (pc + 2) ls (.ref x :: st) Hm Q) : wp X d f kn pc ls st Hm Q := by
  intro G p e s m args below meth c a H locs C hS hV hL hz
  exact lv_aload C.1 C.2.1 hd (mL_at hL hl rfl) (k G p e s m args below meth c a H locs C hS hV hL hz)
theorem wp_aload_nN {n : Fin 4} {i : Nat} (hd : decode (ib f) pc = .ok (.aload_n n, 1)) (hi : (n : Nat) = i) (hl : ls[i]? = some .null) (k : wp X d f kn (pc + 1) ls (.null :: st) Hm Q) : wp X d f kn pc ls st Hm Q := by
  intro G p e s m args below meth c a H locs C hS hV hL hz
  exact lv_aload_nN C.1 C.2.1 hd hi (mL_at hL hl rfl) (k G p e s m args below meth c a H locs C hS hV hL hz)
theorem wp_aloadN {i : Nat} (hd : decode (ib f) pc = .ok (.aload i, 2)) (hl : ls[i]? = some .null) (k : wp X d f kn (pc + 2) ls (.null :: st) Hm Q) : wp X d f kn pc ls st Hm Q := by
  intro G p e s m args below meth c a H locs C hS hV hL hz
  exact lv_aloadN C.1 C.2.1 hd (mL_at hL hl rfl) (k G p e s m args below meth c a H locs C hS hV hL hz)
theorem wp_istore_n {n : Fin 4} {i : Nat} {x : Int32} (hd : decode (ib f) pc = .ok (.istore_n n, 1)) (hi : (n : Nat) = i) (hn : i < il f) (k : wp X d f kn (pc + 1) (ls.set i (.int x)) st Hm Q) : wp X d f kn pc ls (.int x :: st) Hm Q := by
  intro G p e s m args below meth c a H locs C hS hV hL hz
  exact lv_istore_n C.1 C.2.1 hd hi (mL_has hL) hn rfl (fun a' h' => k G p e s m args below meth c a' H locs C hS hV (mL_set (v := .int x) hL h') hz)
theorem wp_istore {i : Nat} {x : Int32} (hd : decode (ib f) pc = .ok (.istore i, 2)) (hn : i < il f) (k : wp X d f kn (pc + 2) (ls.set i (.int x)) st Hm Q) : wp X d f kn pc ls (.int x :: st) Hm Q := by
  intro G p e s m args below meth c a H locs C hS hV hL hz
  exact lv_istore C.1 C.2.1 hd (mL_has hL) hn rfl (fun a' h' => k G p e s m args below meth c a' H locs C hS hV (mL_set (v := .int x) hL h') hz)
theorem wp_astore_n {n : Fin 4} {i : Nat} {x : Nat} (hd : decode (ib f) pc = .ok (.astore_n n, 1)) (hi : (n : Nat) = i) (hn : i < il f) (k : wp X d f kn (pc + 1) (ls.set i (.ref x)) st Hm Q) : wp X d f kn pc ls (.ref x :: st) Hm Q := by
  intro G p e s m args below meth c a H locs C hS hV hL hz
  exact lv_astore_n C.1 C.2.1 hd hi (mL_has hL) hn rfl (fun a' h' => k G p e s m args below meth c a' H locs C hS hV (mL_set (v := .ref x) hL h') hz)
theorem wp_astore {i : Nat} {x : Nat} (hd : decode (ib f) pc = .ok (.astore i, 2)) (hn : i < il f) (k : wp X d f kn (pc + 2) (ls.set i (.ref x)) st Hm Q) : wp X d f kn pc ls (.ref x :: st) Hm Q := by
  intro G p e s m args below meth c a H locs C hS hV hL hz
  exact lv_astore C.1 C.2.1 hd (mL_has hL) hn rfl (fun a' h' => k G p e s m args below meth c a' H locs C hS hV (mL_set (v := .ref x) hL h') hz)
theorem wp_astore_nN {n : Fin 4} {i : Nat} (hd : decode (ib f) pc = .ok (.astore_n n, 1)) (hi : (n : Nat) = i) (hn : i < il f) (k : wp X d f kn (pc + 1) (ls.set i .null) st Hm Q) : wp X d f kn pc ls (.null :: st) Hm Q := by
  intro G p e s m args below meth c a H locs C hS hV hL hz
  exact lv_astore_nN C.1 C.2.1 hd hi (mL_has hL) hn rfl (fun a' h' => k G p e s m args below meth c a' H locs C hS hV (mL_set (v := .null) hL h') hz)
theorem wp_astoreN {i : Nat} (hd : decode (ib f) pc = .ok (.astore i, 2)) (hn : i < il f) (k : wp X d f kn (pc + 2) (ls.set i .null) st Hm Q) : wp X d f kn pc ls (.null :: st) Hm Q := by
  intro G p e s m args below meth c a H locs C hS hV hL hz
  exact lv_astoreN C.1 C.2.1 hd (mL_has hL) hn rfl (fun a' h' => k G p e s m args below meth c a' H locs C hS hV (mL_set (v := .null) hL h') hz)
theorem wp_iinc {i : Nat} {n : Int} {x v : Int32} (hd : decode (ib f) pc = .ok (.iinc i n, 3)) (hl : ls[i]? = some (.int x)) (hv : x + Int32.ofInt n = v) (k : wp X d f kn (pc + 3) (ls.set i (.int v)) st Hm Q) : wp X d f kn pc ls st Hm Q := by
  intro G p e s m args below meth c a H locs C hS hV hL hz
  have hm : (i, Value.int x) ∈ ((ls.mapIdx (fun i v => (i, tv G v))).filter (fun q => q.2.category == 1)) := by
    refine List.mem_filter.mpr ⟨List.mem_of_getElem? (i := i) ?_, rfl⟩
    rw [List.getElem?_mapIdx, hl]
    rfl
  obtain ⟨j, hj⟩ := List.getElem?_of_mem hm
  have hn : i < il f := by rw [← hL.1]; exact (List.getElem?_eq_some_iff.mp hl).1
  exact lv_iinc C.1 C.2.1 hd (mL_has hL) hj hv hn rfl (fun a' h' => k G p e s m args below meth c a' H locs C hS hV (mL_set (v := .int v) hL h') hz)
theorem wp_iadd {x y : Int32} (hd : decode (ib f) pc = .ok (.iadd, 1)) (k : wp X d f kn (pc + 1) ls (.int (x + y) :: st) Hm Q) : wp X d f kn pc ls (.int y :: .int x :: st) Hm Q := by
  intro G p e s m args below meth c a H locs C hS hV hL hz
  exact lv_iadd C.1 C.2.1 hd (k G p e s m args below meth c a H locs C hS hV hL hz)
theorem wp_isub {x y : Int32} (hd : decode (ib f) pc = .ok (.isub, 1)) (k : wp X d f kn (pc + 1) ls (.int (x - y) :: st) Hm Q) : wp X d f kn pc ls (.int y :: .int x :: st) Hm Q := by
  intro G p e s m args below meth c a H locs C hS hV hL hz
  exact lv_isub C.1 C.2.1 hd (k G p e s m args below meth c a H locs C hS hV hL hz)
theorem wp_imul {x y : Int32} (hd : decode (ib f) pc = .ok (.imul, 1)) (k : wp X d f kn (pc + 1) ls (.int (x * y) :: st) Hm Q) : wp X d f kn pc ls (.int y :: .int x :: st) Hm Q := by
  intro G p e s m args below meth c a H locs C hS hV hL hz
  exact lv_imul C.1 C.2.1 hd (k G p e s m args below meth c a H locs C hS hV hL hz)
theorem wp_iand {x y : Int32} (hd : decode (ib f) pc = .ok (.iand, 1)) (k : wp X d f kn (pc + 1) ls (.int (x &&& y) :: st) Hm Q) : wp X d f kn pc ls (.int y :: .int x :: st) Hm Q := by
  intro G p e s m args below meth c a H locs C hS hV hL hz
  exact lv_iand C.1 C.2.1 hd (k G p e s m args below meth c a H locs C hS hV hL hz)
theorem wp_ior {x y : Int32} (hd : decode (ib f) pc = .ok (.ior, 1)) (k : wp X d f kn (pc + 1) ls (.int (x ||| y) :: st) Hm Q) : wp X d f kn pc ls (.int y :: .int x :: st) Hm Q := by
  intro G p e s m args below meth c a H locs C hS hV hL hz
  exact lv_ior C.1 C.2.1 hd (k G p e s m args below meth c a H locs C hS hV hL hz)
theorem wp_ixor {x y : Int32} (hd : decode (ib f) pc = .ok (.ixor, 1)) (k : wp X d f kn (pc + 1) ls (.int (x ^^^ y) :: st) Hm Q) : wp X d f kn pc ls (.int y :: .int x :: st) Hm Q := by
  intro G p e s m args below meth c a H locs C hS hV hL hz
  exact lv_ixor C.1 C.2.1 hd (k G p e s m args below meth c a H locs C hS hV hL hz)
theorem wp_ishl {x y : Int32} (hd : decode (ib f) pc = .ok (.ishl, 1)) (k : wp X d f kn (pc + 1) ls (.int (x <<< (y &&& 31)) :: st) Hm Q) : wp X d f kn pc ls (.int y :: .int x :: st) Hm Q := by
  intro G p e s m args below meth c a H locs C hS hV hL hz
  exact lv_ishl C.1 C.2.1 hd (k G p e s m args below meth c a H locs C hS hV hL hz)
theorem wp_ishr {x y : Int32} (hd : decode (ib f) pc = .ok (.ishr, 1)) (k : wp X d f kn (pc + 1) ls (.int (x >>> (y &&& 31)) :: st) Hm Q) : wp X d f kn pc ls (.int y :: .int x :: st) Hm Q := by
  intro G p e s m args below meth c a H locs C hS hV hL hz
  exact lv_ishr C.1 C.2.1 hd (k G p e s m args below meth c a H locs C hS hV hL hz)
theorem wp_idiv {x y : Int32} (hd : decode (ib f) pc = .ok (.idiv, 1)) (hne : ¬ y = 0) (k : wp X d f kn (pc + 1) ls (.int (x / y) :: st) Hm Q) : wp X d f kn pc ls (.int y :: .int x :: st) Hm Q := by
  intro G p e s m args below meth c a H locs C hS hV hL hz
  exact lv_idiv C.1 C.2.1 hd hne (k G p e s m args below meth c a H locs C hS hV hL hz)
theorem wp_irem {x y : Int32} (hd : decode (ib f) pc = .ok (.irem, 1)) (hne : ¬ y = 0) (k : wp X d f kn (pc + 1) ls (.int (x - x / y * y) :: st) Hm Q) : wp X d f kn pc ls (.int y :: .int x :: st) Hm Q := by
  intro G p e s m args below meth c a H locs C hS hV hL hz
  exact lv_irem C.1 C.2.1 hd hne (k G p e s m args below meth c a H locs C hS hV hL hz)
theorem wp_iushr {x y v : Int32} (hd : decode (ib f) pc = .ok (.iushr, 1)) (hv : (x.toUInt32 >>> (y.toUInt32 &&& Int32.toUInt32 31)).toInt32 = v) (k : wp X d f kn (pc + 1) ls (.int v :: st) Hm Q) : wp X d f kn pc ls (.int y :: .int x :: st) Hm Q := by
  intro G p e s m args below meth c a H locs C hS hV hL hz
  exact lv_iushr C.1 C.2.1 hd hv (k G p e s m args below meth c a H locs C hS hV hL hz)
theorem wp_i2c {x v : Int32} (hd : decode (ib f) pc = .ok (.i2c, 1)) (hv : (x.toUInt32 % 65536).toInt32 = v) (k : wp X d f kn (pc + 1) ls (.int v :: st) Hm Q) : wp X d f kn pc ls (.int x :: st) Hm Q := by
  intro G p e s m args below meth c a H locs C hS hV hL hz
  exact lv_i2c C.1 C.2.1 hd hv (k G p e s m args below meth c a H locs C hS hV hL hz)
theorem wp_dup {v : Value} (hd : decode (ib f) pc = .ok (.dup, 1)) (hc : v.category = 1) (k : wp X d f kn (pc + 1) ls (v :: v :: st) Hm Q) : wp X d f kn pc ls (v :: st) Hm Q := by
  intro G p e s m args below meth c a H locs C hS hV hL hz
  exact lv_dup C.1 C.2.1 hd (by rw [tv_cat]; exact hc) (k G p e s m args below meth c a H locs C hS hV hL hz)
theorem wp_dup2 {v w : Value} (hd : decode (ib f) pc = .ok (.dup2, 1)) (hc : v.category = 1) (hc' : w.category = 1) (k : wp X d f kn (pc + 1) ls (v :: w :: v :: w :: st) Hm Q) : wp X d f kn pc ls (v :: w :: st) Hm Q := by
  intro G p e s m args below meth c a H locs C hS hV hL hz
  exact lv_dup2_11 C.1 C.2.1 hd (by rw [tv_cat]; exact hc) (by rw [tv_cat]; exact hc') (k G p e s m args below meth c a H locs C hS hV hL hz)
theorem wp_pop {v : Value} (hd : decode (ib f) pc = .ok (.pop, 1)) (hc : v.category = 1) (k : wp X d f kn (pc + 1) ls st Hm Q) : wp X d f kn pc ls (v :: st) Hm Q := by
  intro G p e s m args below meth c a H locs C hS hV hL hz
  exact lv_pop C.1 C.2.1 hd (by rw [tv_cat]; exact hc) (k G p e s m args below meth c a H locs C hS hV hL hz)
theorem wp_null (hd : decode (ib f) pc = .ok (.aconst_null, 1)) (k : wp X d f kn (pc + 1) ls (.null :: st) Hm Q) : wp X d f kn pc ls st Hm Q := by
  intro G p e s m args below meth c a H locs C hS hV hL hz
  exact lv_null C.1 C.2.1 hd (k G p e s m args below meth c a H locs C hS hV hL hz)
theorem wp_if_eq {x : Int32} {off : Int} (tgt : Nat) (hd : decode (ib f) pc = .ok (.ifCond .eq off, 3)) (ht : (pc : Int) + off = (tgt : Int)) (kt : x = 0 → wp X d f kn tgt ls st Hm Q) (kf : ¬ x = 0 → wp X d f kn (pc + 3) ls st Hm Q) : wp X d f kn pc ls (.int x :: st) Hm Q := by
  intro G p e s m args below meth c a H locs C hS hV hL hz
  exact lv_if_eq C.1 C.2.1 hd ht (fun h => kt h G p e s m args below meth c a H locs C hS hV hL hz) (fun h => kf h G p e s m args below meth c a H locs C hS hV hL hz)
theorem wp_if_ne {x : Int32} {off : Int} (tgt : Nat) (hd : decode (ib f) pc = .ok (.ifCond .ne off, 3)) (ht : (pc : Int) + off = (tgt : Int)) (kt : ¬ x = 0 → wp X d f kn tgt ls st Hm Q) (kf : x = 0 → wp X d f kn (pc + 3) ls st Hm Q) : wp X d f kn pc ls (.int x :: st) Hm Q := by
  intro G p e s m args below meth c a H locs C hS hV hL hz
  exact lv_if_ne C.1 C.2.1 hd ht (fun h => kt h G p e s m args below meth c a H locs C hS hV hL hz) (fun h => kf h G p e s m args below meth c a H locs C hS hV hL hz)
theorem wp_if_lt {x : Int32} {off : Int} (tgt : Nat) (hd : decode (ib f) pc = .ok (.ifCond .lt off, 3)) (ht : (pc : Int) + off = (tgt : Int)) (kt : x < 0 → wp X d f kn tgt ls st Hm Q) (kf : ¬ x < 0 → wp X d f kn (pc + 3) ls st Hm Q) : wp X d f kn pc ls (.int x :: st) Hm Q := by
  intro G p e s m args below meth c a H locs C hS hV hL hz
  exact lv_if_lt C.1 C.2.1 hd ht (fun h => kt h G p e s m args below meth c a H locs C hS hV hL hz) (fun h => kf h G p e s m args below meth c a H locs C hS hV hL hz)
theorem wp_if_ge {x : Int32} {off : Int} (tgt : Nat) (hd : decode (ib f) pc = .ok (.ifCond .ge off, 3)) (ht : (pc : Int) + off = (tgt : Int)) (kt : 0 ≤ x → wp X d f kn tgt ls st Hm Q) (kf : ¬ 0 ≤ x → wp X d f kn (pc + 3) ls st Hm Q) : wp X d f kn pc ls (.int x :: st) Hm Q := by
  intro G p e s m args below meth c a H locs C hS hV hL hz
  exact lv_if_ge C.1 C.2.1 hd ht (fun h => kt h G p e s m args below meth c a H locs C hS hV hL hz) (fun h => kf h G p e s m args below meth c a H locs C hS hV hL hz)
theorem wp_if_gt {x : Int32} {off : Int} (tgt : Nat) (hd : decode (ib f) pc = .ok (.ifCond .gt off, 3)) (ht : (pc : Int) + off = (tgt : Int)) (kt : 0 < x → wp X d f kn tgt ls st Hm Q) (kf : ¬ 0 < x → wp X d f kn (pc + 3) ls st Hm Q) : wp X d f kn pc ls (.int x :: st) Hm Q := by
  intro G p e s m args below meth c a H locs C hS hV hL hz
  exact lv_if_gt C.1 C.2.1 hd ht (fun h => kt h G p e s m args below meth c a H locs C hS hV hL hz) (fun h => kf h G p e s m args below meth c a H locs C hS hV hL hz)
theorem wp_if_le {x : Int32} {off : Int} (tgt : Nat) (hd : decode (ib f) pc = .ok (.ifCond .le off, 3)) (ht : (pc : Int) + off = (tgt : Int)) (kt : x ≤ 0 → wp X d f kn tgt ls st Hm Q) (kf : ¬ x ≤ 0 → wp X d f kn (pc + 3) ls st Hm Q) : wp X d f kn pc ls (.int x :: st) Hm Q := by
  intro G p e s m args below meth c a H locs C hS hV hL hz
  exact lv_if_le C.1 C.2.1 hd ht (fun h => kt h G p e s m args below meth c a H locs C hS hV hL hz) (fun h => kf h G p e s m args below meth c a H locs C hS hV hL hz)
theorem wp_icmp_eq {x y : Int32} {off : Int} (tgt : Nat) (hd : decode (ib f) pc = .ok (.if_icmp .eq off, 3)) (ht : (pc : Int) + off = (tgt : Int)) (kt : x = y → wp X d f kn tgt ls st Hm Q) (kf : ¬ x = y → wp X d f kn (pc + 3) ls st Hm Q) : wp X d f kn pc ls (.int y :: .int x :: st) Hm Q := by
  intro G p e s m args below meth c a H locs C hS hV hL hz
  exact lv_icmp_eq C.1 C.2.1 hd ht (fun h => kt h G p e s m args below meth c a H locs C hS hV hL hz) (fun h => kf h G p e s m args below meth c a H locs C hS hV hL hz)
theorem wp_icmp_ne {x y : Int32} {off : Int} (tgt : Nat) (hd : decode (ib f) pc = .ok (.if_icmp .ne off, 3)) (ht : (pc : Int) + off = (tgt : Int)) (kt : ¬ x = y → wp X d f kn tgt ls st Hm Q) (kf : x = y → wp X d f kn (pc + 3) ls st Hm Q) : wp X d f kn pc ls (.int y :: .int x :: st) Hm Q := by
  intro G p e s m args below meth c a H locs C hS hV hL hz
  exact lv_icmp_ne C.1 C.2.1 hd ht (fun h => kt h G p e s m args below meth c a H locs C hS hV hL hz) (fun h => kf h G p e s m args below meth c a H locs C hS hV hL hz)
theorem wp_icmp_lt {x y : Int32} {off : Int} (tgt : Nat) (hd : decode (ib f) pc = .ok (.if_icmp .lt off, 3)) (ht : (pc : Int) + off = (tgt : Int)) (kt : x < y → wp X d f kn tgt ls st Hm Q) (kf : ¬ x < y → wp X d f kn (pc + 3) ls st Hm Q) : wp X d f kn pc ls (.int y :: .int x :: st) Hm Q := by
  intro G p e s m args below meth c a H locs C hS hV hL hz
  exact lv_icmp_lt C.1 C.2.1 hd ht (fun h => kt h G p e s m args below meth c a H locs C hS hV hL hz) (fun h => kf h G p e s m args below meth c a H locs C hS hV hL hz)
theorem wp_icmp_ge {x y : Int32} {off : Int} (tgt : Nat) (hd : decode (ib f) pc = .ok (.if_icmp .ge off, 3)) (ht : (pc : Int) + off = (tgt : Int)) (kt : y ≤ x → wp X d f kn tgt ls st Hm Q) (kf : ¬ y ≤ x → wp X d f kn (pc + 3) ls st Hm Q) : wp X d f kn pc ls (.int y :: .int x :: st) Hm Q := by
  intro G p e s m args below meth c a H locs C hS hV hL hz
  exact lv_icmp_ge C.1 C.2.1 hd ht (fun h => kt h G p e s m args below meth c a H locs C hS hV hL hz) (fun h => kf h G p e s m args below meth c a H locs C hS hV hL hz)
theorem wp_icmp_gt {x y : Int32} {off : Int} (tgt : Nat) (hd : decode (ib f) pc = .ok (.if_icmp .gt off, 3)) (ht : (pc : Int) + off = (tgt : Int)) (kt : y < x → wp X d f kn tgt ls st Hm Q) (kf : ¬ y < x → wp X d f kn (pc + 3) ls st Hm Q) : wp X d f kn pc ls (.int y :: .int x :: st) Hm Q := by
  intro G p e s m args below meth c a H locs C hS hV hL hz
  exact lv_icmp_gt C.1 C.2.1 hd ht (fun h => kt h G p e s m args below meth c a H locs C hS hV hL hz) (fun h => kf h G p e s m args below meth c a H locs C hS hV hL hz)
theorem wp_icmp_le {x y : Int32} {off : Int} (tgt : Nat) (hd : decode (ib f) pc = .ok (.if_icmp .le off, 3)) (ht : (pc : Int) + off = (tgt : Int)) (kt : x ≤ y → wp X d f kn tgt ls st Hm Q) (kf : ¬ x ≤ y → wp X d f kn (pc + 3) ls st Hm Q) : wp X d f kn pc ls (.int y :: .int x :: st) Hm Q := by
  intro G p e s m args below meth c a H locs C hS hV hL hz
  exact lv_icmp_le C.1 C.2.1 hd ht (fun h => kt h G p e s m args below meth c a H locs C hS hV hL hz) (fun h => kf h G p e s m args below meth c a H locs C hS hV hL hz)
theorem wp_goto {off : Int} (tgt : Nat) (hd : decode (ib f) pc = .ok (.goto off, 3)) (ht : (pc : Int) + off = (tgt : Int)) (k : wp X d f kn tgt ls st Hm Q) : wp X d f kn pc ls st Hm Q := by
  intro G p e s m args below meth c a H locs C hS hV hL hz
  exact lv_goto C.1 C.2.1 hd ht (k G p e s m args below meth c a H locs C hS hV hL hz)
theorem wp_ifnull {x : Nat} {off : Int} (hd : decode (ib f) pc = .ok (.ifnull off, 3)) (k : wp X d f kn (pc + 3) ls st Hm Q) : wp X d f kn pc ls (.ref x :: st) Hm Q := by
  intro G p e s m args below meth c a H locs C hS hV hL hz
  exact lv_ifnull C.1 C.2.1 hd (k G p e s m args below meth c a H locs C hS hV hL hz)
theorem wp_ifnullN {off : Int} (tgt : Nat) (hd : decode (ib f) pc = .ok (.ifnull off, 3)) (ht : (pc : Int) + off = (tgt : Int)) (k : wp X d f kn tgt ls st Hm Q) : wp X d f kn pc ls (.null :: st) Hm Q := by
  intro G p e s m args below meth c a H locs C hS hV hL hz
  exact lv_ifnullN C.1 C.2.1 hd ht (k G p e s m args below meth c a H locs C hS hV hL hz)
theorem wp_ifnonnull {x : Nat} {off : Int} (tgt : Nat) (hd : decode (ib f) pc = .ok (.ifnonnull off, 3)) (ht : (pc : Int) + off = (tgt : Int)) (k : wp X d f kn tgt ls st Hm Q) : wp X d f kn pc ls (.ref x :: st) Hm Q := by
  intro G p e s m args below meth c a H locs C hS hV hL hz
  exact lv_ifnonnull C.1 C.2.1 hd ht (k G p e s m args below meth c a H locs C hS hV hL hz)
theorem wp_ifnonnullN {off : Int} (hd : decode (ib f) pc = .ok (.ifnonnull off, 3)) (k : wp X d f kn (pc + 3) ls st Hm Q) : wp X d f kn pc ls (.null :: st) Hm Q := by
  intro G p e s m args below meth c a H locs C hS hV hL hz
  exact lv_ifnonnullN C.1 C.2.1 hd (k G p e s m args below meth c a H locs C hS hV hL hz)
theorem wp_tsOut {dflt lo hi : Int} {offs : Array Int} {len : Nat} {x : Int32} (tgt : Nat) (hd : decode (ib f) pc = .ok (.tableswitch dflt lo hi offs, len)) (h : x.toInt < lo ∨ hi < x.toInt) (ht : (pc : Int) + dflt = (tgt : Int)) (k : wp X d f kn tgt ls st Hm Q) : wp X d f kn pc ls (.int x :: st) Hm Q := by
  intro G p e s m args below meth c a H locs C hS hV hL hz
  exact lv_tableOut C.1 C.2.1 hd h ht (k G p e s m args below meth c a H locs C hS hV hL hz)
theorem wp_tsIn {dflt lo hi : Int} {offs : Array Int} {len : Nat} {x : Int32} {off : Int} (tgt : Nat) (hd : decode (ib f) pc = .ok (.tableswitch dflt lo hi offs, len)) (h1 : ¬ x.toInt < lo) (h2 : ¬ hi < x.toInt) (ho : offs[(x.toInt - lo).toNat]? = some off) (ht : (pc : Int) + off = (tgt : Int)) (k : wp X d f kn tgt ls st Hm Q) : wp X d f kn pc ls (.int x :: st) Hm Q := by
  intro G p e s m args below meth c a H locs C hS hV hL hz
  exact lv_tableIn C.1 C.2.1 hd h1 h2 ho ht (k G p e s m args below meth c a H locs C hS hV hL hz)
theorem wp_ls {dflt : Int} {ps : Array (Int × Int)} {len : Nat} {x : Int32} {off : Int} (tgt : Nat) (hd : decode (ib f) pc = .ok (.lookupswitch dflt ps, len)) (hp : (ps.toList.zip (ps.toList.drop 1)).all (fun (a, next) => a.1 < next.1) = true) (ho : Op.lookupswitch.offset ps.toList dflt x.toInt = off) (ht : (pc : Int) + off = (tgt : Int)) (k : wp X d f kn tgt ls st Hm Q) : wp X d f kn pc ls (.int x :: st) Hm Q := by
  intro G p e s m args below meth c a H locs C hS hV hL hz
  exact lv_lookup C.1 C.2.1 hd hp ho ht (k G p e s m args below meth c a H locs C hS hV hL hz)
theorem mQ_end {G : mG} {s t : State} {H : Heap} {locs : List Loc} {r : Option Value} {args : Array Value} (hS : mS G Hm H) (hV : va_S (mA G) s.heap H locs) (hz : s.heap.size + kn.1 = gb G + Hm.length) (hk : kn.1 = ic f) (hq : Q r Hm) (ht : t.heap = H) : mQ G f Q args s (.returned (r.map (tv G))) t :=
  ⟨⟨r, Hm, rfl, hq, by rw [ht]; exact hS, by rw [← hk]; exact hz⟩, hV.F ht⟩
theorem wp_iret {v : Int32} {ty : FieldType} (hd : decode (ib f) pc = .ok (.ireturn, 1)) (hr : ir f = some ty) (hn : narrow ty (.int v) = .int v) (hk : kn = (ic f, is_ f)) (hq : Q (some (.int v)) Hm) : wp X d f kn pc ls [.int v] Hm Q := by
  intro G p e s m args below meth c a H locs C hS hV hL hz
  subst hk
  exact W.zret C.1 C.2.1 (C.2.2.1.trans hr) hn (fun t ht _ => mQ_end (r := some (.int v)) hS hV hz rfl hq ht) hV.2.2 hd (hlocks := C.2.2.2.2.2.2.1)
theorem wp_ret (hd : decode (ib f) pc = .ok (.return_, 1)) (hr : ir f = none) (hk : kn = (ic f, is_ f)) (hq : Q none Hm) : wp X d f kn pc ls [] Hm Q := by
  intro G p e s m args below meth c a H locs C hS hV hL hz
  subst hk
  exact W.vret C.1 C.2.1 (C.2.2.1.trans hr) (fun t ht _ => mQ_end (r := none) hS hV hz rfl hq ht) hV.2.2 hd (hlocks := C.2.2.2.2.2.2.1)
theorem wp_aret {v : Value} {n : String} (hd : decode (ib f) pc = .ok (.areturn, 1)) (hr : ir f = some (.object n)) (hv : v = .null ∨ ∃ c, v = .ref c) (hk : kn = (ic f, is_ f)) (hq : Q (some v) Hm) : wp X d f kn pc ls [v] Hm Q := by
  intro G p e s m args below meth c a H locs C hS hV hL hz
  subst hk
  refine W.aret C.1 C.2.1 (C.2.2.1.trans hr) (Or.inl ⟨n, rfl⟩) ?_ (fun t ht _ => mQ_end (r := some v) hS hV hz rfl hq ht) hV.2.2 hd (hlocks := C.2.2.2.2.2.2.1)
  rcases hv with rfl | ⟨c, rfl⟩
  · exact Or.inl rfl
  · exact Or.inr ⟨_, rfl⟩
end MR
