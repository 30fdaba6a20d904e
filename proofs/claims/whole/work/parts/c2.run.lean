/-! ===== what a piece of code does to the stack, both ways ===== -/
abbrev Fs : Type := List (En → Int32)
def vls (env : En) (fs : Fs) : List Int32 := fs.map (fun f => f env)
def RunC (K : Nat → Int32) (b e d : Nat) (fs : Fs) : Prop := b ≤ e ∧ ∀ env st, st.length + d ≤ 64 → cev env K (e - b) b st = some (vls env fs ++ st)
def RunM (O A : Nat → Int32) (b e : Nat) (fs : Fs) : Prop := b ≤ e ∧ ∀ env st, mev env O A (e - b) b st = some (vls env fs ++ st)
/-- the model's drafts -/
abbrev dr (N : mM) (c : Nat) : Nat → Int32 := fun j => N c (800 + j)
section SC2
variable {K K' O O' A A' : Nat → Int32} {b e d e' d' : Nat} {fs fs' gs : Fs}
theorem cev_add {env : En} : ∀ (m1 m2 i : Nat) (st : List Int32), cev env K (m1 + m2) i st = ob1 (cev env K m1 i st) (fun s => cev env K m2 (i + m1) s) := by
  intro m1
  induction m1 with
  | zero =>
    intro m2 i st
    rw [Nat.zero_add, cev, ob1_ok]
    rfl
  | succ m1 ih =>
    intro m2 i st
    rw [show m1 + 1 + m2 = m1 + m2 + 1 by omega, cev, cev]
    cases cst env (K i) st with
    | none => rfl
    | some s =>
      rw [ob1_ok, ob1_ok, ih m2 (i + 1) s, show i + 1 + m1 = i + (m1 + 1) by omega]
theorem mev_add {env : En} : ∀ (m1 m2 i : Nat) (st : List Int32), mev env O A (m1 + m2) i st = ob1 (mev env O A m1 i st) (fun s => mev env O A m2 (i + m1) s) := by
  intro m1
  induction m1 with
  | zero =>
    intro m2 i st
    rw [Nat.zero_add, mev, ob1_ok]
    rfl
  | succ m1 ih =>
    intro m2 i st
    rw [show m1 + 1 + m2 = m1 + m2 + 1 by omega, mev, mev]
    cases mst env (O i) (A i) st with
    | none => rfl
    | some s =>
      rw [ob1_ok, ob1_ok, ih m2 (i + 1) s, show i + 1 + m1 = i + (m1 + 1) by omega]
theorem RunC_nil {b d : Nat} : RunC K b b d [] := ⟨Nat.le_refl _, fun env st _ => by rw [Nat.sub_self]; rfl⟩
theorem RunM_nil {b : Nat} : RunM O A b b [] := ⟨Nat.le_refl _, fun env st => by rw [Nat.sub_self]; rfl⟩
theorem RunC_cg (h : RunC K b e d fs) (hc : ∀ j, b ≤ j → j < e → K' j = K j) : RunC K' b e d fs := ⟨h.1, fun env st hst => by
  rw [cev_cg (e - b) b st (fun j p q => hc j p (by have := h.1; omega))]
  exact h.2 env st hst⟩
theorem RunM_cg (h : RunM O A b e fs) (hc : ∀ j, b ≤ j → j < e → O' j = O j ∧ A' j = A j) : RunM O' A' b e fs := ⟨h.1, fun env st => by
  rw [mev_cg (e - b) b st (fun j p q => hc j p (by have := h.1; omega))]
  exact h.2 env st⟩
theorem RunC_wk (h : RunC K b e d fs) (hd : d ≤ d') : RunC K b e d' fs := ⟨h.1, fun env st hst => h.2 env st (by omega)⟩
/-- one code more -/
theorem RunC_one (h : RunC K b e d fs) (hs : ∀ env st, st.length + d ≤ 64 → cst env (K e) (vls env fs ++ st) = some (vls env fs' ++ st)) : RunC K b (e + 1) d fs' := ⟨by have := h.1; omega, fun env st hst => by
  have hb := h.1
  rw [show e + 1 - b = (e - b) + 1 by omega, cev_add, h.2 env st hst, ob1_ok, cev, show b + (e - b) = e by omega, hs env st hst, ob1_ok, cev]⟩
theorem RunM_one (h : RunM O A b e fs) (hs : ∀ env st, mst env (O e) (A e) (vls env fs ++ st) = some (vls env fs' ++ st)) : RunM O A b (e + 1) fs' := ⟨by have := h.1; omega, fun env st => by
  have hb := h.1
  rw [show e + 1 - b = (e - b) + 1 by omega, mev_add, h.2 env st, ob1_ok, mev, show b + (e - b) = e by omega, hs env st, ob1_ok, mev]⟩
/-- one piece behind the other -/
theorem RunC_app (h : RunC K b e d fs) (h' : RunC K e e' d' gs) (hd : d' + fs.length ≤ d) : RunC K b e' d (gs ++ fs) := ⟨Nat.le_trans h.1 h'.1, fun env st hst => by
  have hb := h.1
  have hb' := h'.1
  rw [show e' - b = (e - b) + (e' - e) by omega, cev_add, h.2 env st hst, ob1_ok, show b + (e - b) = e by omega, h'.2 env _ (by unfold vls; rw [List.length_append, List.length_map]; omega)]
  unfold vls
  rw [List.map_append, List.append_assoc]⟩
theorem RunM_app (h : RunM O A b e fs) (h' : RunM O A e e' gs) : RunM O A b e' (gs ++ fs) := ⟨Nat.le_trans h.1 h'.1, fun env st => by
  have hb := h.1
  have hb' := h'.1
  rw [show e' - b = (e - b) + (e' - e) by omega, mev_add, h.2 env st, ob1_ok, show b + (e - b) = e by omega, h'.2 env _]
  unfold vls
  rw [List.map_append, List.append_assoc]⟩
theorem RunC_den {f : En → Int32} (h : RunC K b e d [f]) (hd : d ≤ 64) : Den K b e f := ⟨h.1, fun env => h.2 env [] (by simp only [List.length_nil]; omega)⟩
theorem RunM_den {f : En → Int32} (h : RunM O A b e [f]) : DenM O A b e f := ⟨h.1, fun env => h.2 env []⟩
theorem nz_ok {B : Type} {v : Nat} {x : B} (h : 1 ≤ v) (h2 : v < 2147483648) : nz (nI v) x = some x := if_neg (fun e => eF (show v ≠ 0 by omega) h2 (by omega) (e.trans (by decide : (0 : Int32) = nI 0)))
/-- what each code does -/
theorem cst_num {env : En} {v : Nat} {st : List Int32} (hv : v < 10000) (hl : st.length < 64) : cst env (nI v) st = some (nI v :: st) := by
  unfold cst
  rw [if_pos (lT (by omega) (by omega)), if_pos hl, if_pos (lT (by omega) (by omega))]
theorem cst_var {env : En} {w : Nat} {st : List Int32} (hw : w < 1000) (hl : st.length < 64) : cst env (nI 10000 + nI w) st = some (vr env (nI w) :: st) := by
  unfold cst
  rw [nadd, if_pos (lT (by omega) (by omega)), if_pos hl, if_neg (lF (by omega) (by omega)), nsb (by omega), show 10000 + w - 10000 = w by omega]
theorem cst_two {env : En} {c : Nat} {x y : Int32} {st : List Int32} (h1 : 11000 ≤ c) (h2 : c < 11008) : cst env (nI c) (y :: x :: st) = some (F_Law_joined (nI c) x y :: st) := by
  unfold cst
  rw [if_neg (lF (by omega) (by omega)), if_neg (fun e => e.elim (fun e => e (lT (by omega) (by omega))) (eF (by omega) (by omega) (by omega)))]
theorem cst_not {env : En} {x : Int32} {st : List Int32} : cst env (nI 11008) (x :: st) = some ((if x = nI 0 then nI 1 else nI 0) :: st) := by
  unfold cst
  rw [if_neg (lF (by omega) (by omega)), if_pos (Or.inr rfl)]
  show ob1 (F_Law_changed (nI 11008) x) _ = _
  unfold F_Law_changed
  rw [if_neg (lF (by omega) (by omega)), ob1_ok]
theorem cst_div {env : En} {v : Nat} {x : Int32} {st : List Int32} (h1 : 1 ≤ v) (h2 : v < 10000) : cst env (nI 20000 + nI v) (x :: st) = some (x / nI v :: st) := by
  unfold cst
  rw [nadd, if_neg (lF (by omega) (by omega)), if_pos (Or.inl (lF (by omega) (by omega)))]
  show ob1 (F_Law_changed (nI (20000 + v)) x) _ = _
  unfold F_Law_changed
  rw [if_pos (lT (by omega) (by omega)), nsb (by omega), show 20000 + v - 20000 = v by omega, nz_ok h1 (by omega), ob1_ok, ob1_ok]
theorem mst_num {env : En} {a : Int32} {st : List Int32} : mst env (nI 0) a st = some (a :: st) := if_pos rfl
theorem mst_var {env : En} {k : Nat} {st : List Int32} (hk : k < 11) : mst env (nI 1) (nI k) st = some (env k :: st) := by
  unfold mst
  rw [if_neg (eF (by omega) (by omega) (by omega)), if_pos rfl, if_pos (inb_nI hk (by omega)), nI_clamp (by omega)]
theorem mst_not {env : En} {a x : Int32} {st : List Int32} : mst env (nI 9) a (x :: st) = some ((nI 1 - x) :: st) := by
  unfold mst
  rw [if_neg (eF (by omega) (by omega) (by omega)), if_neg (eF (by omega) (by omega) (by omega)), if_pos rfl]
theorem mst_two {env : En} {o : Nat} {a x y v : Int32} {st : List Int32} (h1 : 2 ≤ o) (h2 : o < 12) (h9 : o ≠ 9) (hv : F_Mod_twoOf (nI o) x y = some v) : mst env (nI o) a (y :: x :: st) = some (v :: st) := by
  unfold mst
  rw [if_neg (eF (by omega) (by omega) (by omega)), if_neg (eF (by omega) (by omega) (by omega)), if_neg (eF h9 (by omega) (by omega))]
  show ob1 (F_Mod_twoOf (nI o) x y) _ = _
  rw [hv, ob1_ok]
end SC2
