/-! ===== LEVEL 3: constructors: links, rules on a heap B ++ l ===== -/
theorem aI : Cond.arrayClass .int ∈ mW := mW_at 208 (by decide +kernel) rfl
theorem oI2 : Cond.instanceMethod Lib.objectInit ∈ mW := mW_at 172 (by decide +kernel) rfl
theorem oI3 : Cond.code Lib.objectInit ⟨#[0xb1]⟩ 1 none ∈ mW := mW_at 173 (by decide +kernel) rfl
theorem lo_Rec : Cond.methodLink "StuckRecord" 3 Lib.objectInit ∈ mW := mW_at 171 (by decide +kernel) rfl
theorem lo_World : Cond.methodLink "StuckRecord$World" 3 Lib.objectInit ∈ mW := mW_at 179 (by decide +kernel) rfl
theorem lo_Rows : Cond.methodLink "StuckRecord$Rows" 1 Lib.objectInit ∈ mW := mW_at 187 (by decide +kernel) rfl
theorem lo_Thing : Cond.methodLink "StuckRecord$Thing" 1 Lib.objectInit ∈ mW := mW_at 216 (by decide +kernel) rfl
theorem lo_Told : Cond.methodLink "StuckRecord$Told" 3 Lib.objectInit ∈ mW := mW_at 327 (by decide +kernel) rfl
theorem lo_Law : Cond.methodLink "StuckRecord$Law" 3 Lib.objectInit ∈ mW := mW_at 333 (by decide +kernel) rfl
theorem lo_Reader : Cond.methodLink "StuckRecord$Reader" 3 Lib.objectInit ∈ mW := mW_at 401 (by decide +kernel) rfl
theorem lo_Asker : Cond.methodLink "StuckRecord$Asker" 3 Lib.objectInit ∈ mW := mW_at 455 (by decide +kernel) rfl
theorem lo_Layers : Cond.methodLink "StuckRecord$Layers" 3 Lib.objectInit ∈ mW := mW_at 483 (by decide +kernel) rfl
theorem lo_Wings : Cond.methodLink "StuckRecord$Wings" 3 Lib.objectInit ∈ mW := mW_at 496 (by decide +kernel) rfl
theorem lo_Mod : Cond.methodLink "StuckRecordModel" 1 Lib.objectInit ∈ mW := mW_at 1255 (by decide +kernel) rfl
def dF_Asker : List Value := [.null, .null, .null, .null, .null, .null, .int 0]
theorem dv_Asker : ∀ j, j < 7 → defaultValue (y_Asker j) = vp_V dF_Asker j
  | 0, _ => rfl
  | 1, _ => rfl
  | 2, _ => rfl
  | 3, _ => rfl
  | 4, _ => rfl
  | 5, _ => rfl
  | 6, _ => rfl
  | n + 7, h => absurd h (by omega)
def dF_Law : List Value := [.null, .null, .int 0, .null]
theorem dv_Law : ∀ j, j < 4 → defaultValue (y_Law j) = vp_V dF_Law j
  | 0, _ => rfl
  | 1, _ => rfl
  | 2, _ => rfl
  | 3, _ => rfl
  | n + 4, h => absurd h (by omega)
def dF_Layers : List Value := [.null, .null]
theorem dv_Layers : ∀ j, j < 2 → defaultValue (y_Layers j) = vp_V dF_Layers j
  | 0, _ => rfl
  | 1, _ => rfl
  | n + 2, h => absurd h (by omega)
def dF_Reader : List Value := [.null, .int 0, .int 0, .int 0, .null, .null, .int 0, .null, .null, .null, .int 0, .int 0, .null]
theorem dv_Reader : ∀ j, j < 13 → defaultValue (y_Reader j) = vp_V dF_Reader j
  | 0, _ => rfl
  | 1, _ => rfl
  | 2, _ => rfl
  | 3, _ => rfl
  | 4, _ => rfl
  | 5, _ => rfl
  | 6, _ => rfl
  | 7, _ => rfl
  | 8, _ => rfl
  | 9, _ => rfl
  | 10, _ => rfl
  | 11, _ => rfl
  | 12, _ => rfl
  | n + 13, h => absurd h (by omega)
def dF_Rows : List Value := [.int 0, .int 0, .null, .int 0]
theorem dv_Rows : ∀ j, j < 4 → defaultValue (y_Rows j) = vp_V dF_Rows j
  | 0, _ => rfl
  | 1, _ => rfl
  | 2, _ => rfl
  | 3, _ => rfl
  | n + 4, h => absurd h (by omega)
def dF_Thing : List Value := [.int 0, .int 0, .int 0, .int 0, .int 0, .int 0, .int 0]
theorem dv_Thing : ∀ j, j < 7 → defaultValue (y_Thing j) = vp_V dF_Thing j
  | 0, _ => rfl
  | 1, _ => rfl
  | 2, _ => rfl
  | 3, _ => rfl
  | 4, _ => rfl
  | 5, _ => rfl
  | 6, _ => rfl
  | n + 7, h => absurd h (by omega)
def dF_Told : List Value := [.null, .null, .null, .null, .null, .null, .null, .null, .null]
theorem dv_Told : ∀ j, j < 9 → defaultValue (y_Told j) = vp_V dF_Told j
  | 0, _ => rfl
  | 1, _ => rfl
  | 2, _ => rfl
  | 3, _ => rfl
  | 4, _ => rfl
  | 5, _ => rfl
  | 6, _ => rfl
  | 7, _ => rfl
  | 8, _ => rfl
  | n + 9, h => absurd h (by omega)
def dF_Wings : List Value := [.null, .null, .null]
theorem dv_Wings : ∀ j, j < 3 → defaultValue (y_Wings j) = vp_V dF_Wings j
  | 0, _ => rfl
  | 1, _ => rfl
  | 2, _ => rfl
  | n + 3, h => absurd h (by omega)
def dF_World : List Value := [.null, .null, .null, .null, .null, .int 0, .int 0, .int 0, .int 0, .int 0, .int 0, .int 0, .int 0]
theorem dv_World : ∀ j, j < 13 → defaultValue (y_World j) = vp_V dF_World j
  | 0, _ => rfl
  | 1, _ => rfl
  | 2, _ => rfl
  | 3, _ => rfl
  | 4, _ => rfl
  | 5, _ => rfl
  | 6, _ => rfl
  | 7, _ => rfl
  | 8, _ => rfl
  | 9, _ => rfl
  | 10, _ => rfl
  | 11, _ => rfl
  | 12, _ => rfl
  | n + 13, h => absurd h (by omega)
def dF_Rec : List Value := [.null, .null, .null, .null, .int 0, .null, .int 0, .int 0, .null, .null, .null, .null, .null]
theorem dv_Rec : ∀ j, j < 13 → defaultValue (y_Rec j) = vp_V dF_Rec j
  | 0, _ => rfl
  | 1, _ => rfl
  | 2, _ => rfl
  | 3, _ => rfl
  | 4, _ => rfl
  | 5, _ => rfl
  | 6, _ => rfl
  | 7, _ => rfl
  | 8, _ => rfl
  | 9, _ => rfl
  | 10, _ => rfl
  | 11, _ => rfl
  | 12, _ => rfl
  | n + 13, h => absurd h (by omega)
def dF_Mod : List Value := [.int 0, .null, .null, .int 0, .null, .int 0, .null, .null, .int 0, .int 0, .int 0, .int 0, .int 0, .null, .null, .null, .null, .null, .null, .null, .null, .int 0, .int 0, .int 0, .null, .int 0, .int 0, .int 0, .int 0, .int 0, .int 0, .null, .int 0, .null, .int 0, .null, .null, .null, .null, .int 0, .null, .null, .int 0, .null, .null, .int 0, .null, .null, .null, .null, .null, .null, .int 0, .int 0, .int 0, .null]
theorem dv_Mod : ∀ j, j < 56 → defaultValue (y_Mod j) = vp_V dF_Mod j
  | 0, _ => rfl
  | 1, _ => rfl
  | 2, _ => rfl
  | 3, _ => rfl
  | 4, _ => rfl
  | 5, _ => rfl
  | 6, _ => rfl
  | 7, _ => rfl
  | 8, _ => rfl
  | 9, _ => rfl
  | 10, _ => rfl
  | 11, _ => rfl
  | 12, _ => rfl
  | 13, _ => rfl
  | 14, _ => rfl
  | 15, _ => rfl
  | 16, _ => rfl
  | 17, _ => rfl
  | 18, _ => rfl
  | 19, _ => rfl
  | 20, _ => rfl
  | 21, _ => rfl
  | 22, _ => rfl
  | 23, _ => rfl
  | 24, _ => rfl
  | 25, _ => rfl
  | 26, _ => rfl
  | 27, _ => rfl
  | 28, _ => rfl
  | 29, _ => rfl
  | 30, _ => rfl
  | 31, _ => rfl
  | 32, _ => rfl
  | 33, _ => rfl
  | 34, _ => rfl
  | 35, _ => rfl
  | 36, _ => rfl
  | 37, _ => rfl
  | 38, _ => rfl
  | 39, _ => rfl
  | 40, _ => rfl
  | 41, _ => rfl
  | 42, _ => rfl
  | 43, _ => rfl
  | 44, _ => rfl
  | 45, _ => rfl
  | 46, _ => rfl
  | 47, _ => rfl
  | 48, _ => rfl
  | 49, _ => rfl
  | 50, _ => rfl
  | 51, _ => rfl
  | 52, _ => rfl
  | 53, _ => rfl
  | 54, _ => rfl
  | 55, _ => rfl
  | n + 56, h => absurd h (by omega)
theorem ln_law_7 : Ln "StuckRecordLaw" 7 9 dF_Rec := ⟨R_Rec, F_Rec, 13, y_Rec, rfl, rfl, i_Rec, y_Rec_ok, dv_Rec, mW_at 166 (by decide +kernel) rfl, mW_at 167 (by decide +kernel) rfl, mW_at 145 (by decide +kernel) rfl, rfl⟩
theorem ln_Rec_9 : Ln "StuckRecord" 9 8 dF_World := ⟨R_World, F_World, 13, y_World, rfl, rfl, i_World, y_World_ok, dv_World, mW_at 174 (by decide +kernel) rfl, mW_at 175 (by decide +kernel) rfl, mW_at 146 (by decide +kernel) rfl, rfl⟩
theorem ln_World_21 : Ln "StuckRecord$World" 21 5 dF_Thing := ⟨R_Thing, F_Thing, 7, y_Thing, rfl, rfl, i_Thing, y_Thing_ok, dv_Thing, mW_at 180 (by decide +kernel) rfl, mW_at 212 (by decide +kernel) rfl, mW_at 149 (by decide +kernel) rfl, rfl⟩
theorem ln_World_27 : Ln "StuckRecord$World" 27 4 dF_Rows := ⟨R_Rows, F_Rows, 4, y_Rows, rfl, rfl, i_Rows, y_Rows_ok, dv_Rows, mW_at 182 (by decide +kernel) rfl, mW_at 183 (by decide +kernel) rfl, mW_at 147 (by decide +kernel) rfl, rfl⟩
theorem ln_Rec_16 : Ln "StuckRecord" 16 6 dF_Told := ⟨R_Told, F_Told, 9, y_Told, rfl, rfl, i_Told, y_Told_ok, dv_Told, mW_at 322 (by decide +kernel) rfl, mW_at 323 (by decide +kernel) rfl, mW_at 150 (by decide +kernel) rfl, rfl⟩
theorem ln_Told_9 : Ln "StuckRecord$Told" 9 1 dF_Law := ⟨R_Law, F_Law, 4, y_Law, rfl, rfl, i_Law, y_Law_ok, dv_Law, mW_at 328 (by decide +kernel) rfl, mW_at 329 (by decide +kernel) rfl, mW_at 151 (by decide +kernel) rfl, rfl⟩
theorem ln_Law_9 : Ln "StuckRecord$Law" 9 4 dF_Rows := ⟨R_Rows, F_Rows, 4, y_Rows, rfl, rfl, i_Rows, y_Rows_ok, dv_Rows, mW_at 334 (by decide +kernel) rfl, mW_at 183 (by decide +kernel) rfl, mW_at 147 (by decide +kernel) rfl, rfl⟩
theorem ln_Told_18 : Ln "StuckRecord$Told" 18 4 dF_Rows := ⟨R_Rows, F_Rows, 4, y_Rows, rfl, rfl, i_Rows, y_Rows_ok, dv_Rows, mW_at 353 (by decide +kernel) rfl, mW_at 183 (by decide +kernel) rfl, mW_at 147 (by decide +kernel) rfl, rfl⟩
theorem ln_Rec_44 : Ln "StuckRecord" 44 3 dF_Reader := ⟨R_Reader, F_Reader, 13, y_Reader, rfl, rfl, i_Reader, y_Reader_ok, dv_Reader, mW_at 396 (by decide +kernel) rfl, mW_at 397 (by decide +kernel) rfl, mW_at 152 (by decide +kernel) rfl, rfl⟩
theorem ln_Reader_25 : Ln "StuckRecord$Reader" 25 4 dF_Rows := ⟨R_Rows, F_Rows, 4, y_Rows, rfl, rfl, i_Rows, y_Rows_ok, dv_Rows, mW_at 402 (by decide +kernel) rfl, mW_at 183 (by decide +kernel) rfl, mW_at 147 (by decide +kernel) rfl, rfl⟩
theorem ln_Rec_54 : Ln "StuckRecord" 54 0 dF_Asker := ⟨R_Asker, F_Asker, 7, y_Asker, rfl, rfl, i_Asker, y_Asker_ok, dv_Asker, mW_at 450 (by decide +kernel) rfl, mW_at 451 (by decide +kernel) rfl, mW_at 153 (by decide +kernel) rfl, rfl⟩
theorem ln_Rec_61 : Ln "StuckRecord" 61 2 dF_Layers := ⟨R_Layers, F_Layers, 2, y_Layers, rfl, rfl, i_Layers, y_Layers_ok, dv_Layers, mW_at 478 (by decide +kernel) rfl, mW_at 479 (by decide +kernel) rfl, mW_at 154 (by decide +kernel) rfl, rfl⟩
theorem ln_Rec_68 : Ln "StuckRecord" 68 7 dF_Wings := ⟨R_Wings, F_Wings, 3, y_Wings, rfl, rfl, i_Wings, y_Wings_ok, dv_Wings, mW_at 491 (by decide +kernel) rfl, mW_at 492 (by decide +kernel) rfl, mW_at 155 (by decide +kernel) rfl, rfl⟩
theorem ln_law_10 : Ln "StuckRecordLaw" 10 10 dF_Mod := ⟨R_Mod, F_Mod, 56, y_Mod, rfl, rfl, i_Mod, y_Mod_ok, dv_Mod, mW_at 1250 (by decide +kernel) rfl, mW_at 1251 (by decide +kernel) rfl, mW_at 156 (by decide +kernel) rfl, rfl⟩
theorem lan_World_21 : Cond.classLink "StuckRecord$World" 21 "StuckRecord$Thing" ∈ mW := mW_at 180 (by decide +kernel) rfl
theorem lan_Rec_9 : Cond.classLink "StuckRecord" 9 "StuckRecord$World" ∈ mW := mW_at 174 (by decide +kernel) rfl
/-- a constructor's contract: from the fresh object behind B to its block -/
def Con (e : Nat) (X : mXs) (d : Nat) (g : mI) (as : List Value) (ci : Nat) (fs : List Value) (blk : Nat → List mE) : Prop := ∀ (B : mH) (b : Nat) (Q : Option Value → mH → Prop), B.length = b → b ≤ e → Q none (B ++ blk b) → Sp X d g (.ref b :: as) (B ++ [.inr (ci, fs)]) Q
theorem q_ltb {a b : Nat} (h : Nat.ble (a + 1) b = true) : a < b := Nat.le_of_ble_eq_true h
theorem q_leb {a b : Nat} (h : Nat.ble a b = true) : a ≤ b := Nat.le_of_ble_eq_true h
theorem bl_at {B l : mH} {b k : Nat} {q : mE} (hB : B.length = b) (h : l[k]? = some q) : (B ++ l)[b + k]? = some q := by
  rw [List.getElem?_append_right (by omega), show b + k - B.length = k by omega]; exact h
theorem bl_set {B l : mH} {b k : Nat} {q : mE} (hB : B.length = b) : (B ++ l).set (b + k) q = B ++ l.set k q := by
  rw [List.set_append_right _ _ (by omega), show b + k - B.length = k by omega]
section WB
variable {X : mXs} {d : Nat} {f g : mI} {kn kn' : Nat × Nat} {pc : Nat} {ls st : List Value} {Q : Option Value → mH → Prop} {B l l' : mH} {b : Nat}
theorem wb_newa {n m : Nat} {i : Int32} (hB : B.length = b) (hd : decode (ib f) pc = .ok (.newarray .int, 2)) (hi : ix i m) (hm : m ≤ 100000) (hkn : kn' = (kn.1 + 1, kn.2 + m)) (hc : kn.1 + 1 ≤ ic f) (hs : kn.2 + m ≤ is_ f) (hn : l.length = n) (hlen : b + n < 100000) (hl : l ++ [.inl (0, m, fun _ => 0)] = l')
    (kk : wp X d f kn' (pc + 2) ls (.ref (b + n) :: st) (B ++ l') Q) : wp X d f kn pc ls (.int i :: st) (B ++ l) Q := by
  refine wp_newa hd aI hi hm hkn hc hs (by rw [List.length_append]; omega) ?_
  rw [List.length_append, hB, hn, List.append_assoc, hl]
  exact kk
theorem wb_anew {C0 : String} {t index n m : Nat} {i : Int32} (hB : B.length = b) (hd : decode (ib f) pc = .ok (.anewarray index, 3)) (hw : Cond.classLink (iy f).cls index C0 ∈ mW) (ht : (t = 1 ∧ C0 = "StuckRecord$Thing") ∨ (t = 2 ∧ C0 = "StuckRecord$World")) (hi : ix i m) (hm : m ≤ 100000) (hkn : kn' = (kn.1 + 1, kn.2 + m)) (hc : kn.1 + 1 ≤ ic f) (hs : kn.2 + m ≤ is_ f) (hn : l.length = n) (hlen : b + n < 100000) (hl : l ++ [.inl (t, m, fun _ => -1)] = l')
    (kk : wp X d f kn' (pc + 3) ls (.ref (b + n) :: st) (B ++ l') Q) : wp X d f kn pc ls (.int i :: st) (B ++ l) Q := by
  refine wp_anew hd hw ht hi hm hkn hc hs (by rw [List.length_append]; omega) ?_
  rw [List.length_append, hB, hn, List.append_assoc, hl]
  exact kk
theorem wb_new {index ci n : Nat} {fs : List Value} (hB : B.length = b) (hd : decode (ib f) pc = .ok (.new index, 3)) (hw : Ln (iy f).cls index ci fs) (hkn : kn' = (kn.1 + 1, kn.2 + fs.length)) (hc : kn.1 + 1 ≤ ic f) (hs : kn.2 + fs.length ≤ is_ f) (hn : l.length = n) (hlen : b + n < 100000) (hl : l ++ [.inr (ci, fs)] = l')
    (kk : wp X d f kn' (pc + 3) ls (.ref (b + n) :: st) (B ++ l') Q) : wp X d f kn pc ls st (B ++ l) Q := by
  refine wp_new hd hw hkn hc hs (by rw [List.length_append]; omega) ?_
  rw [List.length_append, hB, hn, List.append_assoc, hl]
  exact kk
theorem wb_put {index ci k j : Nat} {fs : List Value} {v : Value} {ty : FieldType} {fin : Bool} (hB : B.length = b) (hd : decode (ib f) pc = .ok (.putfield index, 3)) (hl : Lp (iy f).cls index ci k ty fin) (hfin : fin = true → (iy f).name = "<init>") (hc : l[j]? = some (.inr (ci, fs))) (hk : k < fs.length) (hv : ∀ G, narrow ty (tv G v) = tv G v ∧ fits ty (tv G v) = true) (hl' : l.set j (.inr (ci, fs.set k v)) = l')
    (kk : wp X d f kn (pc + 3) ls st (B ++ l') Q) : wp X d f kn pc ls (v :: .ref (b + j) :: st) (B ++ l) Q := by
  refine wp_put hd hl hfin (bl_at hB hc) hk hv ?_
  rw [bl_set hB, hl']
  exact kk
theorem wb_get {index ci k j : Nat} {fs : List Value} {v : Value} (hB : B.length = b) (hd : decode (ib f) pc = .ok (.getfield index, 3)) (hl : Lf (iy f).cls index ci k) (hc : l[j]? = some (.inr (ci, fs))) (hv : fs[k]? = some v)
    (kk : wp X d f kn (pc + 3) ls (v :: st) (B ++ l) Q) : wp X d f kn pc ls (.ref (b + j) :: st) (B ++ l) Q := wp_get hd hl (bl_at hB hc) hv kk
theorem wb_iast {c0 j n : Nat} {h : Nat → Int32} {i x : Int32} (hB : B.length = b) (hd : decode (ib f) pc = .ok (.iastore, 1)) (hc : l[c0]? = some (.inl (0, n, h))) (hi : ix i j) (hj : j < n) (hl' : l.set c0 (.inl (0, n, upd h j x)) = l')
    (kk : wp X d f kn (pc + 1) ls st (B ++ l') Q) : wp X d f kn pc ls (.int x :: .int i :: .ref (b + c0) :: st) (B ++ l) Q := by
  refine wp_iast hd (bl_at hB hc) hi hj ?_
  rw [bl_set hB, hl']
  exact kk
theorem wb_init {e index n j : Nat} {as fs : List Value} {ci : Nat} {blk : Nat → List mE} {l0 : mH} (as0 : List Value) (has : as0 = as.reverse ++ .ref (b + j) :: st) (hB : B.length = b) (hd : decode (ib f) pc = .ok (.invokespecial index, 3)) (hc : Lc g n) (hl : Li (iy f).cls index g) (hn : as.length = n) (hst : stOk st = true)
    (hkn : kn' = (kn.1 + ic g, kn.2 + is_ g)) (hf : kn.1 + ic g ≤ ic f ∧ kn.2 + is_ g ≤ is_ f) (hC : Con e X d g as ci fs blk) (hl0 : l = l0 ++ [.inr (ci, fs)]) (hj : l0.length = j) (hb : b + j ≤ e) (hl' : l0 ++ blk (b + j) = l')
    (kk : wp X (d + 1) f kn' (pc + 3) ls st (B ++ l') Q) : wp X (d + 1) f kn pc ls as0 (B ++ l) Q := by
  subst has
  refine wp_callI hd hc hl hn hst hkn hf ?_
  rw [hl0, ← List.append_assoc]
  refine hC (B ++ l0) (b + j) _ (by rw [List.length_append]; omega) hb ?_
  rw [List.append_assoc, hl']
  exact kk
theorem wb_initN {e index n j : Nat} {as fs : List Value} {host : String} {ci : Nat} {blk : Nat → List mE} {l0 : mH} (as0 : List Value) (has : as0 = as.reverse ++ .ref (b + j) :: st) (hB : B.length = b) (hd : decode (ib f) pc = .ok (.invokespecial index, 3)) (hc : Lc g n) (hl : LiN (iy f).cls index g host) (hn : as.length = n) (hst : stOk st = true)
    (hkn : kn' = (kn.1 + ic g, kn.2 + is_ g)) (hf : kn.1 + ic g ≤ ic f ∧ kn.2 + is_ g ≤ is_ f) (hC : Con e X d g as ci fs blk) (hl0 : l = l0 ++ [.inr (ci, fs)]) (hj : l0.length = j) (hb : b + j ≤ e) (hl' : l0 ++ blk (b + j) = l')
    (kk : wp X (d + 1) f kn' (pc + 3) ls st (B ++ l') Q) : wp X (d + 1) f kn pc ls as0 (B ++ l) Q := by
  subst has
  refine wp_callIN hd hc hl hn hst hkn hf ?_
  rw [hl0, ← List.append_assoc]
  refine hC (B ++ l0) (b + j) _ (by rw [List.length_append]; omega) hb ?_
  rw [List.append_assoc, hl']
  exact kk
end WB
