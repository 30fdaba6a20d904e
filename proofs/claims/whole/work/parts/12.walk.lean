/-! ===== calls over the layout, truth values ===== -/
abbrev mcons (r : Option Value) (st : List Value) : List Value := match r with
  | some v => v :: st
  | none => st
theorem mcons_eq (r : Option Value) (st : List Value) : r.toList ++ st = mcons r st := by cases r <;> rfl
def bI (p : Bool) : Int32 := if p then 1 else 0
theorem bI_t : bI true = 1 := rfl
theorem bI_f : bI false = 0 := rfl
theorem bI_narrow (p : Bool) : narrow .boolean (.int (bI p)) = .int (bI p) := by cases p <;> rfl
theorem bI_fits (p : Bool) : narrow .boolean (.int (bI p)) = .int (bI p) ∧ fits .boolean (.int (bI p)) = true := by cases p <;> exact ⟨rfl, rfl⟩
def inR (v a b : Int32) : Bool := !decide (v < a) && !decide (b < v)
theorem qF {Q : Option Value → mH → Prop} {Hm : mH} {p : Bool} (hp : p = false) (h : Q (some (.int (bI p))) Hm) : Q (some (.int (nI 0))) Hm := by subst hp; exact h
theorem qT {Q : Option Value → mH → Prop} {Hm : mH} {p : Bool} (hp : p = true) (h : Q (some (.int (bI p))) Hm) : Q (some (.int (nI 1))) Hm := by subst hp; exact h
theorem qE {Q : Option Value → mH → Prop} {Hm : mH} {v w : Int32} (e : v = w) (h : Q (some (.int w)) Hm) : Q (some (.int v)) Hm := by subst e; exact h
/-- the first place, of n from t on, at which p holds -/
def fi (p : Nat → Bool) : Nat → Nat → Option Nat
  | 0, _ => none
  | n + 1, t => if p t then some t else fi p n (t + 1)
def oI (r : Option Nat) : Int32 := match r with
  | some t => nI t
  | none => -1
section MW
variable {X : mXs} {d : Nat} {f g : mI} {kn : Nat × Nat} {pc : Nat} {ls st : List Value} {M : mM} {Q : Option Value → mH → Prop}
theorem wb_eq {p : Bool} {off : Int} (tgt : Nat) {Hm : mH} (hd : decode (ib f) pc = .ok (.ifCond .eq off, 3)) (ht : (pc : Int) + off = (tgt : Int)) (kt : p = false → wp X d f kn tgt ls st Hm Q) (kf : p = true → wp X d f kn (pc + 3) ls st Hm Q) : wp X d f kn pc ls (.int (bI p) :: st) Hm Q :=
  wp_if_eq tgt hd ht (fun h => kt (by cases p with | false => rfl | true => exact absurd h (by decide))) (fun h => kf (by cases p with | false => exact absurd rfl h | true => rfl))
theorem wb_ne {p : Bool} {off : Int} (tgt : Nat) {Hm : mH} (hd : decode (ib f) pc = .ok (.ifCond .ne off, 3)) (ht : (pc : Int) + off = (tgt : Int)) (kt : p = true → wp X d f kn tgt ls st Hm Q) (kf : p = false → wp X d f kn (pc + 3) ls st Hm Q) : wp X d f kn pc ls (.int (bI p) :: st) Hm Q :=
  wp_if_ne tgt hd ht (fun h => kt (by cases p with | false => exact absurd rfl h | true => rfl)) (fun h => kf (by cases p with | false => rfl | true => exact absurd h (by decide)))
theorem wb_iret {p : Bool} {Hm : mH} (hd : decode (ib f) pc = .ok (.ireturn, 1)) (hr : ir f = some .boolean) (hk : kn = (ic f, is_ f)) (hq : Q (some (.int (bI p))) Hm) : wp X d f kn pc ls [.int (bI p)] Hm Q := wp_iret hd hr (bI_narrow p) hk hq
theorem wn_iflt {a : Nat} {off : Int} {Hm : mH} (tgt : Nat) (hd : decode (ib f) pc = .ok (.ifCond .lt off, 3)) (ht : (pc : Int) + off = (tgt : Int)) (ha : a < 2147483648) (kf : wp X d f kn (pc + 3) ls st Hm Q) : wp X d f kn pc ls (.int (nI a) :: st) Hm Q :=
  wp_if_lt tgt hd ht (fun h => absurd h (nI_pos ha)) (fun _ => kf)
theorem wn_ifge {a : Nat} {off : Int} {Hm : mH} (tgt : Nat) (hd : decode (ib f) pc = .ok (.ifCond .ge off, 3)) (ht : (pc : Int) + off = (tgt : Int)) (ha : a < 2147483648) (kt : wp X d f kn tgt ls st Hm Q) : wp X d f kn pc ls (.int (nI a) :: st) Hm Q :=
  wp_if_ge tgt hd ht (fun _ => kt) (fun h => absurd (nI_pos' ha) h)
theorem wn_ifeq {a : Nat} {off : Int} {Hm : mH} (tgt : Nat) (hd : decode (ib f) pc = .ok (.ifCond .eq off, 3)) (ht : (pc : Int) + off = (tgt : Int)) (ha : a < 2147483648) (kt : a = 0 → wp X d f kn tgt ls st Hm Q) (kf : 0 < a → wp X d f kn (pc + 3) ls st Hm Q) : wp X d f kn pc ls (.int (nI a) :: st) Hm Q :=
  wp_if_eq tgt hd ht (fun h => kt ((nI_inj ha (by decide)).mp h)) (fun h => kf (by have := mt (nI_inj ha (b := 0) (by decide)).mpr h; omega))
theorem wn_ifne {a : Nat} {off : Int} {Hm : mH} (tgt : Nat) (hd : decode (ib f) pc = .ok (.ifCond .ne off, 3)) (ht : (pc : Int) + off = (tgt : Int)) (ha : a < 2147483648) (kt : 0 < a → wp X d f kn tgt ls st Hm Q) (kf : a = 0 → wp X d f kn (pc + 3) ls st Hm Q) : wp X d f kn pc ls (.int (nI a) :: st) Hm Q :=
  wp_if_ne tgt hd ht (fun h => kt (by have := mt (nI_inj ha (b := 0) (by decide)).mpr h; omega)) (fun h => kf ((nI_inj ha (by decide)).mp h))
theorem idx_lt {n mo k wd : Nat} (h1 : n < mo) (h2 : k < wd) : n * wd + k < wd * mo := by
  have h3 : (n + 1) * wd ≤ mo * wd := Nat.mul_le_mul_right _ h1
  rw [Nat.add_mul, Nat.one_mul, Nat.mul_comm mo wd] at h3
  omega
theorem kn_eq {kn : Nat × Nat} {g : mI} (ha : ic g = 0 ∧ is_ g = 0) : kn = (kn.1 + ic g, kn.2 + is_ g) := by rw [ha.1, ha.2]; rfl
theorem kn_le {kn : Nat × Nat} {f g : mI} (ha : ic g = 0 ∧ is_ g = 0) (hk : kn.1 ≤ ic f ∧ kn.2 ≤ is_ f) : kn.1 + ic g ≤ ic f ∧ kn.2 + is_ g ≤ is_ f := by rw [ha.1, ha.2]; exact hk
theorem i_nle {a b : Int32} : ¬ a ≤ b ↔ b < a := by
  rw [Int32.le_iff_toInt_le, Int32.lt_iff_toInt_lt]; omega
theorem i_nlt {a b : Int32} : a ≤ b ↔ ¬ b < a := by
  rw [Int32.le_iff_toInt_le, Int32.lt_iff_toInt_lt]; omega
theorem wq_icmp_ge {x y : Int32} {off : Int} (tgt : Nat) {Hm : mH} (hd : decode (ib f) pc = .ok (.if_icmp .ge off, 3)) (ht : (pc : Int) + off = (tgt : Int)) (kt : ¬ x < y → wp X d f kn tgt ls st Hm Q) (kf : x < y → wp X d f kn (pc + 3) ls st Hm Q) : wp X d f kn pc ls (.int y :: .int x :: st) Hm Q := wp_icmp_ge tgt hd ht (fun h => kt (i_nlt.mp h)) (fun h => kf (i_nle.mp h))
theorem wq_icmp_le {x y : Int32} {off : Int} (tgt : Nat) {Hm : mH} (hd : decode (ib f) pc = .ok (.if_icmp .le off, 3)) (ht : (pc : Int) + off = (tgt : Int)) (kt : ¬ y < x → wp X d f kn tgt ls st Hm Q) (kf : y < x → wp X d f kn (pc + 3) ls st Hm Q) : wp X d f kn pc ls (.int y :: .int x :: st) Hm Q := wp_icmp_le tgt hd ht (fun h => kt (i_nlt.mp h)) (fun h => kf (i_nle.mp h))
theorem wq_icmp_gt {x y : Int32} {off : Int} (tgt : Nat) {Hm : mH} (hd : decode (ib f) pc = .ok (.if_icmp .gt off, 3)) (ht : (pc : Int) + off = (tgt : Int)) (kt : y < x → wp X d f kn tgt ls st Hm Q) (kf : ¬ y < x → wp X d f kn (pc + 3) ls st Hm Q) : wp X d f kn pc ls (.int y :: .int x :: st) Hm Q := wp_icmp_gt tgt hd ht (kt) (kf)
theorem wq_icmp_lt {x y : Int32} {off : Int} (tgt : Nat) {Hm : mH} (hd : decode (ib f) pc = .ok (.if_icmp .lt off, 3)) (ht : (pc : Int) + off = (tgt : Int)) (kt : x < y → wp X d f kn tgt ls st Hm Q) (kf : ¬ x < y → wp X d f kn (pc + 3) ls st Hm Q) : wp X d f kn pc ls (.int y :: .int x :: st) Hm Q := wp_icmp_lt tgt hd ht (kt) (kf)
theorem wq_icmp_eq {x y : Int32} {off : Int} (tgt : Nat) {Hm : mH} (hd : decode (ib f) pc = .ok (.if_icmp .eq off, 3)) (ht : (pc : Int) + off = (tgt : Int)) (kt : x = y → wp X d f kn tgt ls st Hm Q) (kf : ¬ x = y → wp X d f kn (pc + 3) ls st Hm Q) : wp X d f kn pc ls (.int y :: .int x :: st) Hm Q := wp_icmp_eq tgt hd ht (kt) (kf)
theorem wq_icmp_ne {x y : Int32} {off : Int} (tgt : Nat) {Hm : mH} (hd : decode (ib f) pc = .ok (.if_icmp .ne off, 3)) (ht : (pc : Int) + off = (tgt : Int)) (kt : ¬ x = y → wp X d f kn tgt ls st Hm Q) (kf : x = y → wp X d f kn (pc + 3) ls st Hm Q) : wp X d f kn pc ls (.int y :: .int x :: st) Hm Q := wp_icmp_ne tgt hd ht (kt) (kf)
theorem wq_if_ge {x : Int32} {off : Int} (tgt : Nat) {Hm : mH} (hd : decode (ib f) pc = .ok (.ifCond .ge off, 3)) (ht : (pc : Int) + off = (tgt : Int)) (kt : ¬ x < 0 → wp X d f kn tgt ls st Hm Q) (kf : x < 0 → wp X d f kn (pc + 3) ls st Hm Q) : wp X d f kn pc ls (.int x :: st) Hm Q := wp_if_ge tgt hd ht (fun h => kt (i_nlt.mp h)) (fun h => kf (i_nle.mp h))
theorem wq_if_le {x : Int32} {off : Int} (tgt : Nat) {Hm : mH} (hd : decode (ib f) pc = .ok (.ifCond .le off, 3)) (ht : (pc : Int) + off = (tgt : Int)) (kt : ¬ 0 < x → wp X d f kn tgt ls st Hm Q) (kf : 0 < x → wp X d f kn (pc + 3) ls st Hm Q) : wp X d f kn pc ls (.int x :: st) Hm Q := wp_if_le tgt hd ht (fun h => kt (i_nlt.mp h)) (fun h => kf (i_nle.mp h))
theorem wq_if_gt {x : Int32} {off : Int} (tgt : Nat) {Hm : mH} (hd : decode (ib f) pc = .ok (.ifCond .gt off, 3)) (ht : (pc : Int) + off = (tgt : Int)) (kt : 0 < x → wp X d f kn tgt ls st Hm Q) (kf : ¬ 0 < x → wp X d f kn (pc + 3) ls st Hm Q) : wp X d f kn pc ls (.int x :: st) Hm Q := wp_if_gt tgt hd ht (kt) (kf)
theorem wq_if_lt {x : Int32} {off : Int} (tgt : Nat) {Hm : mH} (hd : decode (ib f) pc = .ok (.ifCond .lt off, 3)) (ht : (pc : Int) + off = (tgt : Int)) (kt : x < 0 → wp X d f kn tgt ls st Hm Q) (kf : ¬ x < 0 → wp X d f kn (pc + 3) ls st Hm Q) : wp X d f kn pc ls (.int x :: st) Hm Q := wp_if_lt tgt hd ht (kt) (kf)
theorem wq_if_eq {x : Int32} {off : Int} (tgt : Nat) {Hm : mH} (hd : decode (ib f) pc = .ok (.ifCond .eq off, 3)) (ht : (pc : Int) + off = (tgt : Int)) (kt : x = 0 → wp X d f kn tgt ls st Hm Q) (kf : ¬ x = 0 → wp X d f kn (pc + 3) ls st Hm Q) : wp X d f kn pc ls (.int x :: st) Hm Q := wp_if_eq tgt hd ht (kt) (kf)
theorem wq_if_ne {x : Int32} {off : Int} (tgt : Nat) {Hm : mH} (hd : decode (ib f) pc = .ok (.ifCond .ne off, 3)) (ht : (pc : Int) + off = (tgt : Int)) (kt : ¬ x = 0 → wp X d f kn tgt ls st Hm Q) (kf : x = 0 → wp X d f kn (pc + 3) ls st Hm Q) : wp X d f kn pc ls (.int x :: st) Hm Q := wp_if_ne tgt hd ht (kt) (kf)
theorem wl_callV0 {index c0 : Nat} {C0 : String} {T0 : u_T} {N0 ci n : Nat} {ss : List (Option Value)} (hd : decode (ib f) pc = .ok (.invokevirtual index, 3)) (hc : Lc g 0) (hl : Lv (iy f).cls index g) (hst : stOk st = true) (ho : SH[c0]? = some (ci + 3, n, ss)) (hci : mcl[ci]? = some (C0, T0, N0)) (hcl : (iy g).cls = C0) (ha : ic g = 0 ∧ is_ g = 0) (hk : kn.1 ≤ ic f ∧ kn.2 ≤ is_ f)
    (k : Sp X d g [.ref c0] (lay M) (fun r u => wp X (d + 1) f kn (pc + 3) ls (mcons r st) u Q)) : wp X (d + 1) f kn pc ls (.ref c0 :: st) (lay M) Q := by
  refine wp_callV (as := []) hd hc hl rfl hst (lay_at ho) hci hcl (kn_eq ha) (kn_le ha hk) ?_
  simp only [mcons_eq]
  exact k
theorem wl_callS0 {index : Nat} {Hm : mH} (hd : decode (ib f) pc = .ok (.invokestatic index, 3)) (hc : Lc g 0) (hl : Lst (iy f).cls index g) (hst : stOk st = true) (ha : ic g = 0 ∧ is_ g = 0) (hk : kn.1 ≤ ic f ∧ kn.2 ≤ is_ f)
    (k : Sp X d g [] Hm (fun r u => wp X (d + 1) f kn (pc + 3) ls (mcons r st) u Q)) : wp X (d + 1) f kn pc ls (st) Hm Q := by
  refine wp_callS (as := []) hd hc hl rfl hst (kn_eq ha) (kn_le ha hk) ?_
  simp only [mcons_eq]
  exact k
theorem wl_callSN0 {host : String} {index : Nat} {Hm : mH} (hd : decode (ib f) pc = .ok (.invokestatic index, 3)) (hc : Lc g 0) (hl : LsN (iy f).cls index g host) (hst : stOk st = true) (ha : ic g = 0 ∧ is_ g = 0) (hk : kn.1 ≤ ic f ∧ kn.2 ≤ is_ f)
    (k : Sp X d g [] Hm (fun r u => wp X (d + 1) f kn (pc + 3) ls (mcons r st) u Q)) : wp X (d + 1) f kn pc ls (st) Hm Q := by
  refine wp_callSN (as := []) hd hc hl rfl hst (kn_eq ha) (kn_le ha hk) ?_
  simp only [mcons_eq]
  exact k
theorem wl_callV1 {v1 : Value} {index c0 : Nat} {C0 : String} {T0 : u_T} {N0 ci n : Nat} {ss : List (Option Value)} (hd : decode (ib f) pc = .ok (.invokevirtual index, 3)) (hc : Lc g 1) (hl : Lv (iy f).cls index g) (hst : stOk st = true) (ho : SH[c0]? = some (ci + 3, n, ss)) (hci : mcl[ci]? = some (C0, T0, N0)) (hcl : (iy g).cls = C0) (ha : ic g = 0 ∧ is_ g = 0) (hk : kn.1 ≤ ic f ∧ kn.2 ≤ is_ f)
    (k : Sp X d g [.ref c0, v1] (lay M) (fun r u => wp X (d + 1) f kn (pc + 3) ls (mcons r st) u Q)) : wp X (d + 1) f kn pc ls (v1 :: .ref c0 :: st) (lay M) Q := by
  refine wp_callV (as := [v1]) hd hc hl rfl hst (lay_at ho) hci hcl (kn_eq ha) (kn_le ha hk) ?_
  simp only [mcons_eq]
  exact k
theorem wl_callS1 {v1 : Value} {index : Nat} {Hm : mH} (hd : decode (ib f) pc = .ok (.invokestatic index, 3)) (hc : Lc g 1) (hl : Lst (iy f).cls index g) (hst : stOk st = true) (ha : ic g = 0 ∧ is_ g = 0) (hk : kn.1 ≤ ic f ∧ kn.2 ≤ is_ f)
    (k : Sp X d g [v1] Hm (fun r u => wp X (d + 1) f kn (pc + 3) ls (mcons r st) u Q)) : wp X (d + 1) f kn pc ls (v1 :: st) Hm Q := by
  refine wp_callS (as := [v1]) hd hc hl rfl hst (kn_eq ha) (kn_le ha hk) ?_
  simp only [mcons_eq]
  exact k
theorem wl_callSN1 {v1 : Value} {host : String} {index : Nat} {Hm : mH} (hd : decode (ib f) pc = .ok (.invokestatic index, 3)) (hc : Lc g 1) (hl : LsN (iy f).cls index g host) (hst : stOk st = true) (ha : ic g = 0 ∧ is_ g = 0) (hk : kn.1 ≤ ic f ∧ kn.2 ≤ is_ f)
    (k : Sp X d g [v1] Hm (fun r u => wp X (d + 1) f kn (pc + 3) ls (mcons r st) u Q)) : wp X (d + 1) f kn pc ls (v1 :: st) Hm Q := by
  refine wp_callSN (as := [v1]) hd hc hl rfl hst (kn_eq ha) (kn_le ha hk) ?_
  simp only [mcons_eq]
  exact k
theorem wl_callV2 {v1 v2 : Value} {index c0 : Nat} {C0 : String} {T0 : u_T} {N0 ci n : Nat} {ss : List (Option Value)} (hd : decode (ib f) pc = .ok (.invokevirtual index, 3)) (hc : Lc g 2) (hl : Lv (iy f).cls index g) (hst : stOk st = true) (ho : SH[c0]? = some (ci + 3, n, ss)) (hci : mcl[ci]? = some (C0, T0, N0)) (hcl : (iy g).cls = C0) (ha : ic g = 0 ∧ is_ g = 0) (hk : kn.1 ≤ ic f ∧ kn.2 ≤ is_ f)
    (k : Sp X d g [.ref c0, v1, v2] (lay M) (fun r u => wp X (d + 1) f kn (pc + 3) ls (mcons r st) u Q)) : wp X (d + 1) f kn pc ls (v2 :: v1 :: .ref c0 :: st) (lay M) Q := by
  refine wp_callV (as := [v1, v2]) hd hc hl rfl hst (lay_at ho) hci hcl (kn_eq ha) (kn_le ha hk) ?_
  simp only [mcons_eq]
  exact k
theorem wl_callS2 {v1 v2 : Value} {index : Nat} {Hm : mH} (hd : decode (ib f) pc = .ok (.invokestatic index, 3)) (hc : Lc g 2) (hl : Lst (iy f).cls index g) (hst : stOk st = true) (ha : ic g = 0 ∧ is_ g = 0) (hk : kn.1 ≤ ic f ∧ kn.2 ≤ is_ f)
    (k : Sp X d g [v1, v2] Hm (fun r u => wp X (d + 1) f kn (pc + 3) ls (mcons r st) u Q)) : wp X (d + 1) f kn pc ls (v2 :: v1 :: st) Hm Q := by
  refine wp_callS (as := [v1, v2]) hd hc hl rfl hst (kn_eq ha) (kn_le ha hk) ?_
  simp only [mcons_eq]
  exact k
theorem wl_callSN2 {v1 v2 : Value} {host : String} {index : Nat} {Hm : mH} (hd : decode (ib f) pc = .ok (.invokestatic index, 3)) (hc : Lc g 2) (hl : LsN (iy f).cls index g host) (hst : stOk st = true) (ha : ic g = 0 ∧ is_ g = 0) (hk : kn.1 ≤ ic f ∧ kn.2 ≤ is_ f)
    (k : Sp X d g [v1, v2] Hm (fun r u => wp X (d + 1) f kn (pc + 3) ls (mcons r st) u Q)) : wp X (d + 1) f kn pc ls (v2 :: v1 :: st) Hm Q := by
  refine wp_callSN (as := [v1, v2]) hd hc hl rfl hst (kn_eq ha) (kn_le ha hk) ?_
  simp only [mcons_eq]
  exact k
theorem wl_callV3 {v1 v2 v3 : Value} {index c0 : Nat} {C0 : String} {T0 : u_T} {N0 ci n : Nat} {ss : List (Option Value)} (hd : decode (ib f) pc = .ok (.invokevirtual index, 3)) (hc : Lc g 3) (hl : Lv (iy f).cls index g) (hst : stOk st = true) (ho : SH[c0]? = some (ci + 3, n, ss)) (hci : mcl[ci]? = some (C0, T0, N0)) (hcl : (iy g).cls = C0) (ha : ic g = 0 ∧ is_ g = 0) (hk : kn.1 ≤ ic f ∧ kn.2 ≤ is_ f)
    (k : Sp X d g [.ref c0, v1, v2, v3] (lay M) (fun r u => wp X (d + 1) f kn (pc + 3) ls (mcons r st) u Q)) : wp X (d + 1) f kn pc ls (v3 :: v2 :: v1 :: .ref c0 :: st) (lay M) Q := by
  refine wp_callV (as := [v1, v2, v3]) hd hc hl rfl hst (lay_at ho) hci hcl (kn_eq ha) (kn_le ha hk) ?_
  simp only [mcons_eq]
  exact k
theorem wl_callS3 {v1 v2 v3 : Value} {index : Nat} {Hm : mH} (hd : decode (ib f) pc = .ok (.invokestatic index, 3)) (hc : Lc g 3) (hl : Lst (iy f).cls index g) (hst : stOk st = true) (ha : ic g = 0 ∧ is_ g = 0) (hk : kn.1 ≤ ic f ∧ kn.2 ≤ is_ f)
    (k : Sp X d g [v1, v2, v3] Hm (fun r u => wp X (d + 1) f kn (pc + 3) ls (mcons r st) u Q)) : wp X (d + 1) f kn pc ls (v3 :: v2 :: v1 :: st) Hm Q := by
  refine wp_callS (as := [v1, v2, v3]) hd hc hl rfl hst (kn_eq ha) (kn_le ha hk) ?_
  simp only [mcons_eq]
  exact k
theorem wl_callSN3 {v1 v2 v3 : Value} {host : String} {index : Nat} {Hm : mH} (hd : decode (ib f) pc = .ok (.invokestatic index, 3)) (hc : Lc g 3) (hl : LsN (iy f).cls index g host) (hst : stOk st = true) (ha : ic g = 0 ∧ is_ g = 0) (hk : kn.1 ≤ ic f ∧ kn.2 ≤ is_ f)
    (k : Sp X d g [v1, v2, v3] Hm (fun r u => wp X (d + 1) f kn (pc + 3) ls (mcons r st) u Q)) : wp X (d + 1) f kn pc ls (v3 :: v2 :: v1 :: st) Hm Q := by
  refine wp_callSN (as := [v1, v2, v3]) hd hc hl rfl hst (kn_eq ha) (kn_le ha hk) ?_
  simp only [mcons_eq]
  exact k
theorem wl_callV4 {v1 v2 v3 v4 : Value} {index c0 : Nat} {C0 : String} {T0 : u_T} {N0 ci n : Nat} {ss : List (Option Value)} (hd : decode (ib f) pc = .ok (.invokevirtual index, 3)) (hc : Lc g 4) (hl : Lv (iy f).cls index g) (hst : stOk st = true) (ho : SH[c0]? = some (ci + 3, n, ss)) (hci : mcl[ci]? = some (C0, T0, N0)) (hcl : (iy g).cls = C0) (ha : ic g = 0 ∧ is_ g = 0) (hk : kn.1 ≤ ic f ∧ kn.2 ≤ is_ f)
    (k : Sp X d g [.ref c0, v1, v2, v3, v4] (lay M) (fun r u => wp X (d + 1) f kn (pc + 3) ls (mcons r st) u Q)) : wp X (d + 1) f kn pc ls (v4 :: v3 :: v2 :: v1 :: .ref c0 :: st) (lay M) Q := by
  refine wp_callV (as := [v1, v2, v3, v4]) hd hc hl rfl hst (lay_at ho) hci hcl (kn_eq ha) (kn_le ha hk) ?_
  simp only [mcons_eq]
  exact k
theorem wl_callS4 {v1 v2 v3 v4 : Value} {index : Nat} {Hm : mH} (hd : decode (ib f) pc = .ok (.invokestatic index, 3)) (hc : Lc g 4) (hl : Lst (iy f).cls index g) (hst : stOk st = true) (ha : ic g = 0 ∧ is_ g = 0) (hk : kn.1 ≤ ic f ∧ kn.2 ≤ is_ f)
    (k : Sp X d g [v1, v2, v3, v4] Hm (fun r u => wp X (d + 1) f kn (pc + 3) ls (mcons r st) u Q)) : wp X (d + 1) f kn pc ls (v4 :: v3 :: v2 :: v1 :: st) Hm Q := by
  refine wp_callS (as := [v1, v2, v3, v4]) hd hc hl rfl hst (kn_eq ha) (kn_le ha hk) ?_
  simp only [mcons_eq]
  exact k
theorem wl_callSN4 {v1 v2 v3 v4 : Value} {host : String} {index : Nat} {Hm : mH} (hd : decode (ib f) pc = .ok (.invokestatic index, 3)) (hc : Lc g 4) (hl : LsN (iy f).cls index g host) (hst : stOk st = true) (ha : ic g = 0 ∧ is_ g = 0) (hk : kn.1 ≤ ic f ∧ kn.2 ≤ is_ f)
    (k : Sp X d g [v1, v2, v3, v4] Hm (fun r u => wp X (d + 1) f kn (pc + 3) ls (mcons r st) u Q)) : wp X (d + 1) f kn pc ls (v4 :: v3 :: v2 :: v1 :: st) Hm Q := by
  refine wp_callSN (as := [v1, v2, v3, v4]) hd hc hl rfl hst (kn_eq ha) (kn_le ha hk) ?_
  simp only [mcons_eq]
  exact k
theorem wl_callV5 {v1 v2 v3 v4 v5 : Value} {index c0 : Nat} {C0 : String} {T0 : u_T} {N0 ci n : Nat} {ss : List (Option Value)} (hd : decode (ib f) pc = .ok (.invokevirtual index, 3)) (hc : Lc g 5) (hl : Lv (iy f).cls index g) (hst : stOk st = true) (ho : SH[c0]? = some (ci + 3, n, ss)) (hci : mcl[ci]? = some (C0, T0, N0)) (hcl : (iy g).cls = C0) (ha : ic g = 0 ∧ is_ g = 0) (hk : kn.1 ≤ ic f ∧ kn.2 ≤ is_ f)
    (k : Sp X d g [.ref c0, v1, v2, v3, v4, v5] (lay M) (fun r u => wp X (d + 1) f kn (pc + 3) ls (mcons r st) u Q)) : wp X (d + 1) f kn pc ls (v5 :: v4 :: v3 :: v2 :: v1 :: .ref c0 :: st) (lay M) Q := by
  refine wp_callV (as := [v1, v2, v3, v4, v5]) hd hc hl rfl hst (lay_at ho) hci hcl (kn_eq ha) (kn_le ha hk) ?_
  simp only [mcons_eq]
  exact k
theorem wl_callS5 {v1 v2 v3 v4 v5 : Value} {index : Nat} {Hm : mH} (hd : decode (ib f) pc = .ok (.invokestatic index, 3)) (hc : Lc g 5) (hl : Lst (iy f).cls index g) (hst : stOk st = true) (ha : ic g = 0 ∧ is_ g = 0) (hk : kn.1 ≤ ic f ∧ kn.2 ≤ is_ f)
    (k : Sp X d g [v1, v2, v3, v4, v5] Hm (fun r u => wp X (d + 1) f kn (pc + 3) ls (mcons r st) u Q)) : wp X (d + 1) f kn pc ls (v5 :: v4 :: v3 :: v2 :: v1 :: st) Hm Q := by
  refine wp_callS (as := [v1, v2, v3, v4, v5]) hd hc hl rfl hst (kn_eq ha) (kn_le ha hk) ?_
  simp only [mcons_eq]
  exact k
theorem wl_callSN5 {v1 v2 v3 v4 v5 : Value} {host : String} {index : Nat} {Hm : mH} (hd : decode (ib f) pc = .ok (.invokestatic index, 3)) (hc : Lc g 5) (hl : LsN (iy f).cls index g host) (hst : stOk st = true) (ha : ic g = 0 ∧ is_ g = 0) (hk : kn.1 ≤ ic f ∧ kn.2 ≤ is_ f)
    (k : Sp X d g [v1, v2, v3, v4, v5] Hm (fun r u => wp X (d + 1) f kn (pc + 3) ls (mcons r st) u Q)) : wp X (d + 1) f kn pc ls (v5 :: v4 :: v3 :: v2 :: v1 :: st) Hm Q := by
  refine wp_callSN (as := [v1, v2, v3, v4, v5]) hd hc hl rfl hst (kn_eq ha) (kn_le ha hk) ?_
  simp only [mcons_eq]
  exact k
theorem wl_callV6 {v1 v2 v3 v4 v5 v6 : Value} {index c0 : Nat} {C0 : String} {T0 : u_T} {N0 ci n : Nat} {ss : List (Option Value)} (hd : decode (ib f) pc = .ok (.invokevirtual index, 3)) (hc : Lc g 6) (hl : Lv (iy f).cls index g) (hst : stOk st = true) (ho : SH[c0]? = some (ci + 3, n, ss)) (hci : mcl[ci]? = some (C0, T0, N0)) (hcl : (iy g).cls = C0) (ha : ic g = 0 ∧ is_ g = 0) (hk : kn.1 ≤ ic f ∧ kn.2 ≤ is_ f)
    (k : Sp X d g [.ref c0, v1, v2, v3, v4, v5, v6] (lay M) (fun r u => wp X (d + 1) f kn (pc + 3) ls (mcons r st) u Q)) : wp X (d + 1) f kn pc ls (v6 :: v5 :: v4 :: v3 :: v2 :: v1 :: .ref c0 :: st) (lay M) Q := by
  refine wp_callV (as := [v1, v2, v3, v4, v5, v6]) hd hc hl rfl hst (lay_at ho) hci hcl (kn_eq ha) (kn_le ha hk) ?_
  simp only [mcons_eq]
  exact k
theorem wl_callS6 {v1 v2 v3 v4 v5 v6 : Value} {index : Nat} {Hm : mH} (hd : decode (ib f) pc = .ok (.invokestatic index, 3)) (hc : Lc g 6) (hl : Lst (iy f).cls index g) (hst : stOk st = true) (ha : ic g = 0 ∧ is_ g = 0) (hk : kn.1 ≤ ic f ∧ kn.2 ≤ is_ f)
    (k : Sp X d g [v1, v2, v3, v4, v5, v6] Hm (fun r u => wp X (d + 1) f kn (pc + 3) ls (mcons r st) u Q)) : wp X (d + 1) f kn pc ls (v6 :: v5 :: v4 :: v3 :: v2 :: v1 :: st) Hm Q := by
  refine wp_callS (as := [v1, v2, v3, v4, v5, v6]) hd hc hl rfl hst (kn_eq ha) (kn_le ha hk) ?_
  simp only [mcons_eq]
  exact k
theorem wl_callSN6 {v1 v2 v3 v4 v5 v6 : Value} {host : String} {index : Nat} {Hm : mH} (hd : decode (ib f) pc = .ok (.invokestatic index, 3)) (hc : Lc g 6) (hl : LsN (iy f).cls index g host) (hst : stOk st = true) (ha : ic g = 0 ∧ is_ g = 0) (hk : kn.1 ≤ ic f ∧ kn.2 ≤ is_ f)
    (k : Sp X d g [v1, v2, v3, v4, v5, v6] Hm (fun r u => wp X (d + 1) f kn (pc + 3) ls (mcons r st) u Q)) : wp X (d + 1) f kn pc ls (v6 :: v5 :: v4 :: v3 :: v2 :: v1 :: st) Hm Q := by
  refine wp_callSN (as := [v1, v2, v3, v4, v5, v6]) hd hc hl rfl hst (kn_eq ha) (kn_le ha hk) ?_
  simp only [mcons_eq]
  exact k
end MW
