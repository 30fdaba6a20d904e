/-! ===== the class copies what is told ===== -/
section S90
variable {z : Nat} {M : mM} {A : LA} {S F : Rw} {T : Tx}
theorem rows_copy {r0 ro wd mo n : Nat} (hn : M ro 3 = nI n) (hmo : n ≤ mo) (hsz : wd * mo ≤ 2000) (hmo2 : mo ≤ 2000) (hne : ro + 1 ≠ r0) : ∃ M', F_Rows_copyFrom r0 wd mo ro wd mo M = some M' ∧ M' r0 3 = nI n ∧ (∀ j, j < n * wd → M' (r0 + 1) j = M (ro + 1) j) ∧ Fr [r0, r0 + 1] M M' := by
  have hle : n * wd ≤ wd * mo := by
    rw [Nat.mul_comm wd mo]
    exact Nat.mul_le_mul_right wd hmo
  obtain ⟨M1, d1⟩ : ∃ M1, M1 = up M r0 3 (nI n) := ⟨_, rfl⟩
  refine ⟨fil M1 (r0 + 1) 0 (n * wd) (M1 (ro + 1)), ?_, ?_, fun j hj => ?_, fun c' h => ?_⟩
  · unfold F_Rows_copyFrom
    rw [hn, min_n (by omega) (by omega), Nat.min_eq_left hmo, ob1_ok, ob1_ok, ← d1]
    have e3 : M1 r0 3 = nI n := by rw [d1, up_same]
    rw [e3, nmul, min_n (by omega) (by omega), Nat.min_eq_left hle, ob1_ok, wc_ok (by omega) (by omega) (by omega), ob1_ok]
  · rw [fil_ne (by omega), d1, up_same]
  · rw [fil_at, if_pos ⟨Nat.zero_le _, hj⟩, d1, upC hne]
  · simp only [List.mem_cons, List.not_mem_nil, or_false] at h
    rw [fil_ne (by omega), d1, upC (by omega)]
theorem RwG_copy {r0 ro wd : Nat} {M' : mM} {X : Rw} (h : RwG ro wd M X) (h3 : M' r0 3 = nI X.1) (hc : ∀ j, j < X.1 * wd → M' (r0 + 1) j = M (ro + 1) j) : RwG r0 wd M' X :=
  ⟨h3, fun j k hj hk => by
    have h1 : (j + 1) * wd ≤ X.1 * wd := Nat.mul_le_mul_right wd hj
    rw [Nat.succ_mul] at h1
    rw [hc _ (by omega)]
    exact h.2 j k hj hk⟩
theorem RwG_fr {r wd : Nat} {M' : mM} {X : Rw} (h : RwG r wd M X) (e1 : M' r = M r) (e2 : M' (r + 1) = M (r + 1)) : RwG r wd M' X := by
  unfold RwG
  rw [e1, e2]
  exact h
/-- the law is taken over -/
theorem law_copy {l lo : Nat} (hs : lo + 3 < l ∨ l + 4 < lo) (h : CL lo M A) : ∃ M', F_Law_take l (lo + 1) 5 16 (lo + 3) 400 (M lo 2) M = some M' ∧ CL l M' A ∧ Fr [l, l + 1, l + 2, l + 3] M M' := by
  obtain ⟨h16, hN, cs, hcs, h2, hL⟩ := h
  obtain ⟨M1, a1, a2, a3, a4⟩ := rows_copy (M := M) (r0 := l + 1) (ro := lo + 1) (wd := 5) (mo := 16) hN h16 (by omega) (by omega) (by omega)
  have f1 : ∀ c', c' ≠ l + 1 → c' ≠ l + 2 → M1 c' = M c' := fun c' x y => a4 c' (by simp only [List.mem_cons, List.not_mem_nil, or_false]; omega)
  obtain ⟨M2, d2⟩ : ∃ M2, M2 = up M1 l 2 (nI cs) := ⟨_, rfl⟩
  have e2 : M2 l 2 = nI cs := by rw [d2, up_same]
  have e3 : M2 (lo + 3) = M (lo + 3) := by rw [d2, upC (by omega), f1 _ (by omega) (by omega)]
  obtain ⟨M', d3⟩ : ∃ M', M' = fil M2 (l + 3) 0 cs (M2 (lo + 3)) := ⟨_, rfl⟩
  have hcode : ∀ j, j < cs → M' (l + 3) j = M (lo + 3) j := fun j hj => by rw [d3, fil_at, if_pos ⟨Nat.zero_le _, hj⟩, e3]
  have hl2 : ∀ c', c' ≠ l + 3 → c' ≠ l → M' c' = M1 c' := fun c' x y => by rw [d3, fil_ne x, d2, upC y]
  refine ⟨M', ?_, ⟨h16, ?_, cs, hcs, ?_, fun i hi => ?_⟩, fun c' h => ?_⟩
  · unfold F_Law_take
    rw [a1, ob1_ok, h2, min_n (by omega) (by omega), Nat.min_eq_left hcs, min_n (by omega) (by omega), Nat.min_eq_left hcs, ob1_ok, ob1_ok, ← d2, e2, wc_ok (by omega) (by omega) (by omega), ob1_ok, d3]
  · rw [hl2 (l + 1) (by omega) (by omega)]
    exact a2
  · rw [d3, fil_ne (by omega)]
    exact e2
  · obtain ⟨b, e, e', x1, x2, x3, x4, x5, x6, x7, x8⟩ := hL i hi
    have hr : ∀ k, k < 5 → M' (l + 2) (i * 5 + k) = M (lo + 2) (i * 5 + k) := fun k hk => by
      rw [hl2 (l + 2) (by omega) (by omega)]
      exact a3 _ (by omega)
    refine ⟨b, e, e', by rw [hr 0 (by omega)]; exact x1, by rw [hr 1 (by omega)]; exact x2, by rw [hr 2 (by omega)]; exact x3, by rw [hr 3 (by omega)]; exact x4, x5, x6, Den_cg x7 (fun j hj => hcode j (by omega)), ?_⟩
    cases hg : aG A i with
    | none => rw [hg] at x8; exact x8
    | some g =>
      rw [hg] at x8
      exact ⟨x8.1, Den_cg x8.2 (fun j hj => hcode j (by omega))⟩
  · simp only [List.mem_cons, List.not_mem_nil, or_false] at h
    rw [hl2 c' (by omega) (by omega), f1 c' (by omega) (by omega)]
theorem told_copy {t to : Nat} (hs : (t = 28 ∧ to = 77) ∨ (t = 77 ∧ to = 28)) (hA : CL (to + 1) M A) (hS : RwS (to + 8) M S) (hF : RwF (to + 6) M F) (hT : CT to M T) (hok : okT T) (hS16 : S.1 ≤ 16) (hF16 : F.1 ≤ 16) :
    ∃ M', F_Told_copyFrom t to M = some M' ∧ CL (t + 1) M' A ∧ RwS (t + 8) M' S ∧ RwF (t + 6) M' F ∧ CT t M' T ∧ ∀ c', (c' < t + 1 ∨ t + 21 < c') → M' c' = M c' := by
  obtain ⟨o1, o2, o3, o4, o5, o6⟩ := hok
  obtain ⟨c1, c2, c3, c4, c5, c6⟩ := hT
  have sep : ∀ {x y : Nat}, x < 22 → y < 22 → to + x ≠ t + y := fun h1 h2 => by omega
  obtain ⟨M1, a1, a2, a3⟩ := law_copy (M := M) (l := t + 1) (lo := to + 1) (by omega) hA
  have f1 : ∀ c', (c' < t + 1 ∨ t + 4 < c') → M1 c' = M c' := fun c' h => a3 c' (by simp only [List.mem_cons, List.not_mem_nil, or_false]; omega)
  obtain ⟨M2, b1, b2, b3, b4⟩ := rows_copy (M := M1) (r0 := t + 6) (ro := to + 6) (wd := 5) (mo := 16) (n := F.1) (by rw [f1 _ (by omega)]; exact hF.1) hF16 (by omega) (by omega) (by omega)
  have f2 : ∀ c', c' ≠ t + 6 → c' ≠ t + 7 → M2 c' = M1 c' := fun c' x y => b4 c' (by simp only [List.mem_cons, List.not_mem_nil, or_false]; omega)
  obtain ⟨M3, d1, d2, d3, d4⟩ := rows_copy (M := M2) (r0 := t + 8) (ro := to + 8) (wd := 5) (mo := 16) (n := S.1) (by rw [f2 _ (by omega) (by omega), f1 _ (by omega)]; exact hS.1) hS16 (by omega) (by omega) (by omega)
  have f3 : ∀ c', c' ≠ t + 8 → c' ≠ t + 9 → M3 c' = M2 c' := fun c' x y => d4 c' (by simp only [List.mem_cons, List.not_mem_nil, or_false]; omega)
  obtain ⟨M4, e1, e2, e3, e4⟩ := rows_copy (M := M3) (r0 := t + 10) (ro := to + 10) (wd := 5) (mo := 16) (n := (tStr T).1) (by rw [f3 _ (by omega) (by omega), f2 _ (by omega) (by omega), f1 _ (by omega)]; exact c1.1) o1.1 (by omega) (by omega) (by omega)
  have f4 : ∀ c', c' ≠ t + 10 → c' ≠ t + 11 → M4 c' = M3 c' := fun c' x y => e4 c' (by simp only [List.mem_cons, List.not_mem_nil, or_false]; omega)
  have g4 : ∀ x, x < 22 → 0 < x → M4 (to + x) = M (to + x) := fun x h h' => by
    rw [f4 _ (by omega) (by omega), f3 _ (by omega) (by omega), f2 _ (by omega) (by omega), f1 _ (by omega)]
  obtain ⟨M5, p1, p2, p3, p4⟩ := rows_copy (M := M4) (r0 := t + 12) (ro := to + 12) (wd := 1) (mo := 8) (n := (tRow T).1) (by rw [g4 12 (by omega) (by omega)]; exact c2.1) o2.1 (by omega) (by omega) (by omega)
  have f5 : ∀ c', c' ≠ t + 12 → c' ≠ t + 13 → M5 c' = M4 c' := fun c' x y => p4 c' (by simp only [List.mem_cons, List.not_mem_nil, or_false]; omega)
  obtain ⟨M6, q1, q2, q3, q4⟩ := rows_copy (M := M5) (r0 := t + 14) (ro := to + 14) (wd := 2) (mo := 6) (n := (tWrd T).1) (by rw [f5 _ (by omega) (by omega), g4 14 (by omega) (by omega)]; exact c3.1) o3.1 (by omega) (by omega) (by omega)
  have f6 : ∀ c', c' ≠ t + 14 → c' ≠ t + 15 → M6 c' = M5 c' := fun c' x y => q4 c' (by simp only [List.mem_cons, List.not_mem_nil, or_false]; omega)
  obtain ⟨M7, r1, r2, r3, r4⟩ := rows_copy (M := M6) (r0 := t + 16) (ro := to + 16) (wd := 1) (mo := 8) (n := (tLok T).1) (by rw [f6 _ (by omega) (by omega), f5 _ (by omega) (by omega), g4 16 (by omega) (by omega)]; exact c4.1) o4.1 (by omega) (by omega) (by omega)
  have f7 : ∀ c', c' ≠ t + 16 → c' ≠ t + 17 → M7 c' = M6 c' := fun c' x y => r4 c' (by simp only [List.mem_cons, List.not_mem_nil, or_false]; omega)
  have g7 : ∀ x, x < 22 → 0 < x → M7 (to + x) = M (to + x) := fun x h h' => by
    rw [f7 _ (by omega) (by omega), f6 _ (by omega) (by omega), f5 _ (by omega) (by omega), g4 x h h']
  obtain ⟨M8, s1, s2, s3, s4⟩ := rows_copy (M := M7) (r0 := t + 18) (ro := to + 18) (wd := 2) (mo := 9) (n := (tVn T).1) (by rw [g7 18 (by omega) (by omega)]; exact c5.1) o5.1 (by omega) (by omega) (by omega)
  have f8 : ∀ c', c' ≠ t + 18 → c' ≠ t + 19 → M8 c' = M7 c' := fun c' x y => s4 c' (by simp only [List.mem_cons, List.not_mem_nil, or_false]; omega)
  obtain ⟨M9, u1, u2, u3, u4⟩ := rows_copy (M := M8) (r0 := t + 20) (ro := to + 20) (wd := 2) (mo := 9) (n := (tVo T).1) (by rw [f8 _ (by omega) (by omega), g7 20 (by omega) (by omega)]; exact c6.1) o6.1 (by omega) (by omega) (by omega)
  have f9 : ∀ c', c' ≠ t + 20 → c' ≠ t + 21 → M9 c' = M8 c' := fun c' x y => u4 c' (by simp only [List.mem_cons, List.not_mem_nil, or_false]; omega)
  refine ⟨M9, ?_, ?_, ?_, ?_, ⟨⟨?_, fun j k hj hk => ?_⟩, ?_, ?_, ?_, ?_, ?_⟩, fun c' h => ?_⟩
  · unfold F_Told_copyFrom
    rw [a1, ob1_ok, b1, ob1_ok, d1, ob1_ok, e1, ob1_ok, p1, ob1_ok, q1, ob1_ok, r1, ob1_ok, s1, ob1_ok, u1, ob1_ok]
  · exact CL_congr a2 (fun c' h1 h2 => by rw [f9 _ (by omega) (by omega), f8 _ (by omega) (by omega), f7 _ (by omega) (by omega), f6 _ (by omega) (by omega), f5 _ (by omega) (by omega), f4 _ (by omega) (by omega), f3 _ (by omega) (by omega), f2 _ (by omega) (by omega)])
  · have ex : ∀ c', (c' = t + 8 ∨ c' = t + 9) → M9 c' = M3 c' := fun c' h => by rw [f9 _ (by omega) (by omega), f8 _ (by omega) (by omega), f7 _ (by omega) (by omega), f6 _ (by omega) (by omega), f5 _ (by omega) (by omega), f4 _ (by omega) (by omega)]
    have es : M2 (to + 8 + 1) = M (to + 8 + 1) := by rw [f2 _ (by omega) (by omega), f1 _ (by omega)]
    refine ⟨by rw [ex _ (by omega)]; exact d2, fun j hj => ?_⟩
    rw [ex (t + 8 + 1) (by omega), d3 _ (by omega), d3 _ (by omega), d3 _ (by omega), d3 _ (by omega), es]
    exact hS.2 j hj
  · have ex : ∀ c', (c' = t + 6 ∨ c' = t + 7) → M9 c' = M2 c' := fun c' h => by rw [f9 _ (by omega) (by omega), f8 _ (by omega) (by omega), f7 _ (by omega) (by omega), f6 _ (by omega) (by omega), f5 _ (by omega) (by omega), f4 _ (by omega) (by omega), f3 _ (by omega) (by omega)]
    have es : M1 (to + 6 + 1) = M (to + 6 + 1) := by rw [f1 _ (by omega)]
    refine ⟨by rw [ex _ (by omega)]; exact b2, fun j k hj hk => ?_⟩
    rw [ex (t + 6 + 1) (by omega), b3 _ (by omega), es]
    exact hF.2 j k hj hk
  · rw [f9 _ (by omega) (by omega), f8 _ (by omega) (by omega), f7 _ (by omega) (by omega), f6 _ (by omega) (by omega), f5 _ (by omega) (by omega)]
    exact e2
  · rw [f9 _ (by omega) (by omega), f8 _ (by omega) (by omega), f7 _ (by omega) (by omega), f6 _ (by omega) (by omega), f5 _ (by omega) (by omega)]
    have es : M3 (to + 10 + 1) = M (to + 11) := by rw [f3 _ (by omega) (by omega), f2 _ (by omega) (by omega), f1 _ (by omega)]
    have h1 := e3 (j * 5 + k) (by omega)
    rw [es] at h1
    exact h1.trans (c1.2 j k hj hk)
  · refine RwG_fr (RwG_copy (M := M4) (ro := to + 12) (RwG_fr c2 (g4 12 (by omega) (by omega)) (g4 13 (by omega) (by omega))) p2 p3) ?_ ?_ <;> rw [f9 _ (by omega) (by omega), f8 _ (by omega) (by omega), f7 _ (by omega) (by omega), f6 _ (by omega) (by omega)]
  · refine RwG_fr (RwG_copy (M := M5) (ro := to + 14) (RwG_fr c3 ?_ ?_) q2 q3) ?_ ?_
    · rw [f5 _ (by omega) (by omega)]; exact g4 14 (by omega) (by omega)
    · rw [f5 _ (by omega) (by omega)]; exact g4 15 (by omega) (by omega)
    · rw [f9 _ (by omega) (by omega), f8 _ (by omega) (by omega), f7 _ (by omega) (by omega)]
    · rw [f9 _ (by omega) (by omega), f8 _ (by omega) (by omega), f7 _ (by omega) (by omega)]
  · refine RwG_fr (RwG_copy (M := M6) (ro := to + 16) (RwG_fr c4 ?_ ?_) r2 r3) ?_ ?_
    · rw [f6 _ (by omega) (by omega), f5 _ (by omega) (by omega)]; exact g4 16 (by omega) (by omega)
    · rw [f6 _ (by omega) (by omega), f5 _ (by omega) (by omega)]; exact g4 17 (by omega) (by omega)
    · rw [f9 _ (by omega) (by omega), f8 _ (by omega) (by omega)]
    · rw [f9 _ (by omega) (by omega), f8 _ (by omega) (by omega)]
  · refine RwG_fr (RwG_copy (M := M7) (ro := to + 18) (RwG_fr c5 (g7 18 (by omega) (by omega)) (g7 19 (by omega) (by omega))) s2 s3) ?_ ?_ <;> rw [f9 _ (by omega) (by omega)]
  · refine RwG_copy (M := M8) (ro := to + 20) (RwG_fr c6 ?_ ?_) u2 u3
    · rw [f8 _ (by omega) (by omega)]; exact g7 20 (by omega) (by omega)
    · rw [f8 _ (by omega) (by omega)]; exact g7 21 (by omega) (by omega)
  · rw [f9 _ (by omega) (by omega), f8 _ (by omega) (by omega), f7 _ (by omega) (by omega), f6 _ (by omega) (by omega), f5 _ (by omega) (by omega), f4 _ (by omega) (by omega), f3 _ (by omega) (by omega), f2 _ (by omega) (by omega), f1 _ (by omega)]
end S90
