/-! ===== the layout: every cell of both objects; a memory of numbers ===== -/
abbrev mK : Type := Nat × Nat × List (Option Value)
def mkE (k : mK) (row : Nat → Int32) : mE := match k with
  | (0, n, _) => .inl (0, n, row)
  | (1, n, _) => .inl (1, n, row)
  | (2, n, _) => .inl (2, n, row)
  | (t + 3, _, ss) => .inr (t, ss.mapIdx (fun i o => o.getD (.int (row i))))
abbrev mM : Type := Nat → Nat → Int32
def SH : List mK := [(12, 0, [some (.ref 1), some (.ref 28), some (.ref 50), some (.ref 77), none, some (.ref 99), none, none, some (.ref 100), some (.ref 109), some (.ref 136), some (.ref 143), some (.ref 146)]),
  (11, 0, [some (.ref 2), some (.ref 3), some (.ref 4), some (.ref 5), some (.ref 6), none, none, none, none, none, none, none, none]),
  (0, 60, []),
  (0, 60, []),
  (0, 60, []),
  (1, 20, []),
  (7, 0, [some (.int 4), some (.int 150), some (.ref 7), none]),
  (0, 600, []),
  (8, 0, [none, none, none, none, none, none, none]),
  (8, 0, [none, none, none, none, none, none, none]),
  (8, 0, [none, none, none, none, none, none, none]),
  (8, 0, [none, none, none, none, none, none, none]),
  (8, 0, [none, none, none, none, none, none, none]),
  (8, 0, [none, none, none, none, none, none, none]),
  (8, 0, [none, none, none, none, none, none, none]),
  (8, 0, [none, none, none, none, none, none, none]),
  (8, 0, [none, none, none, none, none, none, none]),
  (8, 0, [none, none, none, none, none, none, none]),
  (8, 0, [none, none, none, none, none, none, none]),
  (8, 0, [none, none, none, none, none, none, none]),
  (8, 0, [none, none, none, none, none, none, none]),
  (8, 0, [none, none, none, none, none, none, none]),
  (8, 0, [none, none, none, none, none, none, none]),
  (8, 0, [none, none, none, none, none, none, none]),
  (8, 0, [none, none, none, none, none, none, none]),
  (8, 0, [none, none, none, none, none, none, none]),
  (8, 0, [none, none, none, none, none, none, none]),
  (8, 0, [none, none, none, none, none, none, none]),
  (9, 0, [some (.ref 29), some (.ref 34), some (.ref 36), some (.ref 38), some (.ref 40), some (.ref 42), some (.ref 44), some (.ref 46), some (.ref 48)]),
  (4, 0, [some (.ref 30), some (.ref 32), none, some (.ref 33)]),
  (7, 0, [some (.int 5), some (.int 16), some (.ref 31), none]),
  (0, 80, []),
  (0, 400, []),
  (0, 64, []),
  (7, 0, [some (.int 5), some (.int 16), some (.ref 35), none]),
  (0, 80, []),
  (7, 0, [some (.int 5), some (.int 16), some (.ref 37), none]),
  (0, 80, []),
  (7, 0, [some (.int 5), some (.int 16), some (.ref 39), none]),
  (0, 80, []),
  (7, 0, [some (.int 1), some (.int 8), some (.ref 41), none]),
  (0, 8, []),
  (7, 0, [some (.int 2), some (.int 6), some (.ref 43), none]),
  (0, 12, []),
  (7, 0, [some (.int 1), some (.int 8), some (.ref 45), none]),
  (0, 8, []),
  (7, 0, [some (.int 2), some (.int 9), some (.ref 47), none]),
  (0, 18, []),
  (7, 0, [some (.int 2), some (.int 9), some (.ref 49), none]),
  (0, 18, []),
  (11, 0, [some (.ref 51), some (.ref 52), some (.ref 53), some (.ref 54), some (.ref 55), none, none, none, none, none, none, none, none]),
  (0, 60, []),
  (0, 60, []),
  (0, 60, []),
  (1, 20, []),
  (7, 0, [some (.int 4), some (.int 150), some (.ref 56), none]),
  (0, 600, []),
  (8, 0, [none, none, none, none, none, none, none]),
  (8, 0, [none, none, none, none, none, none, none]),
  (8, 0, [none, none, none, none, none, none, none]),
  (8, 0, [none, none, none, none, none, none, none]),
  (8, 0, [none, none, none, none, none, none, none]),
  (8, 0, [none, none, none, none, none, none, none]),
  (8, 0, [none, none, none, none, none, none, none]),
  (8, 0, [none, none, none, none, none, none, none]),
  (8, 0, [none, none, none, none, none, none, none]),
  (8, 0, [none, none, none, none, none, none, none]),
  (8, 0, [none, none, none, none, none, none, none]),
  (8, 0, [none, none, none, none, none, none, none]),
  (8, 0, [none, none, none, none, none, none, none]),
  (8, 0, [none, none, none, none, none, none, none]),
  (8, 0, [none, none, none, none, none, none, none]),
  (8, 0, [none, none, none, none, none, none, none]),
  (8, 0, [none, none, none, none, none, none, none]),
  (8, 0, [none, none, none, none, none, none, none]),
  (8, 0, [none, none, none, none, none, none, none]),
  (8, 0, [none, none, none, none, none, none, none]),
  (9, 0, [some (.ref 78), some (.ref 83), some (.ref 85), some (.ref 87), some (.ref 89), some (.ref 91), some (.ref 93), some (.ref 95), some (.ref 97)]),
  (4, 0, [some (.ref 79), some (.ref 81), none, some (.ref 82)]),
  (7, 0, [some (.int 5), some (.int 16), some (.ref 80), none]),
  (0, 80, []),
  (0, 400, []),
  (0, 64, []),
  (7, 0, [some (.int 5), some (.int 16), some (.ref 84), none]),
  (0, 80, []),
  (7, 0, [some (.int 5), some (.int 16), some (.ref 86), none]),
  (0, 80, []),
  (7, 0, [some (.int 5), some (.int 16), some (.ref 88), none]),
  (0, 80, []),
  (7, 0, [some (.int 1), some (.int 8), some (.ref 90), none]),
  (0, 8, []),
  (7, 0, [some (.int 2), some (.int 6), some (.ref 92), none]),
  (0, 12, []),
  (7, 0, [some (.int 1), some (.int 8), some (.ref 94), none]),
  (0, 8, []),
  (7, 0, [some (.int 2), some (.int 9), some (.ref 96), none]),
  (0, 18, []),
  (7, 0, [some (.int 2), some (.int 9), some (.ref 98), none]),
  (0, 18, []),
  (2, 6, []),
  (6, 0, [some (.ref 101), none, none, none, some (.ref 102), some (.ref 104), none, some (.ref 105), some (.ref 106), some (.ref 107), none, none, some (.ref 108)]),
  (0, 400, []),
  (7, 0, [some (.int 5), some (.int 16), some (.ref 103), none]),
  (0, 80, []),
  (0, 400, []),
  (0, 401, []),
  (0, 401, []),
  (0, 401, []),
  (0, 5, []),
  (11, 0, [some (.ref 110), some (.ref 111), some (.ref 112), some (.ref 113), some (.ref 114), none, none, none, none, none, none, none, none]),
  (0, 60, []),
  (0, 60, []),
  (0, 60, []),
  (1, 20, []),
  (7, 0, [some (.int 4), some (.int 150), some (.ref 115), none]),
  (0, 600, []),
  (8, 0, [none, none, none, none, none, none, none]),
  (8, 0, [none, none, none, none, none, none, none]),
  (8, 0, [none, none, none, none, none, none, none]),
  (8, 0, [none, none, none, none, none, none, none]),
  (8, 0, [none, none, none, none, none, none, none]),
  (8, 0, [none, none, none, none, none, none, none]),
  (8, 0, [none, none, none, none, none, none, none]),
  (8, 0, [none, none, none, none, none, none, none]),
  (8, 0, [none, none, none, none, none, none, none]),
  (8, 0, [none, none, none, none, none, none, none]),
  (8, 0, [none, none, none, none, none, none, none]),
  (8, 0, [none, none, none, none, none, none, none]),
  (8, 0, [none, none, none, none, none, none, none]),
  (8, 0, [none, none, none, none, none, none, none]),
  (8, 0, [none, none, none, none, none, none, none]),
  (8, 0, [none, none, none, none, none, none, none]),
  (8, 0, [none, none, none, none, none, none, none]),
  (8, 0, [none, none, none, none, none, none, none]),
  (8, 0, [none, none, none, none, none, none, none]),
  (8, 0, [none, none, none, none, none, none, none]),
  (3, 0, [some (.ref 137), some (.ref 138), some (.ref 139), some (.ref 140), some (.ref 141), some (.ref 142), none]),
  (0, 60, []),
  (0, 60, []),
  (0, 60, []),
  (0, 9, []),
  (0, 181, []),
  (0, 31, []),
  (5, 0, [some (.ref 144), some (.ref 145)]),
  (0, 12, []),
  (0, 12, []),
  (10, 0, [some (.ref 147), some (.ref 148), some (.ref 149)]),
  (0, 8, []),
  (0, 8, []),
  (0, 8, []),
  (11, 0, [some (.ref 151), some (.ref 152), some (.ref 153), some (.ref 154), some (.ref 155), none, none, none, none, none, none, none, none]),
  (0, 60, []),
  (0, 60, []),
  (0, 60, []),
  (1, 20, []),
  (7, 0, [some (.int 4), some (.int 150), some (.ref 156), none]),
  (0, 600, []),
  (8, 0, [none, none, none, none, none, none, none]),
  (8, 0, [none, none, none, none, none, none, none]),
  (8, 0, [none, none, none, none, none, none, none]),
  (8, 0, [none, none, none, none, none, none, none]),
  (8, 0, [none, none, none, none, none, none, none]),
  (8, 0, [none, none, none, none, none, none, none]),
  (8, 0, [none, none, none, none, none, none, none]),
  (8, 0, [none, none, none, none, none, none, none]),
  (8, 0, [none, none, none, none, none, none, none]),
  (8, 0, [none, none, none, none, none, none, none]),
  (8, 0, [none, none, none, none, none, none, none]),
  (8, 0, [none, none, none, none, none, none, none]),
  (8, 0, [none, none, none, none, none, none, none]),
  (8, 0, [none, none, none, none, none, none, none]),
  (8, 0, [none, none, none, none, none, none, none]),
  (8, 0, [none, none, none, none, none, none, none]),
  (8, 0, [none, none, none, none, none, none, none]),
  (8, 0, [none, none, none, none, none, none, none]),
  (8, 0, [none, none, none, none, none, none, none]),
  (8, 0, [none, none, none, none, none, none, none]),
  (11, 0, [some (.ref 178), some (.ref 179), some (.ref 180), some (.ref 181), some (.ref 182), none, none, none, none, none, none, none, none]),
  (0, 60, []),
  (0, 60, []),
  (0, 60, []),
  (1, 20, []),
  (7, 0, [some (.int 4), some (.int 150), some (.ref 183), none]),
  (0, 600, []),
  (8, 0, [none, none, none, none, none, none, none]),
  (8, 0, [none, none, none, none, none, none, none]),
  (8, 0, [none, none, none, none, none, none, none]),
  (8, 0, [none, none, none, none, none, none, none]),
  (8, 0, [none, none, none, none, none, none, none]),
  (8, 0, [none, none, none, none, none, none, none]),
  (8, 0, [none, none, none, none, none, none, none]),
  (8, 0, [none, none, none, none, none, none, none]),
  (8, 0, [none, none, none, none, none, none, none]),
  (8, 0, [none, none, none, none, none, none, none]),
  (8, 0, [none, none, none, none, none, none, none]),
  (8, 0, [none, none, none, none, none, none, none]),
  (8, 0, [none, none, none, none, none, none, none]),
  (8, 0, [none, none, none, none, none, none, none]),
  (8, 0, [none, none, none, none, none, none, none]),
  (8, 0, [none, none, none, none, none, none, none]),
  (8, 0, [none, none, none, none, none, none, none]),
  (8, 0, [none, none, none, none, none, none, none]),
  (8, 0, [none, none, none, none, none, none, none]),
  (8, 0, [none, none, none, none, none, none, none]),
  (11, 0, [some (.ref 205), some (.ref 206), some (.ref 207), some (.ref 208), some (.ref 209), none, none, none, none, none, none, none, none]),
  (0, 60, []),
  (0, 60, []),
  (0, 60, []),
  (1, 20, []),
  (7, 0, [some (.int 4), some (.int 150), some (.ref 210), none]),
  (0, 600, []),
  (8, 0, [none, none, none, none, none, none, none]),
  (8, 0, [none, none, none, none, none, none, none]),
  (8, 0, [none, none, none, none, none, none, none]),
  (8, 0, [none, none, none, none, none, none, none]),
  (8, 0, [none, none, none, none, none, none, none]),
  (8, 0, [none, none, none, none, none, none, none]),
  (8, 0, [none, none, none, none, none, none, none]),
  (8, 0, [none, none, none, none, none, none, none]),
  (8, 0, [none, none, none, none, none, none, none]),
  (8, 0, [none, none, none, none, none, none, none]),
  (8, 0, [none, none, none, none, none, none, none]),
  (8, 0, [none, none, none, none, none, none, none]),
  (8, 0, [none, none, none, none, none, none, none]),
  (8, 0, [none, none, none, none, none, none, none]),
  (8, 0, [none, none, none, none, none, none, none]),
  (8, 0, [none, none, none, none, none, none, none]),
  (8, 0, [none, none, none, none, none, none, none]),
  (8, 0, [none, none, none, none, none, none, none]),
  (8, 0, [none, none, none, none, none, none, none]),
  (8, 0, [none, none, none, none, none, none, none]),
  (11, 0, [some (.ref 232), some (.ref 233), some (.ref 234), some (.ref 235), some (.ref 236), none, none, none, none, none, none, none, none]),
  (0, 60, []),
  (0, 60, []),
  (0, 60, []),
  (1, 20, []),
  (7, 0, [some (.int 4), some (.int 150), some (.ref 237), none]),
  (0, 600, []),
  (8, 0, [none, none, none, none, none, none, none]),
  (8, 0, [none, none, none, none, none, none, none]),
  (8, 0, [none, none, none, none, none, none, none]),
  (8, 0, [none, none, none, none, none, none, none]),
  (8, 0, [none, none, none, none, none, none, none]),
  (8, 0, [none, none, none, none, none, none, none]),
  (8, 0, [none, none, none, none, none, none, none]),
  (8, 0, [none, none, none, none, none, none, none]),
  (8, 0, [none, none, none, none, none, none, none]),
  (8, 0, [none, none, none, none, none, none, none]),
  (8, 0, [none, none, none, none, none, none, none]),
  (8, 0, [none, none, none, none, none, none, none]),
  (8, 0, [none, none, none, none, none, none, none]),
  (8, 0, [none, none, none, none, none, none, none]),
  (8, 0, [none, none, none, none, none, none, none]),
  (8, 0, [none, none, none, none, none, none, none]),
  (8, 0, [none, none, none, none, none, none, none]),
  (8, 0, [none, none, none, none, none, none, none]),
  (8, 0, [none, none, none, none, none, none, none]),
  (8, 0, [none, none, none, none, none, none, none]),
  (11, 0, [some (.ref 259), some (.ref 260), some (.ref 261), some (.ref 262), some (.ref 263), none, none, none, none, none, none, none, none]),
  (0, 60, []),
  (0, 60, []),
  (0, 60, []),
  (1, 20, []),
  (7, 0, [some (.int 4), some (.int 150), some (.ref 264), none]),
  (0, 600, []),
  (8, 0, [none, none, none, none, none, none, none]),
  (8, 0, [none, none, none, none, none, none, none]),
  (8, 0, [none, none, none, none, none, none, none]),
  (8, 0, [none, none, none, none, none, none, none]),
  (8, 0, [none, none, none, none, none, none, none]),
  (8, 0, [none, none, none, none, none, none, none]),
  (8, 0, [none, none, none, none, none, none, none]),
  (8, 0, [none, none, none, none, none, none, none]),
  (8, 0, [none, none, none, none, none, none, none]),
  (8, 0, [none, none, none, none, none, none, none]),
  (8, 0, [none, none, none, none, none, none, none]),
  (8, 0, [none, none, none, none, none, none, none]),
  (8, 0, [none, none, none, none, none, none, none]),
  (8, 0, [none, none, none, none, none, none, none]),
  (8, 0, [none, none, none, none, none, none, none]),
  (8, 0, [none, none, none, none, none, none, none]),
  (8, 0, [none, none, none, none, none, none, none]),
  (8, 0, [none, none, none, none, none, none, none]),
  (8, 0, [none, none, none, none, none, none, none]),
  (8, 0, [none, none, none, none, none, none, none]),
  (11, 0, [some (.ref 286), some (.ref 287), some (.ref 288), some (.ref 289), some (.ref 290), none, none, none, none, none, none, none, none]),
  (0, 60, []),
  (0, 60, []),
  (0, 60, []),
  (1, 20, []),
  (7, 0, [some (.int 4), some (.int 150), some (.ref 291), none]),
  (0, 600, []),
  (8, 0, [none, none, none, none, none, none, none]),
  (8, 0, [none, none, none, none, none, none, none]),
  (8, 0, [none, none, none, none, none, none, none]),
  (8, 0, [none, none, none, none, none, none, none]),
  (8, 0, [none, none, none, none, none, none, none]),
  (8, 0, [none, none, none, none, none, none, none]),
  (8, 0, [none, none, none, none, none, none, none]),
  (8, 0, [none, none, none, none, none, none, none]),
  (8, 0, [none, none, none, none, none, none, none]),
  (8, 0, [none, none, none, none, none, none, none]),
  (8, 0, [none, none, none, none, none, none, none]),
  (8, 0, [none, none, none, none, none, none, none]),
  (8, 0, [none, none, none, none, none, none, none]),
  (8, 0, [none, none, none, none, none, none, none]),
  (8, 0, [none, none, none, none, none, none, none]),
  (8, 0, [none, none, none, none, none, none, none]),
  (8, 0, [none, none, none, none, none, none, none]),
  (8, 0, [none, none, none, none, none, none, none]),
  (8, 0, [none, none, none, none, none, none, none]),
  (8, 0, [none, none, none, none, none, none, none]),
  (13, 0, [some (.int 0), some (.ref 313), some (.ref 314), none, some (.ref 315), none, some (.ref 316), some (.ref 317), none, none, none, none, none, some (.ref 318), some (.ref 319), some (.ref 320), some (.ref 321), some (.ref 322), some (.ref 323), some (.ref 324), some (.ref 325), some (.int 0), none, none, some (.ref 326), none, none, none, none, none, none, some (.ref 327), none, some (.ref 328), none, some (.ref 329), some (.ref 330), some (.ref 331), some (.ref 332), none, some (.ref 333), some (.ref 334), none, some (.ref 335), some (.ref 336), none, some (.ref 337), some (.ref 338), some (.ref 339), some (.ref 340), some (.ref 341), some (.ref 342), none, none, none, some (.ref 343)]),
  (0, 270, []),
  (0, 1620, []),
  (0, 270, []),
  (0, 600, []),
  (0, 400, []),
  (0, 143, []),
  (0, 2, []),
  (0, 48, []),
  (0, 48, []),
  (0, 48, []),
  (0, 48, []),
  (0, 1200, []),
  (0, 1200, []),
  (0, 40, []),
  (0, 160, []),
  (0, 128, []),
  (0, 24, []),
  (0, 11, []),
  (0, 420, []),
  (0, 60, []),
  (0, 8, []),
  (0, 16, []),
  (0, 6, []),
  (0, 6, []),
  (0, 8, []),
  (0, 2, []),
  (0, 16, []),
  (0, 8, []),
  (0, 3801, []),
  (0, 31, []),
  (0, 2400, [])]
def lay (M : mM) : mH := SH.mapIdx (fun c k => mkE k (M c))
theorem lay_at {M : mM} {c : Nat} {k : mK} (h : SH[c]? = some k) : (lay M)[c]? = some (mkE k (M c)) := by
  rw [lay, List.getElem?_mapIdx, h]; rfl
def upR (M : mM) (c : Nat) (row : Nat → Int32) : mM := fun c' => if c' = c then row else M c'
abbrev up (M : mM) (c j : Nat) (x : Int32) : mM := upR M c (upd (M c) j x)
theorem upR_same (M : mM) (c : Nat) (row : Nat → Int32) : upR M c row c = row := if_pos rfl
theorem upR_ne (M : mM) {c c' : Nat} (row : Nat → Int32) (h : c' ≠ c) : upR M c row c' = M c' := if_neg h
theorem upd_same (f : Nat → Int32) (k : Nat) (x : Int32) : upd f k x k = x := if_pos rfl
theorem upd_ne (f : Nat → Int32) {k j : Nat} (x : Int32) (h : j ≠ k) : upd f k x j = f j := if_neg h
theorem up_same (M : mM) (c j : Nat) (x : Int32) : up M c j x c j = x := by rw [up, upR_same, upd_same]
theorem up_neC (M : mM) {c c' : Nat} (j j' : Nat) (x : Int32) (h : c' ≠ c) : up M c j x c' j' = M c' j' := by rw [up, upR_ne _ _ h]
theorem up_neJ (M : mM) (c : Nat) {j j' : Nat} (x : Int32) (h : j' ≠ j) : up M c j x c j' = M c j' := by rw [up, upR_same, upd_ne _ _ h]
theorem lay_set {M : mM} {c : Nat} {k : mK} {row : Nat → Int32} (h : SH[c]? = some k) : (lay M).set c (mkE k row) = lay (upR M c row) := by
  apply List.ext_getElem?
  intro i
  rw [List.getElem?_set, lay, lay, List.length_mapIdx, List.getElem?_mapIdx, List.getElem?_mapIdx]
  have hc := (List.getElem?_eq_some_iff.mp h).1
  by_cases hi : c = i
  · subst hi
    rw [if_pos rfl, if_pos hc, h]
    simp only [Option.map_some]
    rw [upR_same]
  · rw [if_neg hi, upR_ne _ _ (Ne.symm hi)]
set_option maxRecDepth 100000 in
theorem SH_small : SH.all (fun k => decide (k.2.1 ≤ 5000)) = true := by decide +kernel
theorem SH_le {c t n : Nat} {ss : List (Option Value)} (h : SH[c]? = some (t, n, ss)) : n ≤ 5000 := by
  have h1 := List.all_eq_true.mp SH_small _ (List.mem_of_getElem? h)
  exact of_decide_eq_true h1
theorem nadd (a b : Nat) : nI a + nI b = nI (a + b) := by
  simp [nI, Int32.ofNat_add]
theorem nmul (a b : Nat) : nI a * nI b = nI (a * b) := by
  simp [nI, Int32.ofNat_mul]
theorem nsub {a b : Nat} (h : b ≤ a) : nI a - nI b = nI (a - b) := by
  have h1 : nI (a - b) + nI b = nI a := by rw [nadd, Nat.sub_add_cancel h]
  rw [← h1]
  simp
theorem nI_inj {a b : Nat} (ha : a < 2147483648) (hb : b < 2147483648) : nI a = nI b ↔ a = b := by
  constructor
  · intro h
    have h1 := nI_toInt ha
    rw [h, nI_toInt hb] at h1
    omega
  · intro h; rw [h]
theorem nI_le' {a b : Nat} (ha : a < 2147483648) (hb : b < 2147483648) : nI a ≤ nI b ↔ a ≤ b := by
  rw [Int32.le_iff_toInt_le, nI_toInt ha, nI_toInt hb]
  omega
theorem nI_lt' {a b : Nat} (ha : a < 2147483648) (hb : b < 2147483648) : nI a < nI b ↔ a < b := by
  rw [Int32.lt_iff_toInt_lt, nI_toInt ha, nI_toInt hb]
  omega
/-- a number between 0 and n is a natural one -/
theorem nof {v : Int32} {n : Nat} (hn : n < 2147483648) (h0 : 0 ≤ v) (h1 : v ≤ nI n) : ∃ k, k ≤ n ∧ v = nI k := by
  rw [Int32.le_iff_toInt_le] at h0 h1
  rw [nI_toInt hn] at h1
  have e0 : (0 : Int32).toInt = 0 := rfl
  rw [e0] at h0
  refine ⟨v.toInt.toNat, by omega, ?_⟩
  apply Int32.toInt_inj.mp
  rw [nI_toInt (by omega)]
  omega
section ML
variable {X : mXs} {d : Nat} {f g : mI} {kn : Nat × Nat} {pc : Nat} {ls st : List Value} {M : mM} {Q : Option Value → mH → Prop}
theorem wl_getI {index ci k c n : Nat} {ss : List (Option Value)} {v : Int32} (hd : decode (ib f) pc = .ok (.getfield index, 3)) (hl : Lf (iy f).cls index ci k) (hs : SH[c]? = some (ci + 3, n, ss)) (hk : ss[k]? = some none) (hv : M c k = v) (kk : wp X d f kn (pc + 3) ls (.int v :: st) (lay M) Q) : wp X d f kn pc ls (.ref c :: st) (lay M) Q :=
  wp_get hd hl (lay_at hs) (by rw [List.getElem?_mapIdx, hk]; simp [hv]) kk
theorem wl_getR {index ci k c n : Nat} {ss : List (Option Value)} {v : Value} (hd : decode (ib f) pc = .ok (.getfield index, 3)) (hl : Lf (iy f).cls index ci k) (hs : SH[c]? = some (ci + 3, n, ss)) (hk : ss[k]? = some (some v)) (kk : wp X d f kn (pc + 3) ls (v :: st) (lay M) Q) : wp X d f kn pc ls (.ref c :: st) (lay M) Q :=
  wp_get hd hl (lay_at hs) (by rw [List.getElem?_mapIdx, hk]; rfl) kk
theorem mkE_set {ss : List (Option Value)} {k : Nat} {row : Nat → Int32} {x : Int32} (hk : ss[k]? = some none) : (ss.mapIdx (fun i o => o.getD (.int (row i)))).set k (.int x) = ss.mapIdx (fun i o => o.getD (.int (upd row k x i))) := by
  apply List.ext_getElem?
  intro i
  rw [List.getElem?_set, List.length_mapIdx, List.getElem?_mapIdx, List.getElem?_mapIdx]
  have hl := (List.getElem?_eq_some_iff.mp hk).1
  by_cases hi : k = i
  · subst hi
    rw [if_pos rfl, if_pos hl, hk]
    simp [upd]
  · rw [if_neg hi, upd_ne _ _ (Ne.symm hi)]
theorem wl_put {index ci k c n : Nat} {ss : List (Option Value)} {x : Int32} {ty : FieldType} (hd : decode (ib f) pc = .ok (.putfield index, 3)) (hl : Lp (iy f).cls index ci k ty false) (hs : SH[c]? = some (ci + 3, n, ss)) (hk : ss[k]? = some none) (hv : narrow ty (.int x) = .int x ∧ fits ty (.int x) = true) (kk : wp X d f kn (pc + 3) ls st (lay (up M c k x)) Q) : wp X d f kn pc ls (.int x :: .ref c :: st) (lay M) Q := by
  refine wp_put hd hl (fun h => absurd h Bool.false_ne_true) (lay_at hs) (by rw [List.length_mapIdx]; exact (List.getElem?_eq_some_iff.mp hk).1) (fun G => hv) ?_
  rw [mkE_set hk]
  have h1 := lay_set (M := M) (row := upd (M c) k x) hs
  have h2 : mkE (ci + 3, n, ss) (upd (M c) k x) = .inr (ci, ss.mapIdx (fun i o => o.getD (.int (upd (M c) k x i)))) := rfl
  rw [h2] at h1
  rw [h1]
  exact kk
theorem wl_putC {index ci k c n : Nat} {ss : List (Option Value)} {x : Int32} {ty : FieldType} (hd : decode (ib f) pc = .ok (.putfield index, 3)) (hl : Lp (iy f).cls index ci k ty false) (hs : SH[c]? = some (ci + 3, n, ss)) (hk : ss[k]? = some (some (.int x))) (hv : narrow ty (.int x) = .int x ∧ fits ty (.int x) = true) (kk : wp X d f kn (pc + 3) ls st (lay M) Q) : wp X d f kn pc ls (.int x :: .ref c :: st) (lay M) Q := by
  refine wp_put hd hl (fun h => absurd h Bool.false_ne_true) (lay_at hs) (by rw [List.length_mapIdx]; exact (List.getElem?_eq_some_iff.mp hk).1) (fun G => hv) ?_
  have e1 : (ss.mapIdx (fun i o => o.getD (.int (M c i)))).set k (.int x) = ss.mapIdx (fun i o => o.getD (.int (M c i))) := by
    apply List.ext_getElem?
    intro i
    rw [List.getElem?_set, List.length_mapIdx, List.getElem?_mapIdx]
    have hl := (List.getElem?_eq_some_iff.mp hk).1
    by_cases hi : k = i
    · subst hi
      rw [if_pos rfl, if_pos hl, hk]
      rfl
    · rw [if_neg hi]
  rw [e1]
  have h1 : (lay M).set c (mkE (ci + 3, n, ss) (M c)) = lay M := by
    rw [lay_set hs]
    congr 1
    funext c'
    unfold upR
    by_cases h : c' = c
    · rw [if_pos h, h]
    · rw [if_neg h]
  have h2 : mkE (ci + 3, n, ss) (M c) = .inr (ci, ss.mapIdx (fun i o => o.getD (.int (M c i)))) := rfl
  rw [h2] at h1
  rw [h1]
  exact kk
theorem up_at (M : mM) (c j : Nat) (x : Int32) (c' j' : Nat) : up M c j x c' j' = if c' = c ∧ j' = j then x else M c' j' := by
  by_cases h : c' = c
  · subst h
    by_cases h2 : j' = j
    · subst h2
      rw [up_same, if_pos ⟨rfl, rfl⟩]
    · rw [up_neJ _ _ _ h2, if_neg (fun e => h2 e.2)]
  · rw [up_neC _ _ _ _ h, if_neg (fun e => h e.1)]
theorem wl_ald {c n j : Nat} {ss : List (Option Value)} {i v : Int32} (hd : decode (ib f) pc = .ok (.iaload, 1)) (hs : SH[c]? = some (0, n, ss)) (hi : ix i j) (hj : j < n) (hv : M c j = v) (kk : wp X d f kn (pc + 1) ls (.int v :: st) (lay M) Q) : wp X d f kn pc ls (.int i :: .ref c :: st) (lay M) Q := by
  subst hv
  exact wp_iald hd (lay_at hs) hi hj kk
theorem wl_aldn {c n j : Nat} {ss : List (Option Value)} {v : Int32} (hd : decode (ib f) pc = .ok (.iaload, 1)) (hs : SH[c]? = some (0, n, ss)) (hj : j < n) (hv : M c j = v) (kk : wp X d f kn (pc + 1) ls (.int v :: st) (lay M) Q) : wp X d f kn pc ls (.int (nI j) :: .ref c :: st) (lay M) Q :=
  wl_ald hd hs (ix_nI (by have := SH_le hs; omega)) hj hv kk
theorem wl_ast {c n j : Nat} {ss : List (Option Value)} {i x : Int32} (hd : decode (ib f) pc = .ok (.iastore, 1)) (hs : SH[c]? = some (0, n, ss)) (hi : ix i j) (hj : j < n) (kk : wp X d f kn (pc + 1) ls st (lay (up M c j x)) Q) : wp X d f kn pc ls (.int x :: .int i :: .ref c :: st) (lay M) Q := by
  refine wp_iast hd (lay_at hs) hi hj ?_
  have h1 := lay_set (M := M) (row := upd (M c) j x) hs
  have h2 : mkE (0, n, ss) (upd (M c) j x) = .inl (0, n, upd (M c) j x) := rfl
  rw [h2] at h1
  rw [h1]
  exact kk
theorem wl_astn {c n j : Nat} {ss : List (Option Value)} {x : Int32} (hd : decode (ib f) pc = .ok (.iastore, 1)) (hs : SH[c]? = some (0, n, ss)) (hj : j < n) (kk : wp X d f kn (pc + 1) ls st (lay (up M c j x)) Q) : wp X d f kn pc ls (.int x :: .int (nI j) :: .ref c :: st) (lay M) Q :=
  wl_ast hd hs (ix_nI (by have := SH_le hs; omega)) hj kk
theorem wl_alen {c t n : Nat} {ss : List (Option Value)} (ht : t < 3) (hd : decode (ib f) pc = .ok (.arraylength, 1)) (hs : SH[c]? = some (t, n, ss)) (kk : wp X d f kn (pc + 1) ls (.int (nI n) :: st) (lay M) Q) : wp X d f kn pc ls (.ref c :: st) (lay M) Q := by
  match t, ht, hs with
  | 0, _, hs => exact wp_alen hd (lay_at hs) rfl kk
  | 1, _, hs => exact wp_alen hd (lay_at hs) rfl kk
  | 2, _, hs => exact wp_alen hd (lay_at hs) rfl kk
theorem wl_aald {c n j c1 : Nat} {ss : List (Option Value)} {i : Int32} (hd : decode (ib f) pc = .ok (.aaload, 1)) (hs : SH[c]? = some (1, n, ss)) (hi : ix i j) (hj : j < n) (h1 : ix (M c j) c1) (kk : wp X d f kn (pc + 1) ls (.ref c1 :: st) (lay M) Q) : wp X d f kn pc ls (.int i :: .ref c :: st) (lay M) Q :=
  wp_aald (t := 0) hd (lay_at hs) hi hj h1 kk
theorem wl_aaldW {c n j c1 : Nat} {ss : List (Option Value)} {i : Int32} (hd : decode (ib f) pc = .ok (.aaload, 1)) (hs : SH[c]? = some (2, n, ss)) (hi : ix i j) (hj : j < n) (h1 : ix (M c j) c1) (kk : wp X d f kn (pc + 1) ls (.ref c1 :: st) (lay M) Q) : wp X d f kn pc ls (.int i :: .ref c :: st) (lay M) Q :=
  wp_aald (t := 1) hd (lay_at hs) hi hj h1 kk
theorem wl_aast {c n j c1 n1 : Nat} {ss s1 : List (Option Value)} {i x : Int32} (hd : decode (ib f) pc = .ok (.aastore, 1)) (hs : SH[c]? = some (1, n, ss)) (hi : ix i j) (hj : j < n) (h1 : SH[c1]? = some (8, n1, s1)) (hx : ix x c1) (kk : wp X d f kn (pc + 1) ls st (lay (up M c j x)) Q) : wp X d f kn pc ls (.ref c1 :: .int i :: .ref c :: st) (lay M) Q := by
  refine wp_aast hd (lay_at hs) hi hj (lay_at h1) hx ?_
  have h3 := lay_set (M := M) (row := upd (M c) j x) hs
  have h2 : mkE (1, n, ss) (upd (M c) j x) = .inl (1, n, upd (M c) j x) := rfl
  rw [h2] at h3
  rw [h3]
  exact kk
theorem wl_copy {index c0 c1 n0 n1 j0 j1 n : Nat} {s0 s1 : List (Option Value)} {sp dp nn : Int32} (hd : decode (ib f) pc = .ok (.invokestatic index, 3)) (hl : Cond.methodLink (iy f).cls index arraycopyName ∈ mW) (hw : Cond.native arraycopyName ∈ mW ∧ Cond.static arraycopyName ∈ mW ∧ Cond.initialized "java/lang/System" ∈ mW)
    (h0 : SH[c0]? = some (0, n0, s0)) (h1 : SH[c1]? = some (0, n1, s1)) (hsp : ix sp j0) (hdp : ix dp j1) (hn : ix nn n) (hb0 : j0 + n ≤ n0) (hb1 : j1 + n ≤ n1) (hst : stOk st = true)
    (kk : wp X (d + 1) f kn (pc + 3) ls st (lay (upR M c1 (va_cpy (M c0) (M c1) j0 j1 n))) Q) : wp X (d + 1) f kn pc ls (.int nn :: .int dp :: .ref c1 :: .int sp :: .ref c0 :: st) (lay M) Q := by
  refine wp_copyi hd hl hw.1 hw.2.1 hw.2.2 (lay_at h0) (lay_at h1) hsp hdp hn hb0 hb1 hst ?_
  have h3 := lay_set (M := M) (row := va_cpy (M c0) (M c1) j0 j1 n) h1
  have h2 : mkE (0, n1, s1) (va_cpy (M c0) (M c1) j0 j1 n) = .inl (0, n1, va_cpy (M c0) (M c1) j0 j1 n) := rfl
  rw [h2] at h3
  rw [h3]
  exact kk
variable {Hm : mH}
theorem wn_iadd {a b : Nat} (hd : decode (ib f) pc = .ok (.iadd, 1)) (k : wp X d f kn (pc + 1) ls (.int (nI (a + b)) :: st) Hm Q) : wp X d f kn pc ls (.int (nI b) :: .int (nI a) :: st) Hm Q := wp_iadd hd (by rw [nadd]; exact k)
theorem wn_isub {a b : Nat} (hd : decode (ib f) pc = .ok (.isub, 1)) (h : b ≤ a) (k : wp X d f kn (pc + 1) ls (.int (nI (a - b)) :: st) Hm Q) : wp X d f kn pc ls (.int (nI b) :: .int (nI a) :: st) Hm Q := wp_isub hd (by rw [nsub h]; exact k)
theorem wn_imul {a b : Nat} (hd : decode (ib f) pc = .ok (.imul, 1)) (k : wp X d f kn (pc + 1) ls (.int (nI (a * b)) :: st) Hm Q) : wp X d f kn pc ls (.int (nI b) :: .int (nI a) :: st) Hm Q := wp_imul hd (by rw [nmul]; exact k)
theorem wn_iinc {i n : Nat} {a : Nat} (hd : decode (ib f) pc = .ok (.iinc i (n : Int), 3)) (hl : ls[i]? = some (.int (nI a))) (k : wp X d f kn (pc + 3) (ls.set i (.int (nI (a + n)))) st Hm Q) : wp X d f kn pc ls st Hm Q :=
  wp_iinc hd hl (by rw [← nadd]; rfl) k
theorem wn_icmp_eq {a b : Nat} {off : Int} (tgt : Nat) (hd : decode (ib f) pc = .ok (.if_icmp .eq off, 3)) (ht : (pc : Int) + off = (tgt : Int)) (ha : a < 2147483648) (hb : b < 2147483648) (kt : a = b → wp X d f kn tgt ls st Hm Q) (kf : a ≠ b → wp X d f kn (pc + 3) ls st Hm Q) : wp X d f kn pc ls (.int (nI b) :: .int (nI a) :: st) Hm Q :=
  wp_icmp_eq tgt hd ht (fun h => kt ((nI_inj ha hb).mp h)) (fun h => kf (fun e => h ((nI_inj ha hb).mpr e)))
theorem wn_icmp_ne {a b : Nat} {off : Int} (tgt : Nat) (hd : decode (ib f) pc = .ok (.if_icmp .ne off, 3)) (ht : (pc : Int) + off = (tgt : Int)) (ha : a < 2147483648) (hb : b < 2147483648) (kt : a ≠ b → wp X d f kn tgt ls st Hm Q) (kf : a = b → wp X d f kn (pc + 3) ls st Hm Q) : wp X d f kn pc ls (.int (nI b) :: .int (nI a) :: st) Hm Q :=
  wp_icmp_ne tgt hd ht (fun h => kt (fun e => h ((nI_inj ha hb).mpr e))) (fun h => kf ((nI_inj ha hb).mp h))
theorem wn_icmp_lt {a b : Nat} {off : Int} (tgt : Nat) (hd : decode (ib f) pc = .ok (.if_icmp .lt off, 3)) (ht : (pc : Int) + off = (tgt : Int)) (ha : a < 2147483648) (hb : b < 2147483648) (kt : a < b → wp X d f kn tgt ls st Hm Q) (kf : b ≤ a → wp X d f kn (pc + 3) ls st Hm Q) : wp X d f kn pc ls (.int (nI b) :: .int (nI a) :: st) Hm Q :=
  wp_icmp_lt tgt hd ht (fun h => kt ((nI_lt' ha hb).mp h)) (fun h => kf (by have := mt (nI_lt' ha hb).mpr h; omega))
theorem wn_icmp_ge {a b : Nat} {off : Int} (tgt : Nat) (hd : decode (ib f) pc = .ok (.if_icmp .ge off, 3)) (ht : (pc : Int) + off = (tgt : Int)) (ha : a < 2147483648) (hb : b < 2147483648) (kt : b ≤ a → wp X d f kn tgt ls st Hm Q) (kf : a < b → wp X d f kn (pc + 3) ls st Hm Q) : wp X d f kn pc ls (.int (nI b) :: .int (nI a) :: st) Hm Q :=
  wp_icmp_ge tgt hd ht (fun h => kt ((nI_le' hb ha).mp h)) (fun h => kf (by have := mt (nI_le' hb ha).mpr h; omega))
theorem wn_icmp_gt {a b : Nat} {off : Int} (tgt : Nat) (hd : decode (ib f) pc = .ok (.if_icmp .gt off, 3)) (ht : (pc : Int) + off = (tgt : Int)) (ha : a < 2147483648) (hb : b < 2147483648) (kt : b < a → wp X d f kn tgt ls st Hm Q) (kf : a ≤ b → wp X d f kn (pc + 3) ls st Hm Q) : wp X d f kn pc ls (.int (nI b) :: .int (nI a) :: st) Hm Q :=
  wp_icmp_gt tgt hd ht (fun h => kt ((nI_lt' hb ha).mp h)) (fun h => kf (by have := mt (nI_lt' hb ha).mpr h; omega))
theorem wn_icmp_le {a b : Nat} {off : Int} (tgt : Nat) (hd : decode (ib f) pc = .ok (.if_icmp .le off, 3)) (ht : (pc : Int) + off = (tgt : Int)) (ha : a < 2147483648) (hb : b < 2147483648) (kt : a ≤ b → wp X d f kn tgt ls st Hm Q) (kf : b < a → wp X d f kn (pc + 3) ls st Hm Q) : wp X d f kn pc ls (.int (nI b) :: .int (nI a) :: st) Hm Q :=
  wp_icmp_le tgt hd ht (fun h => kt ((nI_le' ha hb).mp h)) (fun h => kf (by have := mt (nI_le' ha hb).mpr h; omega))
end ML
def isW (w : Nat) : Prop := w ∈ [1, 50, 109, 150, 177, 204, 231, 258, 285]
set_option maxRecDepth 100000 in
theorem shW0 {w : Nat} (h : isW w) : SH[w + 0]? = some (11, 0, [some (.ref (w + 1)), some (.ref (w + 2)), some (.ref (w + 3)), some (.ref (w + 4)), some (.ref (w + 5)), none, none, none, none, none, none, none, none]) := by
  simp only [isW, List.mem_cons, List.not_mem_nil, or_false] at h
  rcases h with rfl | rfl | rfl | rfl | rfl | rfl | rfl | rfl | rfl <;> rfl
set_option maxRecDepth 100000 in
theorem shW1 {w : Nat} (h : isW w) : SH[w + 1]? = some (0, 60, []) := by
  simp only [isW, List.mem_cons, List.not_mem_nil, or_false] at h
  rcases h with rfl | rfl | rfl | rfl | rfl | rfl | rfl | rfl | rfl <;> rfl
set_option maxRecDepth 100000 in
theorem shW2 {w : Nat} (h : isW w) : SH[w + 2]? = some (0, 60, []) := by
  simp only [isW, List.mem_cons, List.not_mem_nil, or_false] at h
  rcases h with rfl | rfl | rfl | rfl | rfl | rfl | rfl | rfl | rfl <;> rfl
set_option maxRecDepth 100000 in
theorem shW3 {w : Nat} (h : isW w) : SH[w + 3]? = some (0, 60, []) := by
  simp only [isW, List.mem_cons, List.not_mem_nil, or_false] at h
  rcases h with rfl | rfl | rfl | rfl | rfl | rfl | rfl | rfl | rfl <;> rfl
set_option maxRecDepth 100000 in
theorem shW4 {w : Nat} (h : isW w) : SH[w + 4]? = some (1, 20, []) := by
  simp only [isW, List.mem_cons, List.not_mem_nil, or_false] at h
  rcases h with rfl | rfl | rfl | rfl | rfl | rfl | rfl | rfl | rfl <;> rfl
set_option maxRecDepth 100000 in
theorem shW5 {w : Nat} (h : isW w) : SH[w + 5]? = some (7, 0, [some (.int 4), some (.int 150), some (.ref (w + 6)), none]) := by
  simp only [isW, List.mem_cons, List.not_mem_nil, or_false] at h
  rcases h with rfl | rfl | rfl | rfl | rfl | rfl | rfl | rfl | rfl <;> rfl
set_option maxRecDepth 100000 in
theorem shW6 {w : Nat} (h : isW w) : SH[w + 6]? = some (0, 600, []) := by
  simp only [isW, List.mem_cons, List.not_mem_nil, or_false] at h
  rcases h with rfl | rfl | rfl | rfl | rfl | rfl | rfl | rfl | rfl <;> rfl
def isTk (k : mK) : Bool := match k with
  | (8, 0, [none, none, none, none, none, none, none]) => true
  | _ => false
set_option maxRecDepth 100000 in
theorem shWt {w c : Nat} (h : isW w) (h1 : w + 7 ≤ c) (h2 : c < w + 27) : SH[c]? = some (8, 0, [none, none, none, none, none, none, none]) := by
  have key : ∀ w ∈ [1, 50, 109, 150, 177, 204, 231, 258, 285], ∀ j, j < 20 → (SH[w + 7 + j]?).map isTk = some true := by decide +kernel
  have h3 := key w h (c - (w + 7)) (by omega)
  rw [show w + 7 + (c - (w + 7)) = c by omega] at h3
  obtain ⟨k, hk, hq⟩ := Option.map_eq_some_iff.mp h3
  rw [hk]
  unfold isTk at hq
  split at hq
  · rfl
  · cases hq
set_option maxRecDepth 100000 in
theorem sh_0 : SH[0]? = some (12, 0, [some (.ref 1), some (.ref 28), some (.ref 50), some (.ref 77), none, some (.ref 99), none, none, some (.ref 100), some (.ref 109), some (.ref 136), some (.ref 143), some (.ref 146)]) := rfl
set_option maxRecDepth 100000 in
theorem sh_99 : SH[99]? = some (2, 6, []) := rfl
set_option maxRecDepth 100000 in
theorem sh_100 : SH[100]? = some (6, 0, [some (.ref 101), none, none, none, some (.ref 102), some (.ref 104), none, some (.ref 105), some (.ref 106), some (.ref 107), none, none, some (.ref 108)]) := rfl
set_option maxRecDepth 100000 in
theorem sh_101 : SH[101]? = some (0, 400, []) := rfl
set_option maxRecDepth 100000 in
theorem sh_102 : SH[102]? = some (7, 0, [some (.int 5), some (.int 16), some (.ref 103), none]) := rfl
set_option maxRecDepth 100000 in
theorem sh_103 : SH[103]? = some (0, 80, []) := rfl
set_option maxRecDepth 100000 in
theorem sh_104 : SH[104]? = some (0, 400, []) := rfl
set_option maxRecDepth 100000 in
theorem sh_105 : SH[105]? = some (0, 401, []) := rfl
set_option maxRecDepth 100000 in
theorem sh_106 : SH[106]? = some (0, 401, []) := rfl
set_option maxRecDepth 100000 in
theorem sh_107 : SH[107]? = some (0, 401, []) := rfl
set_option maxRecDepth 100000 in
theorem sh_108 : SH[108]? = some (0, 5, []) := rfl
set_option maxRecDepth 100000 in
theorem sh_136 : SH[136]? = some (3, 0, [some (.ref 137), some (.ref 138), some (.ref 139), some (.ref 140), some (.ref 141), some (.ref 142), none]) := rfl
set_option maxRecDepth 100000 in
theorem sh_137 : SH[137]? = some (0, 60, []) := rfl
set_option maxRecDepth 100000 in
theorem sh_138 : SH[138]? = some (0, 60, []) := rfl
set_option maxRecDepth 100000 in
theorem sh_139 : SH[139]? = some (0, 60, []) := rfl
set_option maxRecDepth 100000 in
theorem sh_140 : SH[140]? = some (0, 9, []) := rfl
set_option maxRecDepth 100000 in
theorem sh_141 : SH[141]? = some (0, 181, []) := rfl
set_option maxRecDepth 100000 in
theorem sh_142 : SH[142]? = some (0, 31, []) := rfl
set_option maxRecDepth 100000 in
theorem sh_143 : SH[143]? = some (5, 0, [some (.ref 144), some (.ref 145)]) := rfl
set_option maxRecDepth 100000 in
theorem sh_144 : SH[144]? = some (0, 12, []) := rfl
set_option maxRecDepth 100000 in
theorem sh_145 : SH[145]? = some (0, 12, []) := rfl
set_option maxRecDepth 100000 in
theorem sh_146 : SH[146]? = some (10, 0, [some (.ref 147), some (.ref 148), some (.ref 149)]) := rfl
set_option maxRecDepth 100000 in
theorem sh_147 : SH[147]? = some (0, 8, []) := rfl
set_option maxRecDepth 100000 in
theorem sh_148 : SH[148]? = some (0, 8, []) := rfl
set_option maxRecDepth 100000 in
theorem sh_149 : SH[149]? = some (0, 8, []) := rfl
set_option maxRecDepth 100000 in
theorem sh_312 : SH[312]? = some (13, 0, [some (.int 0), some (.ref 313), some (.ref 314), none, some (.ref 315), none, some (.ref 316), some (.ref 317), none, none, none, none, none, some (.ref 318), some (.ref 319), some (.ref 320), some (.ref 321), some (.ref 322), some (.ref 323), some (.ref 324), some (.ref 325), some (.int 0), none, none, some (.ref 326), none, none, none, none, none, none, some (.ref 327), none, some (.ref 328), none, some (.ref 329), some (.ref 330), some (.ref 331), some (.ref 332), none, some (.ref 333), some (.ref 334), none, some (.ref 335), some (.ref 336), none, some (.ref 337), some (.ref 338), some (.ref 339), some (.ref 340), some (.ref 341), some (.ref 342), none, none, none, some (.ref 343)]) := rfl
set_option maxRecDepth 100000 in
theorem sh_313 : SH[313]? = some (0, 270, []) := rfl
set_option maxRecDepth 100000 in
theorem sh_314 : SH[314]? = some (0, 1620, []) := rfl
set_option maxRecDepth 100000 in
theorem sh_315 : SH[315]? = some (0, 270, []) := rfl
set_option maxRecDepth 100000 in
theorem sh_316 : SH[316]? = some (0, 600, []) := rfl
set_option maxRecDepth 100000 in
theorem sh_317 : SH[317]? = some (0, 400, []) := rfl
set_option maxRecDepth 100000 in
theorem sh_318 : SH[318]? = some (0, 143, []) := rfl
set_option maxRecDepth 100000 in
theorem sh_319 : SH[319]? = some (0, 2, []) := rfl
set_option maxRecDepth 100000 in
theorem sh_320 : SH[320]? = some (0, 48, []) := rfl
set_option maxRecDepth 100000 in
theorem sh_321 : SH[321]? = some (0, 48, []) := rfl
set_option maxRecDepth 100000 in
theorem sh_322 : SH[322]? = some (0, 48, []) := rfl
set_option maxRecDepth 100000 in
theorem sh_323 : SH[323]? = some (0, 48, []) := rfl
set_option maxRecDepth 100000 in
theorem sh_324 : SH[324]? = some (0, 1200, []) := rfl
set_option maxRecDepth 100000 in
theorem sh_325 : SH[325]? = some (0, 1200, []) := rfl
set_option maxRecDepth 100000 in
theorem sh_326 : SH[326]? = some (0, 40, []) := rfl
set_option maxRecDepth 100000 in
theorem sh_327 : SH[327]? = some (0, 160, []) := rfl
set_option maxRecDepth 100000 in
theorem sh_328 : SH[328]? = some (0, 128, []) := rfl
set_option maxRecDepth 100000 in
theorem sh_329 : SH[329]? = some (0, 24, []) := rfl
set_option maxRecDepth 100000 in
theorem sh_330 : SH[330]? = some (0, 11, []) := rfl
set_option maxRecDepth 100000 in
theorem sh_331 : SH[331]? = some (0, 420, []) := rfl
set_option maxRecDepth 100000 in
theorem sh_332 : SH[332]? = some (0, 60, []) := rfl
set_option maxRecDepth 100000 in
theorem sh_333 : SH[333]? = some (0, 8, []) := rfl
set_option maxRecDepth 100000 in
theorem sh_334 : SH[334]? = some (0, 16, []) := rfl
set_option maxRecDepth 100000 in
theorem sh_335 : SH[335]? = some (0, 6, []) := rfl
set_option maxRecDepth 100000 in
theorem sh_336 : SH[336]? = some (0, 6, []) := rfl
set_option maxRecDepth 100000 in
theorem sh_337 : SH[337]? = some (0, 8, []) := rfl
set_option maxRecDepth 100000 in
theorem sh_338 : SH[338]? = some (0, 2, []) := rfl
set_option maxRecDepth 100000 in
theorem sh_339 : SH[339]? = some (0, 16, []) := rfl
set_option maxRecDepth 100000 in
theorem sh_340 : SH[340]? = some (0, 8, []) := rfl
set_option maxRecDepth 100000 in
theorem sh_341 : SH[341]? = some (0, 3801, []) := rfl
set_option maxRecDepth 100000 in
theorem sh_342 : SH[342]? = some (0, 31, []) := rfl
set_option maxRecDepth 100000 in
theorem sh_343 : SH[343]? = some (0, 2400, []) := rfl
