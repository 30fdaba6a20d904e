/-! ===== all numberings of eight points, one after another ===== -/
def dig (c j : Nat) : Nat := c / 8 ^ j % 8
def swp (g : Nat → Nat) (i k : Nat) : Nat → Nat := fun j => bif Nat.beq j i then g k else bif Nat.beq j k then g i else g j
/-- one more than the last place at which the row goes up -/
def upI (g : Nat → Nat) : Nat → Nat
  | 0 => 0
  | m + 1 => bif Nat.blt (g (m + 1)) (g m) then upI g m else m + 1
def upK (g : Nat → Nat) (v : Nat) : Nat → Nat
  | 0 => 0
  | m + 1 => bif Nat.blt (g m) v then upK g v m else m
def rvs : Nat → (Nat → Nat) → Nat → Nat → (Nat → Nat)
  | 0, g, _, _ => g
  | n + 1, g, a, b => bif Nat.blt a b then rvs n (swp g a b) (a + 1) (b - 1) else g
def enc (g : Nat → Nat) : Nat := g 0 + 8 * (g 1 + 8 * (g 2 + 8 * (g 3 + 8 * (g 4 + 8 * (g 5 + 8 * (g 6 + 8 * g 7))))))
/-- one more than the next numbering's code; 0 if there is none -/
def nxG (g : Nat → Nat) : Nat → Nat := rvs 4 (swp g (upI g 7 - 1) (upK g (g (upI g 7 - 1)) 8)) (upI g 7) 7
def nxC (c : Nat) : Nat := bif Nat.beq (upI (dig c) 7) 0 then 0 else enc (nxG (dig c)) + 1
def badC : Nat := 1099511627776
def foN (g : Nat → Nat → Nat) : Nat → Nat → Nat → Nat
  | 0, _, x => x
  | n + 1, k, x => foN g n (k + 1) (g k x)
/-- the tree of all numberings, walked in order: at a leaf the numbering must be the one at hand, and the next is taken -/
def wk : Nat → Nat → Nat → Nat → Nat → Nat
  | 0, _, _, c, x => bif Nat.beq x (c + 1) then nxC c else badC
  | m + 1, p, u, c, x => foN (fun t x => bif Nat.testBit u t then x else wk m (p + 1) (u ||| 2 ^ t) (c + t * 8 ^ p) x) 8 0 x
