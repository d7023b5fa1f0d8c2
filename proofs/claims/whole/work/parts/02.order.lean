/-! the orders: the reference's row of them, the component's, and that each is a rearrangement of the other -/
def cn_fac : Nat → Nat
  | 0 => 1
  | n + 1 => (n + 1) * cn_fac n
/-- the component's order: d steps from step m on, r the rest, l the row so far -/
def cn_xo : Nat → Nat → Nat → List Nat → List Nat
  | 0, _, _, l => l
  | d + 1, m, r, l => cn_xo d (m + 1) (r / m) ((l ++ [l.getD (r % m) 0]).set (r % m) m)
/-- the i-th order of the numbers r, by their rank -/
def cn_un : Nat → Nat → List Nat → List Nat
  | 0, _, _ => []
  | k + 1, i, r => r.getD (i / cn_fac k) 0 :: cn_un k (i % cn_fac k) (r.eraseIdx (i / cn_fac k))
def cn_X (n p : Nat) : List Nat := cn_xo n 1 p []
def cn_Y (n i : Nat) : List Nat := cn_un n i (List.range' 1 n)
def cn_lt1 (a : Nat) : List Nat → Nat
  | [] => 0
  | b :: l => bif Nat.blt b a then cn_lt1 a l + 1 else cn_lt1 a l
def cn_rk : Nat → List Nat → Nat
  | 0, _ => 0
  | _ + 1, [] => 0
  | k + 1, a :: l => cn_lt1 a l * cn_fac k + cn_rk k l
def cn_ix (a : Nat) : List Nat → Nat
  | [] => 0
  | b :: l => bif Nat.beq b a then 0 else cn_ix a l + 1
def cn_xr : Nat → Nat → List Nat → Nat
  | 0, acc, _ => acc
  | m + 1, acc, l => cn_xr m (cn_ix (m + 1) l + (m + 1) * acc) ((l.set (cn_ix (m + 1) l) (l.getD m 0)).take m)
def cn_at (l : List Nat) : Nat → Option Nat
  | 0 => none
  | a + 1 => bif Nat.ble (l.getD a 0) (l.getD (a + 1) 0) then some a else cn_at l a
def cn_to (l : List Nat) (x : Nat) : Nat → Nat
  | 0 => 0
  | t + 1 => bif Nat.ble x (l.getD (t + 1) 0) then t + 1 else cn_to l x t
def cn_rv (n a : Nat) : Nat → Nat → List Nat → List Nat
  | 0, _, l => l
  | d + 1, x, l => bif Nat.blt (a + x) (n - x) then cn_rv n a d (x + 1) ((l.set (a + x) (l.getD (n - x) 0)).set (n - x) (l.getD (a + x) 0)) else l
def cn_sw (l : List Nat) (a t : Nat) : List Nat := (l.set a (l.getD t 0)).set t (l.getD a 0)
def cn_nx (n : Nat) (l : List Nat) : Option (List Nat) := match cn_at l (n - 1) with
  | none => none
  | some a => some (cn_rv n a 4 1 (cn_sw l a (cn_to l (l.getD a 0) (n - 1))))
def cn_le : List Nat → List Nat → Bool
  | [], [] => true
  | a :: l, b :: m => bif Nat.beq a b then cn_le l m else false
  | _, _ => false
def cn_ok : Nat → List Nat → Bool
  | 0, [] => true
  | k + 1, a :: l => bif Nat.blt a 8 then cn_ok k l else false
  | _, _ => false
def cn_oe : Option (List Nat) → List Nat → Bool
  | none, _ => false
  | some l, m => cn_le l m
def cn_on : Option (List Nat) → Bool
  | none => true
  | some _ => false
def cn_ck (n N i : Nat) (l : List Nat) : Bool :=
  bif cn_ok n l then bif Nat.beq (cn_rk n l) i then bif Nat.blt (cn_xr n 0 l) N then bif cn_le (cn_X n (cn_xr n 0 l)) l then
    bif Nat.blt (i + 1) N then cn_oe (cn_nx n l) (cn_Y n (i + 1)) else cn_on (cn_nx n l)
  else false else false else false else false
def cn_all (f : Nat → Bool) : Nat → Nat → Bool
  | 0, b => f b
  | d + 1, b => bif cn_all f d (2 * b) then cn_all f d (2 * b + 1) else false
def cn_ckn (n N i : Nat) : Bool := bif Nat.blt i N then cn_ck n N i (cn_Y n i) else true
