/-! the net as a pure picture: rows are functions, the same on both sides -/
/-- nothing stands on a wire that isn't there -/
def cn_Z (n : Nat) (f : Nat → Int32) : Prop := ∀ j, n ≤ j → f j = 0
/-- the first c comparators lie on the n wires -/
def cn_V (n c : Nat) (lo hi : Nat → Int32) : Prop := ∀ k, k < c → ∃ a b : Nat, a < n ∧ b < n ∧ lo k = nI a ∧ hi k = nI b
/-- comparator a b at a row -/
def cn_s (a b : Nat) (f : Nat → Int32) : Nat → Int32 := if f a ≤ f b then f else upd (upd f a (f b)) b (f a)
def cn_e (a b : Nat) (f : Nat → Int32) : Nat := if f a ≤ f b then 0 else 1
def cn_S (lo hi : Nat → Int32) (k : Nat) (f : Nat → Int32) : Nat → Int32 := cn_s (lo k).toNatClampNeg (hi k).toNatClampNeg f
def cn_E (lo hi : Nat → Int32) (k : Nat) (f : Nat → Int32) : Nat := cn_e (lo k).toNatClampNeg (hi k).toNatClampNeg f
/-- d comparators from k on: the row behind them, and how many exchange -/
def cn_run (lo hi : Nat → Int32) : Nat → Nat → (Nat → Int32) → (Nat → Int32)
  | 0, _, f => f
  | d + 1, k, f => cn_run lo hi d (k + 1) (cn_S lo hi k f)
def cn_exc (lo hi : Nat → Int32) : Nat → Nat → (Nat → Int32) → Nat
  | 0, _, _ => 0
  | d + 1, k, f => cn_E lo hi k f + cn_exc lo hi d (k + 1) (cn_S lo hi k f)
/-- a row of numbers as an array -/
def cn_ar (l : List Nat) : Nat → Int32 := fun j => nI (l.getD j 0)
def cn_srt : Nat → Nat → (Nat → Int32) → Bool
  | 0, _, _ => true
  | d + 1, k, f => if f k = nI (k + 1) then cn_srt d (k + 1) f else false
def cn_same : Nat → Nat → (Nat → Int32) → (Nat → Int32) → Bool
  | 0, _, _, _ => true
  | d + 1, k, f, g => if f k = g k then cn_same d (k + 1) f g else false
theorem cn_updZ {n k : Nat} {f : Nat → Int32} {x : Int32} (h : cn_Z n f) (hk : k < n) : cn_Z n (upd f k x) := by
  intro j hj
  rw [pk_un (by omega)]
  exact h j hj
theorem cn_sZ {n a b : Nat} {f : Nat → Int32} (h : cn_Z n f) (ha : a < n) (hb : b < n) : cn_Z n (cn_s a b f) := by
  unfold cn_s
  split
  · exact h
  · exact cn_updZ (cn_updZ h ha) hb
theorem cn_cl {a n : Nat} (h : a < n) (h7 : n ≤ 7) : (nI a).toNatClampNeg = a := nI_clamp (by omega)
theorem cn_SZ {n c k : Nat} {lo hi f : Nat → Int32} (h7 : n ≤ 7) (hv : cn_V n c lo hi) (hk : k < c) (h : cn_Z n f) : cn_Z n (cn_S lo hi k f) := by
  obtain ⟨a, b, ha, hb, ea, eb⟩ := hv k hk
  unfold cn_S
  rw [ea, eb, cn_cl ha h7, cn_cl hb h7]
  exact cn_sZ h ha hb
theorem cn_runZ {n c : Nat} {lo hi : Nat → Int32} (h7 : n ≤ 7) (hv : cn_V n c lo hi) : ∀ (d k : Nat) (f : Nat → Int32), k + d ≤ c → cn_Z n f → cn_Z n (cn_run lo hi d k f) := by
  intro d
  induction d with
  | zero => intro k f _ h; exact h
  | succ d ih => intro k f hk h; exact ih (k + 1) _ (by omega) (cn_SZ h7 hv (by omega) h)
theorem cn_run_add (lo hi : Nat → Int32) : ∀ (d e k : Nat) (f : Nat → Int32), cn_run lo hi (d + e) k f = cn_run lo hi e (k + d) (cn_run lo hi d k f) := by
  intro d
  induction d with
  | zero => intro e k f; rw [Nat.zero_add]; rfl
  | succ d ih =>
    intro e k f
    rw [show d + 1 + e = (d + e) + 1 by omega, show k + (d + 1) = (k + 1) + d by omega]
    exact ih e (k + 1) _
theorem cn_run_last (lo hi : Nat → Int32) (d k : Nat) (f : Nat → Int32) : cn_run lo hi (d + 1) k f = cn_S lo hi (k + d) (cn_run lo hi d k f) := cn_run_add lo hi d 1 k f
theorem cn_E01 (lo hi : Nat → Int32) (k : Nat) (f : Nat → Int32) : cn_E lo hi k f = 0 ∨ cn_E lo hi k f = 1 := by
  unfold cn_E cn_e
  split
  · exact Or.inl rfl
  · exact Or.inr rfl
theorem cn_arZ {n : Nat} {l : List Nat} (h : l.length ≤ n) : cn_Z n (cn_ar l) := by
  intro j hj
  unfold cn_ar
  rw [List.getD_eq_getElem?_getD, List.getElem?_eq_none (by omega)]
  rfl
theorem cn_getset {l : List Nat} {i v j : Nat} (hi : i < l.length) : (l.set i v).getD j 0 = if j = i then v else l.getD j 0 := by
  rw [List.getD_eq_getElem?_getD, List.getElem?_set, List.getD_eq_getElem?_getD]
  by_cases h : j = i
  · subst h
    rw [if_pos rfl, if_pos hi, if_pos rfl]
    rfl
  · rw [if_neg (fun e => h e.symm), if_neg h]
theorem cn_arset {l : List Nat} {i v : Nat} (hi : i < l.length) : cn_ar (l.set i v) = upd (cn_ar l) i (nI v) := by
  funext j
  show nI ((l.set i v).getD j 0) = if j = i then nI v else nI (l.getD j 0)
  rw [cn_getset hi]
  split
  · rfl
  · rfl
theorem cn_getapp {l : List Nat} {v j : Nat} : (l ++ [v]).getD j 0 = if j = l.length then v else l.getD j 0 := by
  rw [List.getD_eq_getElem?_getD, List.getD_eq_getElem?_getD, List.getElem?_append]
  by_cases h : j < l.length
  · rw [if_pos h, if_neg (by omega)]
  · rw [if_neg h]
    by_cases e : j = l.length
    · rw [if_pos e, e, Nat.sub_self]; rfl
    · rw [if_neg e, List.getElem?_eq_none (by simp; omega), List.getElem?_eq_none (by omega)]
theorem cn_facPos : ∀ n, 0 < cn_fac n := by
  intro n
  induction n with
  | zero => decide
  | succ n ih => exact Nat.mul_pos (by omega) ih
theorem cn_facLe {n : Nat} (h7 : n ≤ 7) : cn_fac n ≤ 5040 := by
  have c : n = 0 ∨ n = 1 ∨ n = 2 ∨ n = 3 ∨ n = 4 ∨ n = 5 ∨ n = 6 ∨ n = 7 := by omega
  rcases c with rfl | rfl | rfl | rfl | rfl | rfl | rfl | rfl <;> decide +kernel
theorem cn_cnt (Q : Nat → Bool) (p d : Nat) : (List.range' p (d + 1)).countP Q = (if Q p then 1 else 0) + (List.range' (p + 1) d).countP Q := by
  rw [List.range'_succ, List.countP_cons, Nat.add_comm]
