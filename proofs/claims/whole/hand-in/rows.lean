section
theorem pk_us {f : Nat → Int32} {k : Nat} {x : Int32} : upd f k x k = x := if_pos rfl
theorem pk_un {f : Nat → Int32} {k j : Nat} {x : Int32} (h : j ≠ k) : upd f k x j = f j := if_neg h
theorem pk_sub {a b : Nat} (h : b ≤ a) : nI a - nI b = nI (a - b) := by
  obtain ⟨c, rfl⟩ : ∃ c, a = c + b := ⟨a - b, by omega⟩
  rw [← nI_add, Int32.add_sub_cancel, Nat.add_sub_cancel]
theorem pk_m1 (n : Nat) : nI (n + 1) + (-1) = nI n := by
  rw [← nI_1, Int32.add_assoc, show (1 : Int32) + (-1) = 0 from rfl, Int32.add_zero]
theorem pk_mul (a b : Nat) : nI a * nI b = nI (a * b) := (Int32.ofNat_mul a b).symm
theorem pk_div {a d : Nat} (ha : a < 2 ^ 31) (h0 : 0 < d) (hd : d < 2 ^ 31) : nI a / nI d = nI (a / d) := by
  apply Int32.toInt_inj.mp
  rw [lg_idiv_nonneg (by rw [nI_toInt ha]; omega) (by rw [nI_toInt hd]; omega), nI_toInt ha, nI_toInt hd, nI_toInt (Nat.lt_of_le_of_lt (Nat.div_le_self a d) ha)]
  first | rfl | exact (Int.natCast_ediv _ _).symm
theorem pk_rem {a d : Nat} (ha : a < 2 ^ 31) (h0 : 0 < d) (hd : d < 2 ^ 31) : nI a - nI a / nI d * nI d = nI (a % d) := by
  rw [pk_div ha h0 hd, pk_mul, pk_sub (Nat.div_mul_le_self a d)]
  exact congrArg nI (by have := Nat.div_add_mod' a d; omega)
theorem pk_ix (x : Int32) {n : Nat} (hn : n < 2 ^ 31) : x < 0 ∨ nI n ≤ x ∨ ∃ j : Nat, j < n ∧ x = nI j := by
  by_cases h : x < 0
  · exact Or.inl h
  · obtain ⟨j, hj, rfl⟩ := nI_of h
    by_cases h2 : j < n
    · exact Or.inr (Or.inr ⟨j, h2, rfl⟩)
    · exact Or.inr (Or.inl (nI_le (by omega) hj))
theorem pk_le {x y : Int32} {A B : Prop} (a b : Nat) (f : a ≤ b → A) (g : b < a → B) (hx : x = nI a := by rfl) (hy : y = nI b := by rfl) (ha : a < 2 ^ 31 := by omega) (hb : b < 2 ^ 31 := by omega) : (x ≤ y → A) ∧ (¬ x ≤ y → B) := by
  subst hx hy
  rw [nI_leI ha hb]
  exact ⟨f, fun z => g (by omega)⟩
theorem pk_lt {x y : Int32} {A B : Prop} (a b : Nat) (f : a < b → A) (g : b ≤ a → B) (hx : x = nI a := by rfl) (hy : y = nI b := by rfl) (ha : a < 2 ^ 31 := by omega) (hb : b < 2 ^ 31 := by omega) : (x < y → A) ∧ (¬ x < y → B) := by
  subst hx hy
  rw [nI_ltI ha hb]
  exact ⟨f, fun z => g (by omega)⟩
theorem pk_eq {x y : Int32} {A B : Prop} (a b : Nat) (f : a = b → A) (g : a ≠ b → B) (hx : x = nI a := by rfl) (hy : y = nI b := by rfl) (ha : a < 2 ^ 31 := by omega) (hb : b < 2 ^ 31 := by omega) : (x = y → A) ∧ (¬ x = y → B) := by
  subst hx hy
  rw [nI_eq ha hb]
  exact ⟨f, g⟩
theorem pk_in {x : Int32} (n N : Nat) (h : n < N) (hx : x = nI n := by rfl) (hN : N < 2 ^ 31 := by omega) : vp_in x N := by
  subst hx
  exact vp_in_nI h hN
theorem pk_cl {x : Int32} (n : Nat) (hx : x = nI n := by rfl) (h : n < 2 ^ 31 := by omega) : x.toNatClampNeg = n := by
  subst hx
  exact nI_clamp h
end
section
/-! the orders: the reference's row of them, the component's, and that each is a rearrangement of the other -/
def cn_fac : Nat → Nat
  | 0 => 1
  | n + 1 => (n + 1) * cn_fac n
/-- the component's order: d steps from step m on, r the rest, l the row so far -/
def cn_xo : Nat → Nat → Nat → List Nat → List Nat
  | 0, _, _, l => l
  | d + 1, m, r, l => cn_xo d (m + 1) (r / m) ((l ++ [l.getD (r % m) 0]).set (r % m) m)
/-- the i-th order of the numbers r, by their rank -/
def cn_un : Nat → Nat → List Nat → List Nat
  | 0, _, _ => []
  | k + 1, i, r => r.getD (i / cn_fac k) 0 :: cn_un k (i % cn_fac k) (r.eraseIdx (i / cn_fac k))
def cn_X (n p : Nat) : List Nat := cn_xo n 1 p []
def cn_Y (n i : Nat) : List Nat := cn_un n i (List.range' 1 n)
def cn_lt1 (a : Nat) : List Nat → Nat
  | [] => 0
  | b :: l => bif Nat.blt b a then cn_lt1 a l + 1 else cn_lt1 a l
def cn_rk : Nat → List Nat → Nat
  | 0, _ => 0
  | _ + 1, [] => 0
  | k + 1, a :: l => cn_lt1 a l * cn_fac k + cn_rk k l
def cn_ix (a : Nat) : List Nat → Nat
  | [] => 0
  | b :: l => bif Nat.beq b a then 0 else cn_ix a l + 1
def cn_xr : Nat → Nat → List Nat → Nat
  | 0, acc, _ => acc
  | m + 1, acc, l => cn_xr m (cn_ix (m + 1) l + (m + 1) * acc) ((l.set (cn_ix (m + 1) l) (l.getD m 0)).take m)
def cn_at (l : List Nat) : Nat → Option Nat
  | 0 => none
  | a + 1 => bif Nat.ble (l.getD a 0) (l.getD (a + 1) 0) then some a else cn_at l a
def cn_to (l : List Nat) (x : Nat) : Nat → Nat
  | 0 => 0
  | t + 1 => bif Nat.ble x (l.getD (t + 1) 0) then t + 1 else cn_to l x t
def cn_rv (n a : Nat) : Nat → Nat → List Nat → List Nat
  | 0, _, l => l
  | d + 1, x, l => bif Nat.blt (a + x) (n - x) then cn_rv n a d (x + 1) ((l.set (a + x) (l.getD (n - x) 0)).set (n - x) (l.getD (a + x) 0)) else l
def cn_sw (l : List Nat) (a t : Nat) : List Nat := (l.set a (l.getD t 0)).set t (l.getD a 0)
def cn_nx (n : Nat) (l : List Nat) : Option (List Nat) := match cn_at l (n - 1) with
  | none => none
  | some a => some (cn_rv n a 4 1 (cn_sw l a (cn_to l (l.getD a 0) (n - 1))))
def cn_le : List Nat → List Nat → Bool
  | [], [] => true
  | a :: l, b :: m => bif Nat.beq a b then cn_le l m else false
  | _, _ => false
def cn_ok : Nat → List Nat → Bool
  | 0, [] => true
  | k + 1, a :: l => bif Nat.blt a 8 then cn_ok k l else false
  | _, _ => false
def cn_oe : Option (List Nat) → List Nat → Bool
  | none, _ => false
  | some l, m => cn_le l m
def cn_on : Option (List Nat) → Bool
  | none => true
  | some _ => false
def cn_ck (n N i : Nat) (l : List Nat) : Bool :=
  bif cn_ok n l then bif Nat.beq (cn_rk n l) i then bif Nat.blt (cn_xr n 0 l) N then bif cn_le (cn_X n (cn_xr n 0 l)) l then
    bif Nat.blt (i + 1) N then cn_oe (cn_nx n l) (cn_Y n (i + 1)) else cn_on (cn_nx n l)
  else false else false else false else false
def cn_all (f : Nat → Bool) : Nat → Nat → Bool
  | 0, b => f b
  | d + 1, b => bif cn_all f d (2 * b) then cn_all f d (2 * b + 1) else false
def cn_ckn (n N i : Nat) : Bool := bif Nat.blt i N then cn_ck n N i (cn_Y n i) else true
end
section
theorem cn_k2 : cn_all (cn_ckn 2 2) 1 0 = true := by decide +kernel
theorem cn_k3 : cn_all (cn_ckn 3 6) 3 0 = true := by decide +kernel
theorem cn_k4 : cn_all (cn_ckn 4 24) 5 0 = true := by decide +kernel
theorem cn_k5 : cn_all (cn_ckn 5 120) 7 0 = true := by decide +kernel
theorem cn_k6 : cn_all (cn_ckn 6 720) 10 0 = true := by decide +kernel
theorem cn_k7_0 : cn_all (cn_ckn 7 5040) 8 0 = true := by decide +kernel
theorem cn_k7_1 : cn_all (cn_ckn 7 5040) 8 1 = true := by decide +kernel
theorem cn_k7_2 : cn_all (cn_ckn 7 5040) 8 2 = true := by decide +kernel
theorem cn_k7_3 : cn_all (cn_ckn 7 5040) 8 3 = true := by decide +kernel
theorem cn_k7_4 : cn_all (cn_ckn 7 5040) 8 4 = true := by decide +kernel
theorem cn_k7_5 : cn_all (cn_ckn 7 5040) 8 5 = true := by decide +kernel
theorem cn_k7_6 : cn_all (cn_ckn 7 5040) 8 6 = true := by decide +kernel
theorem cn_k7_7 : cn_all (cn_ckn 7 5040) 8 7 = true := by decide +kernel
theorem cn_k7_8 : cn_all (cn_ckn 7 5040) 8 8 = true := by decide +kernel
theorem cn_k7_9 : cn_all (cn_ckn 7 5040) 8 9 = true := by decide +kernel
theorem cn_k7_10 : cn_all (cn_ckn 7 5040) 8 10 = true := by decide +kernel
theorem cn_k7_11 : cn_all (cn_ckn 7 5040) 8 11 = true := by decide +kernel
theorem cn_k7_12 : cn_all (cn_ckn 7 5040) 8 12 = true := by decide +kernel
theorem cn_k7_13 : cn_all (cn_ckn 7 5040) 8 13 = true := by decide +kernel
theorem cn_k7_14 : cn_all (cn_ckn 7 5040) 8 14 = true := by decide +kernel
theorem cn_k7_15 : cn_all (cn_ckn 7 5040) 8 15 = true := by decide +kernel
theorem cn_k7_16 : cn_all (cn_ckn 7 5040) 8 16 = true := by decide +kernel
theorem cn_k7_17 : cn_all (cn_ckn 7 5040) 8 17 = true := by decide +kernel
theorem cn_k7_18 : cn_all (cn_ckn 7 5040) 8 18 = true := by decide +kernel
theorem cn_k7_19 : cn_all (cn_ckn 7 5040) 8 19 = true := by decide +kernel
end
section
theorem cn_all_of {f : Nat → Bool} : ∀ {d b : Nat}, cn_all f d b = true → ∀ i, i / 2 ^ d = b → f i = true := by
  intro d
  induction d with
  | zero => intro b h i hi; rw [Nat.pow_zero, Nat.div_one] at hi; rw [hi]; exact h
  | succ d ih =>
    intro b h i hi
    have h1 : cn_all f d (2 * b) = true := by
      cases e : cn_all f d (2 * b) with
      | true => rfl
      | false => rw [cn_all, e] at h; exact absurd (show false = true from h) (by decide)
    have h2 : cn_all f d (2 * b + 1) = true := by rw [cn_all, h1] at h; exact h
    rw [Nat.pow_succ, ← Nat.div_div_eq_div_mul] at hi
    rcases (by omega : i / 2 ^ d = 2 * b ∨ i / 2 ^ d = 2 * b + 1) with e | e
    · exact ih h1 i e
    · exact ih h2 i e
theorem cn_bt {a b : Bool} (h : (bif a then b else false) = true) : a = true ∧ b = true := by
  cases a
  · exact absurd (show false = true from h) (by decide)
  · exact ⟨rfl, h⟩
theorem cn_le_eq : ∀ {l m : List Nat}, cn_le l m = true → l = m := by
  intro l
  induction l with
  | nil => intro m h; cases m with
    | nil => rfl
    | cons b m => exact absurd h (by simp [cn_le])
  | cons a l ih => intro m h; cases m with
    | nil => exact absurd h (by simp [cn_le])
    | cons b m =>
      obtain ⟨h1, h2⟩ := cn_bt (show (bif Nat.beq a b then cn_le l m else false) = true from h)
      rw [Nat.eq_of_beq_eq_true h1, ih h2]
theorem cn_ok_len : ∀ {k : Nat} {l : List Nat}, cn_ok k l = true → l.length = k := by
  intro k
  induction k with
  | zero => intro l h; cases l with
    | nil => rfl
    | cons b m => exact absurd h (by simp [cn_ok])
  | succ k ih => intro l h; cases l with
    | nil => exact absurd h (by simp [cn_ok])
    | cons b m =>
      obtain ⟨_, h2⟩ := cn_bt (show (bif Nat.blt b 8 then cn_ok k m else false) = true from h)
      rw [List.length_cons, ih h2]
theorem cn_ok_lt : ∀ {k : Nat} {l : List Nat}, cn_ok k l = true → ∀ j, l.getD j 0 < 8 := by
  intro k
  induction k with
  | zero => intro l h; cases l with
    | nil => intro j; simp
    | cons b m => exact absurd h (by simp [cn_ok])
  | succ k ih => intro l h; cases l with
    | nil => exact absurd h (by simp [cn_ok])
    | cons b m =>
      obtain ⟨h1, h2⟩ := cn_bt (show (bif Nat.blt b 8 then cn_ok k m else false) = true from h)
      intro j
      cases j with
      | zero => have := Nat.le_of_ble_eq_true h1; simp; omega
      | succ j => simp only [List.getD_cons_succ]; exact ih h2 j
theorem cn_ckAll {n : Nat} (h2 : 2 ≤ n) (h7 : n ≤ 7) {i : Nat} (hi : i < cn_fac n) : cn_ckn n (cn_fac n) i = true := by
  have c : n = 2 ∨ n = 3 ∨ n = 4 ∨ n = 5 ∨ n = 6 ∨ n = 7 := by omega
  rcases c with rfl | rfl | rfl | rfl | rfl | rfl
  · have e : cn_fac 2 = 2 := by decide
    rw [e] at hi ⊢
    exact cn_all_of cn_k2 i (by omega)
  · have e : cn_fac 3 = 6 := by decide
    rw [e] at hi ⊢
    exact cn_all_of cn_k3 i (by omega)
  · have e : cn_fac 4 = 24 := by decide
    rw [e] at hi ⊢
    exact cn_all_of cn_k4 i (by omega)
  · have e : cn_fac 5 = 120 := by decide
    rw [e] at hi ⊢
    exact cn_all_of cn_k5 i (by omega)
  · have e : cn_fac 6 = 720 := by decide
    rw [e] at hi ⊢
    exact cn_all_of cn_k6 i (by omega)
  · have e : cn_fac 7 = 5040 := by decide +kernel
    rw [e] at hi ⊢
    have c : i / 2 ^ 8 = 0 ∨ i / 2 ^ 8 = 1 ∨ i / 2 ^ 8 = 2 ∨ i / 2 ^ 8 = 3 ∨ i / 2 ^ 8 = 4 ∨ i / 2 ^ 8 = 5 ∨ i / 2 ^ 8 = 6 ∨ i / 2 ^ 8 = 7 ∨ i / 2 ^ 8 = 8 ∨ i / 2 ^ 8 = 9 ∨ i / 2 ^ 8 = 10 ∨ i / 2 ^ 8 = 11 ∨ i / 2 ^ 8 = 12 ∨ i / 2 ^ 8 = 13 ∨ i / 2 ^ 8 = 14 ∨ i / 2 ^ 8 = 15 ∨ i / 2 ^ 8 = 16 ∨ i / 2 ^ 8 = 17 ∨ i / 2 ^ 8 = 18 ∨ i / 2 ^ 8 = 19 := by omega
    rcases c with e | e | e | e | e | e | e | e | e | e | e | e | e | e | e | e | e | e | e | e
    · exact cn_all_of cn_k7_0 i e
    · exact cn_all_of cn_k7_1 i e
    · exact cn_all_of cn_k7_2 i e
    · exact cn_all_of cn_k7_3 i e
    · exact cn_all_of cn_k7_4 i e
    · exact cn_all_of cn_k7_5 i e
    · exact cn_all_of cn_k7_6 i e
    · exact cn_all_of cn_k7_7 i e
    · exact cn_all_of cn_k7_8 i e
    · exact cn_all_of cn_k7_9 i e
    · exact cn_all_of cn_k7_10 i e
    · exact cn_all_of cn_k7_11 i e
    · exact cn_all_of cn_k7_12 i e
    · exact cn_all_of cn_k7_13 i e
    · exact cn_all_of cn_k7_14 i e
    · exact cn_all_of cn_k7_15 i e
    · exact cn_all_of cn_k7_16 i e
    · exact cn_all_of cn_k7_17 i e
    · exact cn_all_of cn_k7_18 i e
    · exact cn_all_of cn_k7_19 i e
theorem cn_ck_of {n : Nat} (h2 : 2 ≤ n) (h7 : n ≤ 7) {i : Nat} (hi : i < cn_fac n) : cn_ck n (cn_fac n) i (cn_Y n i) = true := by
  have h := cn_ckAll h2 h7 hi
  have b : Nat.blt i (cn_fac n) = true := Nat.ble_eq_true_of_le hi
  rw [cn_ckn, b] at h
  exact h
theorem cn_Yok {n : Nat} (h2 : 2 ≤ n) (h7 : n ≤ 7) {i : Nat} (hi : i < cn_fac n) : cn_ok n (cn_Y n i) = true := (cn_bt (cn_ck_of h2 h7 hi)).1
theorem cn_Yrk {n : Nat} (h2 : 2 ≤ n) (h7 : n ≤ 7) {i : Nat} (hi : i < cn_fac n) : cn_rk n (cn_Y n i) = i := Nat.eq_of_beq_eq_true (cn_bt (cn_bt (cn_ck_of h2 h7 hi)).2).1
theorem cn_Yxr {n : Nat} (h2 : 2 ≤ n) (h7 : n ≤ 7) {i : Nat} (hi : i < cn_fac n) : cn_xr n 0 (cn_Y n i) < cn_fac n := Nat.le_of_ble_eq_true (cn_bt (cn_bt (cn_bt (cn_ck_of h2 h7 hi)).2).2).1
theorem cn_YX {n : Nat} (h2 : 2 ≤ n) (h7 : n ≤ 7) {i : Nat} (hi : i < cn_fac n) : cn_X n (cn_xr n 0 (cn_Y n i)) = cn_Y n i := cn_le_eq (cn_bt (cn_bt (cn_bt (cn_bt (cn_ck_of h2 h7 hi)).2).2).2).1
theorem cn_Ynx {n : Nat} (h2 : 2 ≤ n) (h7 : n ≤ 7) {i : Nat} (hi : i + 1 < cn_fac n) : cn_nx n (cn_Y n i) = some (cn_Y n (i + 1)) := by
  have h := (cn_bt (cn_bt (cn_bt (cn_bt (cn_ck_of h2 h7 (i := i) (by omega))).2).2).2).2
  have b : Nat.blt (i + 1) (cn_fac n) = true := Nat.ble_eq_true_of_le hi
  rw [b] at h
  cases e : cn_nx n (cn_Y n i) with
  | none => rw [e] at h; exact absurd h (by simp [cn_oe])
  | some l => rw [e] at h; exact congrArg some (cn_le_eq h)
theorem cn_Yend {n : Nat} (h2 : 2 ≤ n) (h7 : n ≤ 7) {i : Nat} (hi : i + 1 = cn_fac n) : cn_nx n (cn_Y n i) = none := by
  have h := (cn_bt (cn_bt (cn_bt (cn_bt (cn_ck_of h2 h7 (i := i) (by omega))).2).2).2).2
  have b : Nat.blt (i + 1) (cn_fac n) = false := by
    cases e : Nat.blt (i + 1) (cn_fac n) with
    | false => rfl
    | true => have := Nat.le_of_ble_eq_true e; omega
  rw [b] at h
  cases e : cn_nx n (cn_Y n i) with
  | none => rfl
  | some l => rw [e] at h; exact absurd h (by simp [cn_on])
theorem cn_perm {α : Type} [BEq α] [LawfulBEq α] : ∀ (y x : List α), y.Nodup → (∀ a, a ∈ y → a ∈ x) → x.length ≤ y.length → y.Perm x := by
  intro y
  induction y with
  | nil => intro x _ _ h; rw [List.eq_nil_of_length_eq_zero (Nat.le_zero.mp h)]
  | cons a y ih =>
    intro x hn hs hl
    rw [List.nodup_cons] at hn
    have ha : a ∈ x := hs a List.mem_cons_self
    refine List.Perm.trans (List.Perm.cons a (ih (x.erase a) hn.2 ?_ ?_)) (List.perm_cons_erase ha).symm
    · intro b hb
      have hne : b ≠ a := fun e => hn.1 (e ▸ hb)
      exact (List.mem_erase_of_ne hne).mpr (hs b (List.mem_cons_of_mem a hb))
    · have := List.length_erase_of_mem ha
      rw [List.length_cons] at hl
      omega
theorem cn_nodup {α : Type} {f : Nat → α} {g : α → Nat} : ∀ (d s : Nat), (∀ i, s ≤ i → i < s + d → g (f i) = i) → ((List.range' s d).map f).Nodup := by
  intro d
  induction d with
  | zero => intro s _; exact List.nodup_nil
  | succ d ih =>
    intro s h
    rw [List.range'_succ, List.map_cons, List.nodup_cons]
    refine ⟨?_, ih (s + 1) fun i h1 h3 => h i (by omega) (by omega)⟩
    intro hm
    obtain ⟨i, hi, e⟩ := List.mem_map.mp hm
    rw [List.mem_range'_1] at hi
    have e1 := h i (by omega) (by omega)
    have e2 := h s (by omega) (by omega)
    rw [e] at e1
    omega
theorem cn_tie {n : Nat} (h2 : 2 ≤ n) (h7 : n ≤ 7) : ((List.range' 0 (cn_fac n)).map (cn_Y n)).Perm ((List.range' 0 (cn_fac n)).map (cn_X n)) := by
  refine cn_perm _ _ (cn_nodup (g := cn_rk n) _ _ fun i _ hi => cn_Yrk h2 h7 (by omega)) ?_ ?_
  · intro a ha
    obtain ⟨i, hi, e⟩ := List.mem_map.mp ha
    rw [List.mem_range'_1] at hi
    refine List.mem_map.mpr ⟨cn_xr n 0 (cn_Y n i), ?_, ?_⟩
    · rw [List.mem_range'_1]
      have := cn_Yxr h2 h7 (i := i) (by omega)
      omega
    · rw [cn_YX h2 h7 (by omega), e]
  · simp
/-- over all orders, as many have a property whichever way they are gone through -/
theorem cn_count {n : Nat} (h2 : 2 ≤ n) (h7 : n ≤ 7) (P : List Nat → Bool) : (List.range' 0 (cn_fac n)).countP (fun i => P (cn_Y n i)) = (List.range' 0 (cn_fac n)).countP (fun i => P (cn_X n i)) := by
  have h := (cn_tie h2 h7).countP_eq P
  rw [List.countP_map, List.countP_map] at h
  exact h
theorem cn_every {n : Nat} (h2 : 2 ≤ n) (h7 : n ≤ 7) (P : List Nat → Bool) : (List.range' 0 (cn_fac n)).all (fun i => P (cn_Y n i)) = (List.range' 0 (cn_fac n)).all (fun i => P (cn_X n i)) := by
  have h := (cn_tie h2 h7).all_eq (f := P)
  rw [List.all_map, List.all_map] at h
  exact h
end
section
/-! the net as a pure picture: rows are functions, the same on both sides -/
/-- nothing stands on a wire that isn't there -/
def cn_Z (n : Nat) (f : Nat → Int32) : Prop := ∀ j, n ≤ j → f j = 0
/-- the first c comparators lie on the n wires -/
def cn_V (n c : Nat) (lo hi : Nat → Int32) : Prop := ∀ k, k < c → ∃ a b : Nat, a < n ∧ b < n ∧ lo k = nI a ∧ hi k = nI b
/-- comparator a b at a row -/
def cn_s (a b : Nat) (f : Nat → Int32) : Nat → Int32 := if f a ≤ f b then f else upd (upd f a (f b)) b (f a)
def cn_e (a b : Nat) (f : Nat → Int32) : Nat := if f a ≤ f b then 0 else 1
def cn_S (lo hi : Nat → Int32) (k : Nat) (f : Nat → Int32) : Nat → Int32 := cn_s (lo k).toNatClampNeg (hi k).toNatClampNeg f
def cn_E (lo hi : Nat → Int32) (k : Nat) (f : Nat → Int32) : Nat := cn_e (lo k).toNatClampNeg (hi k).toNatClampNeg f
/-- d comparators from k on: the row behind them, and how many exchange -/
def cn_run (lo hi : Nat → Int32) : Nat → Nat → (Nat → Int32) → (Nat → Int32)
  | 0, _, f => f
  | d + 1, k, f => cn_run lo hi d (k + 1) (cn_S lo hi k f)
def cn_exc (lo hi : Nat → Int32) : Nat → Nat → (Nat → Int32) → Nat
  | 0, _, _ => 0
  | d + 1, k, f => cn_E lo hi k f + cn_exc lo hi d (k + 1) (cn_S lo hi k f)
/-- a row of numbers as an array -/
def cn_ar (l : List Nat) : Nat → Int32 := fun j => nI (l.getD j 0)
def cn_srt : Nat → Nat → (Nat → Int32) → Bool
  | 0, _, _ => true
  | d + 1, k, f => if f k = nI (k + 1) then cn_srt d (k + 1) f else false
def cn_same : Nat → Nat → (Nat → Int32) → (Nat → Int32) → Bool
  | 0, _, _, _ => true
  | d + 1, k, f, g => if f k = g k then cn_same d (k + 1) f g else false
theorem cn_updZ {n k : Nat} {f : Nat → Int32} {x : Int32} (h : cn_Z n f) (hk : k < n) : cn_Z n (upd f k x) := by
  intro j hj
  rw [pk_un (by omega)]
  exact h j hj
theorem cn_sZ {n a b : Nat} {f : Nat → Int32} (h : cn_Z n f) (ha : a < n) (hb : b < n) : cn_Z n (cn_s a b f) := by
  unfold cn_s
  split
  · exact h
  · exact cn_updZ (cn_updZ h ha) hb
theorem cn_cl {a n : Nat} (h : a < n) (h7 : n ≤ 7) : (nI a).toNatClampNeg = a := nI_clamp (by omega)
theorem cn_SZ {n c k : Nat} {lo hi f : Nat → Int32} (h7 : n ≤ 7) (hv : cn_V n c lo hi) (hk : k < c) (h : cn_Z n f) : cn_Z n (cn_S lo hi k f) := by
  obtain ⟨a, b, ha, hb, ea, eb⟩ := hv k hk
  unfold cn_S
  rw [ea, eb, cn_cl ha h7, cn_cl hb h7]
  exact cn_sZ h ha hb
theorem cn_runZ {n c : Nat} {lo hi : Nat → Int32} (h7 : n ≤ 7) (hv : cn_V n c lo hi) : ∀ (d k : Nat) (f : Nat → Int32), k + d ≤ c → cn_Z n f → cn_Z n (cn_run lo hi d k f) := by
  intro d
  induction d with
  | zero => intro k f _ h; exact h
  | succ d ih => intro k f hk h; exact ih (k + 1) _ (by omega) (cn_SZ h7 hv (by omega) h)
theorem cn_run_add (lo hi : Nat → Int32) : ∀ (d e k : Nat) (f : Nat → Int32), cn_run lo hi (d + e) k f = cn_run lo hi e (k + d) (cn_run lo hi d k f) := by
  intro d
  induction d with
  | zero => intro e k f; rw [Nat.zero_add]; rfl
  | succ d ih =>
    intro e k f
    rw [show d + 1 + e = (d + e) + 1 by omega, show k + (d + 1) = (k + 1) + d by omega]
    exact ih e (k + 1) _
theorem cn_run_last (lo hi : Nat → Int32) (d k : Nat) (f : Nat → Int32) : cn_run lo hi (d + 1) k f = cn_S lo hi (k + d) (cn_run lo hi d k f) := cn_run_add lo hi d 1 k f
theorem cn_E01 (lo hi : Nat → Int32) (k : Nat) (f : Nat → Int32) : cn_E lo hi k f = 0 ∨ cn_E lo hi k f = 1 := by
  unfold cn_E cn_e
  split
  · exact Or.inl rfl
  · exact Or.inr rfl
theorem cn_arZ {n : Nat} {l : List Nat} (h : l.length ≤ n) : cn_Z n (cn_ar l) := by
  intro j hj
  unfold cn_ar
  rw [List.getD_eq_getElem?_getD, List.getElem?_eq_none (by omega)]
  rfl
theorem cn_getset {l : List Nat} {i v j : Nat} (hi : i < l.length) : (l.set i v).getD j 0 = if j = i then v else l.getD j 0 := by
  rw [List.getD_eq_getElem?_getD, List.getElem?_set, List.getD_eq_getElem?_getD]
  by_cases h : j = i
  · subst h
    rw [if_pos rfl, if_pos hi, if_pos rfl]
    rfl
  · rw [if_neg (fun e => h e.symm), if_neg h]
theorem cn_arset {l : List Nat} {i v : Nat} (hi : i < l.length) : cn_ar (l.set i v) = upd (cn_ar l) i (nI v) := by
  funext j
  show nI ((l.set i v).getD j 0) = if j = i then nI v else nI (l.getD j 0)
  rw [cn_getset hi]
  split
  · rfl
  · rfl
theorem cn_getapp {l : List Nat} {v j : Nat} : (l ++ [v]).getD j 0 = if j = l.length then v else l.getD j 0 := by
  rw [List.getD_eq_getElem?_getD, List.getD_eq_getElem?_getD, List.getElem?_append]
  by_cases h : j < l.length
  · rw [if_pos h, if_neg (by omega)]
  · rw [if_neg h]
    by_cases e : j = l.length
    · rw [if_pos e, e, Nat.sub_self]; rfl
    · rw [if_neg e, List.getElem?_eq_none (by simp; omega), List.getElem?_eq_none (by omega)]
theorem cn_facPos : ∀ n, 0 < cn_fac n := by
  intro n
  induction n with
  | zero => decide
  | succ n ih => exact Nat.mul_pos (by omega) ih
theorem cn_facLe {n : Nat} (h7 : n ≤ 7) : cn_fac n ≤ 5040 := by
  have c : n = 0 ∨ n = 1 ∨ n = 2 ∨ n = 3 ∨ n = 4 ∨ n = 5 ∨ n = 6 ∨ n = 7 := by omega
  rcases c with rfl | rfl | rfl | rfl | rfl | rfl | rfl | rfl <;> decide +kernel
theorem cn_cnt (Q : Nat → Bool) (p d : Nat) : (List.range' p (d + 1)).countP Q = (if Q p then 1 else 0) + (List.range' (p + 1) d).countP Q := by
  rw [List.range'_succ, List.countP_cons, Nat.add_comm]
end
section
theorem cn_xoLen : ∀ (d m r : Nat) (l : List Nat), (cn_xo d m r l).length = l.length + d := by
  intro d
  induction d with
  | zero => intro m r l; rfl
  | succ d ih => intro m r l; rw [cn_xo, ih]; simp; omega
theorem cn_XZ {n : Nat} (_ : n ≤ 7) (p : Nat) : cn_Z n (cn_ar (cn_X n p)) := cn_arZ (by rw [cn_X, cn_xoLen]; simp)
section
variable {n c : Nat} {fo fc : Int32} {lo hi g f1 f2 f3 : Nat → Int32}
theorem cx_isW1 {post : Int32 → Prop} {j : Nat} (hj : j < n) (h7 : n ≤ 7) (h : post 1) : wpX_isWire post (nI n, fo, fc, lo, hi, g, f1, f2, f3) (nI j) := br_f (nI_pos (by omega)) (br_f (nI_ge hj (by omega)) h)
theorem cx_isW0 {post : Int32 → Prop} {w : Int32} (hw : w < 0 ∨ nI n ≤ w) (h : post 0) : wpX_isWire post (nI n, fo, fc, lo, hi, g, f1, f2, f3) w := br_c (fun _ => h) (fun z => hw.elim (fun a => absurd a z) (fun b => br_t b h))
theorem cx_isC1 {post : Int32 → Prop} {j : Nat} (hj : j < c) (hc : c ≤ 24) (h : post 1) : wpX_isComparator post (fo, fc, nI c, lo, hi, g, f1, f2, f3) (nI j) := br_f (nI_pos (by omega)) (br_f (nI_ge hj (by omega)) h)
theorem cx_isC0 {post : Int32 → Prop} {w : Int32} (hw : w < 0 ∨ nI c ≤ w) (h : post 0) : wpX_isComparator post (fo, fc, nI c, lo, hi, g, f1, f2, f3) w := br_c (fun _ => h) (fun z => hw.elim (fun a => absurd a z) (fun b => br_t b h))
theorem cx_rt_numbers {post : Int32 → SX → Prop} (h7 : n ≤ 7) (hc : c ≤ 24) (hv : cn_V n c lo hi) : ∀ (d k e : Nat) (f : Nat → Int32), k + d ≤ c → post (nI (e + cn_exc lo hi d k f)) (nI n, fo, nI c, lo, hi, g, cn_run lo hi d k f, f2, f3) → wX_runThrough__numbers_6 post (nI (k + d)) (nI n) fo (nI c) (d + 1) (nI e) (nI k) lo hi g f f2 f3 := by
  intro d
  induction d with
  | zero => intro k e f hk hp; exact br_t (nI_le (by omega) (by omega)) hp
  | succ d ih =>
    intro k e f hk hp
    obtain ⟨a, b, ha, hb, ea, eb⟩ := hv k (by omega)
    have ca := cn_cl ha h7
    have cb := cn_cl hb h7
    have ck : (nI k).toNatClampNeg = k := nI_clamp (by omega)
    have ik : vp_in (nI k) 24 := vp_in_nI (by omega) (by omega)
    have ia : vp_in (nI a) 7 := vp_in_nI (by omega) (by omega)
    have ib : vp_in (nI b) 7 := vp_in_nI (by omega) (by omega)
    have hS : cn_S lo hi k f = cn_s a b f := by unfold cn_S; rw [ea, eb, ca, cb]
    have hE : cn_E lo hi k f = cn_e a b f := by unfold cn_E; rw [ea, eb, ca, cb]
    have hq : post (nI (e + (cn_E lo hi k f + cn_exc lo hi d (k + 1) (cn_S lo hi k f)))) (nI n, fo, nI c, lo, hi, g, cn_run lo hi d (k + 1) (cn_S lo hi k f), f2, f3) := hp
    rw [hS, hE] at hq
    rw [show k + (d + 1) = k + 1 + d by omega]
    refine br_f (nI_ge (by omega) (by omega)) ⟨ik, nm_r (e' := nI a) (by rw [ck]; exact ea) ⟨ik, nm_r (e' := nI b) (by rw [ck]; exact eb) ⟨ia, nm_r (e' := f a) (by rw [ca]) ⟨ib, ?_⟩⟩⟩⟩
    rw [ca, cb]
    by_cases hle : f a ≤ f b
    · have s0 : cn_s a b f = f := if_pos hle
      have e0 : cn_e a b f = 0 := if_pos hle
      rw [s0, e0, Nat.zero_add] at hq
      exact br_t hle (nm_r (nI_1 k) (ih (k + 1) e f (by omega) hq))
    · have s1 : cn_s a b f = upd (upd f a (f b)) b (f a) := if_neg hle
      have e1 : cn_e a b f = 1 := if_neg hle
      rw [s1, e1, ← Nat.add_assoc] at hq
      exact br_f hle ⟨ib, ia, nm_e ⟨ib, nm_e (nm_r (nI_1 e) (nm_r (nI_1 k) (ih (k + 1) (e + 1) _ (by omega) hq)))⟩⟩
theorem cx_run_numbers {post : Int32 → SX → Prop} (h7 : n ≤ 7) (hc : c ≤ 24) (hv : cn_V n c lo hi) (k d t : Nat) (ht : k + d = t) (htc : t ≤ c) (f : Nat → Int32) (hp : post (nI (cn_exc lo hi d k f)) (nI n, fo, nI c, lo, hi, g, cn_run lo hi d k f, f2, f3)) : wpX_runThrough__numbers post (nI n, fo, nI c, lo, hi, g, f, f2, f3) (nI k) (nI t) := by
  subst ht
  exact ⟨d + 1, cx_rt_numbers h7 hc hv d k 0 f htc (by rw [Nat.zero_add]; exact hp)⟩
theorem cx_rt_otherNumbers {post : Int32 → SX → Prop} (h7 : n ≤ 7) (hc : c ≤ 24) (hv : cn_V n c lo hi) : ∀ (d k e : Nat) (f : Nat → Int32), k + d ≤ c → post (nI (e + cn_exc lo hi d k f)) (nI n, fo, nI c, lo, hi, g, f1, cn_run lo hi d k f, f3) → wX_runThrough__otherNumbers_6 post (nI (k + d)) (nI n) fo (nI c) (d + 1) (nI e) (nI k) lo hi g f1 f f3 := by
  intro d
  induction d with
  | zero => intro k e f hk hp; exact br_t (nI_le (by omega) (by omega)) hp
  | succ d ih =>
    intro k e f hk hp
    obtain ⟨a, b, ha, hb, ea, eb⟩ := hv k (by omega)
    have ca := cn_cl ha h7
    have cb := cn_cl hb h7
    have ck : (nI k).toNatClampNeg = k := nI_clamp (by omega)
    have ik : vp_in (nI k) 24 := vp_in_nI (by omega) (by omega)
    have ia : vp_in (nI a) 7 := vp_in_nI (by omega) (by omega)
    have ib : vp_in (nI b) 7 := vp_in_nI (by omega) (by omega)
    have hS : cn_S lo hi k f = cn_s a b f := by unfold cn_S; rw [ea, eb, ca, cb]
    have hE : cn_E lo hi k f = cn_e a b f := by unfold cn_E; rw [ea, eb, ca, cb]
    have hq : post (nI (e + (cn_E lo hi k f + cn_exc lo hi d (k + 1) (cn_S lo hi k f)))) (nI n, fo, nI c, lo, hi, g, f1, cn_run lo hi d (k + 1) (cn_S lo hi k f), f3) := hp
    rw [hS, hE] at hq
    rw [show k + (d + 1) = k + 1 + d by omega]
    refine br_f (nI_ge (by omega) (by omega)) ⟨ik, nm_r (e' := nI a) (by rw [ck]; exact ea) ⟨ik, nm_r (e' := nI b) (by rw [ck]; exact eb) ⟨ia, nm_r (e' := f a) (by rw [ca]) ⟨ib, ?_⟩⟩⟩⟩
    rw [ca, cb]
    by_cases hle : f a ≤ f b
    · have s0 : cn_s a b f = f := if_pos hle
      have e0 : cn_e a b f = 0 := if_pos hle
      rw [s0, e0, Nat.zero_add] at hq
      exact br_t hle (nm_r (nI_1 k) (ih (k + 1) e f (by omega) hq))
    · have s1 : cn_s a b f = upd (upd f a (f b)) b (f a) := if_neg hle
      have e1 : cn_e a b f = 1 := if_neg hle
      rw [s1, e1, ← Nat.add_assoc] at hq
      exact br_f hle ⟨ib, ia, nm_e ⟨ib, nm_e (nm_r (nI_1 e) (nm_r (nI_1 k) (ih (k + 1) (e + 1) _ (by omega) hq)))⟩⟩
theorem cx_run_otherNumbers {post : Int32 → SX → Prop} (h7 : n ≤ 7) (hc : c ≤ 24) (hv : cn_V n c lo hi) (k d t : Nat) (ht : k + d = t) (htc : t ≤ c) (f : Nat → Int32) (hp : post (nI (cn_exc lo hi d k f)) (nI n, fo, nI c, lo, hi, g, f1, cn_run lo hi d k f, f3)) : wpX_runThrough__otherNumbers post (nI n, fo, nI c, lo, hi, g, f1, f, f3) (nI k) (nI t) := by
  subst ht
  exact ⟨d + 1, cx_rt_otherNumbers h7 hc hv d k 0 f htc (by rw [Nat.zero_add]; exact hp)⟩
theorem cx_cp_inputs_numbers {post : SX → Prop} (h7 : n ≤ 7) : ∀ (d k : Nat) (f : Nat → Int32), k + d = n → (∀ j, j < k → f j = g j) → (∀ j, n ≤ j → f j = g j) → post (nI n, fo, fc, lo, hi, g, g, f2, f3) → wX_copyRow__inputs_numbers_2 post (nI n) fo fc (d + 1) (nI k) lo hi g f f2 f3 := by
  intro d
  induction d with
  | zero =>
    intro k f hk h1 h2 hp
    have e : f = g := by
      funext j
      by_cases hj : j < k
      · exact h1 j hj
      · exact h2 j (by omega)
    subst e
    exact br_t (nI_le (by omega) (by omega)) hp
  | succ d ih =>
    intro k f hk h1 h2 hp
    have ck : (nI k).toNatClampNeg = k := nI_clamp (by omega)
    have ik : vp_in (nI k) 7 := vp_in_nI (by omega) (by omega)
    refine br_f (nI_ge (by omega) (by omega)) ⟨ik, ik, nm_r (e' := upd f k (g k)) (by rw [ck]) (nm_r (nI_1 k) (ih (k + 1) _ (by omega) ?_ ?_ hp))⟩
    · intro j hj
      by_cases e : j = k
      · rw [e, pk_us]
      · rw [pk_un e]; exact h1 j (by omega)
    · intro j hj
      rw [pk_un (by omega)]; exact h2 j hj
theorem cx_copy_inputs_numbers {post : SX → Prop} (h7 : n ≤ 7) (f : Nat → Int32) (hz : cn_Z n g) (hf : cn_Z n f) (hp : post (nI n, fo, fc, lo, hi, g, g, f2, f3)) : wpX_copyRow__inputs_numbers post (nI n, fo, fc, lo, hi, g, f, f2, f3) :=
  ⟨n + 1, cx_cp_inputs_numbers h7 n 0 f (by omega) (fun j hj => absurd hj (by omega)) (fun j hj => by rw [hf j hj, hz j hj]) hp⟩
theorem cx_cp_numbers_otherNumbers {post : SX → Prop} (h7 : n ≤ 7) : ∀ (d k : Nat) (f : Nat → Int32), k + d = n → (∀ j, j < k → f j = f1 j) → (∀ j, n ≤ j → f j = f1 j) → post (nI n, fo, fc, lo, hi, g, f1, f1, f3) → wX_copyRow__numbers_otherNumbers_2 post (nI n) fo fc (d + 1) (nI k) lo hi g f1 f f3 := by
  intro d
  induction d with
  | zero =>
    intro k f hk h1 h2 hp
    have e : f = f1 := by
      funext j
      by_cases hj : j < k
      · exact h1 j hj
      · exact h2 j (by omega)
    subst e
    exact br_t (nI_le (by omega) (by omega)) hp
  | succ d ih =>
    intro k f hk h1 h2 hp
    have ck : (nI k).toNatClampNeg = k := nI_clamp (by omega)
    have ik : vp_in (nI k) 7 := vp_in_nI (by omega) (by omega)
    refine br_f (nI_ge (by omega) (by omega)) ⟨ik, ik, nm_r (e' := upd f k (f1 k)) (by rw [ck]) (nm_r (nI_1 k) (ih (k + 1) _ (by omega) ?_ ?_ hp))⟩
    · intro j hj
      by_cases e : j = k
      · rw [e, pk_us]
      · rw [pk_un e]; exact h1 j (by omega)
    · intro j hj
      rw [pk_un (by omega)]; exact h2 j hj
theorem cx_copy_numbers_otherNumbers {post : SX → Prop} (h7 : n ≤ 7) (f : Nat → Int32) (hz : cn_Z n f1) (hf : cn_Z n f) (hp : post (nI n, fo, fc, lo, hi, g, f1, f1, f3)) : wpX_copyRow__numbers_otherNumbers post (nI n, fo, fc, lo, hi, g, f1, f, f3) :=
  ⟨n + 1, cx_cp_numbers_otherNumbers h7 n 0 f (by omega) (fun j hj => absurd hj (by omega)) (fun j hj => by rw [hf j hj, hz j hj]) hp⟩
theorem cx_po {post : SX → Prop} (h7 : n ≤ 7) : ∀ (d r : Nat) (l : List Nat) (f : Nat → Int32), l.length + d = n → r < 2 ^ 31 → (∀ j, j < l.length → f j = cn_ar l j) → cn_Z n f → post (nI n, fo, fc, lo, hi, g, cn_ar (cn_xo d (l.length + 1) r l), f2, f3) → wX_putOrder_4 post (nI n) fo fc (d + 1) (nI r) (nI (l.length + 1)) lo hi g f f2 f3 := by
  intro d
  induction d with
  | zero =>
    intro r l f hl hr h1 h2 hp
    have e : f = cn_ar l := by
      funext j
      by_cases hj : j < l.length
      · exact h1 j hj
      · rw [h2 j (by omega), cn_arZ (n := n) (by omega) j (by omega)]
    subst e
    exact br_t (nI_lt (by omega) (by omega)) hp
  | succ d ih =>
    intro r l f hl hr h1 h2 hp
    have hm : r % (l.length + 1) < l.length + 1 := Nat.mod_lt _ (by omega)
    have hp' : post (nI n, fo, fc, lo, hi, g, cn_ar (cn_xo d (l.length + 1 + 1) (r / (l.length + 1)) ((l ++ [l.getD (r % (l.length + 1)) 0]).set (r % (l.length + 1)) (l.length + 1))), f2, f3) := hp
    generalize hpl : r % (l.length + 1) = pl at hm hp'
    have hlen : ((l ++ [l.getD pl 0]).set pl (l.length + 1)).length = l.length + 1 := by simp
    have hle : pl < (l ++ [l.getD pl 0]).length := by simp; omega
    have cp : (nI pl).toNatClampNeg = pl := nI_clamp (by omega)
    have cl : (nI l.length).toNatClampNeg = l.length := nI_clamp (by omega)
    have ip : vp_in (nI pl) 7 := vp_in_nI (by omega) (by omega)
    have il : vp_in (nI (l.length + 1) - 1) 7 := by rw [nI_pred]; exact vp_in_nI (by omega) (by omega)
    have n0 : ¬ nI (l.length + 1) = 0 := nI_ne0 (by omega) (by omega)
    refine br_f (nI_nlt (by omega) (by omega)) ⟨n0, nm_r (e' := nI pl) (by rw [pk_rem hr (by omega) (by omega), hpl]) ⟨n0, nm_r (e' := nI (r / (l.length + 1))) (pk_div hr (by omega) (by omega)) ⟨ip, il, nm_r (e' := upd f l.length (f pl)) (by rw [nI_pred, cl, cp]) ⟨ip, nm_r (e' := upd (upd f l.length (f pl)) pl (nI (l.length + 1))) (by rw [cp]) (nm_r (nI_1 (l.length + 1)) ?_)⟩⟩⟩⟩
    have key := ih (r / (l.length + 1)) ((l ++ [l.getD pl 0]).set pl (l.length + 1)) (upd (upd f l.length (f pl)) pl (nI (l.length + 1)))
    rw [hlen] at key
    refine key (by omega) (Nat.lt_of_le_of_lt (Nat.div_le_self _ _) hr) ?_ (cn_updZ (cn_updZ h2 (by omega)) (by omega)) hp'
    intro j hj
    rw [cn_arset hle]
    by_cases e : j = pl
    · rw [e, pk_us, pk_us]
    · rw [pk_un e, pk_un e]
      show _ = nI ((l ++ [l.getD pl 0]).getD j 0)
      rw [cn_getapp]
      by_cases e2 : j = l.length
      · rw [if_pos e2, e2, pk_us]
        exact h1 pl (by omega)
      · rw [if_neg e2, pk_un e2]
        exact h1 j (by omega)
theorem cx_putOrder {post : SX → Prop} (h7 : n ≤ 7) {p : Nat} (hp31 : p < 2 ^ 31) (hf : cn_Z n f1) (hp : post (nI n, fo, fc, lo, hi, g, cn_ar (cn_X n p), f2, f3)) : wpX_putOrder post (nI n, fo, fc, lo, hi, g, f1, f2, f3) (nI p) :=
  ⟨n + 1, cx_po h7 n p [] f1 (by simp) hp31 (fun j hj => absurd hj (by simp)) hf hp⟩
theorem cx_runOrder {post : SX → Prop} (h7 : n ≤ 7) (hc : c ≤ 24) (hv : cn_V n c lo hi) {p : Nat} (hp31 : p < 2 ^ 31) (hf : cn_Z n f1) (hp : post (nI n, fo, nI c, lo, hi, g, cn_run lo hi c 0 (cn_ar (cn_X n p)), f2, f3)) : wpX_runOrder post (nI n, fo, nI c, lo, hi, g, f1, f2, f3) (nI p) := by
  unfold wpX_runOrder
  dsimp only
  refine cx_putOrder h7 hp31 hf ?_
  dsimp only
  exact cx_run_numbers h7 hc hv 0 c c (by omega) (by omega) _ hp
theorem cx_srt {post : Int32 → Prop} (h7 : n ≤ 7) : ∀ (d k : Nat), k + d = n → post (if cn_srt d k f1 = true then 1 else 0) → wX_isSortedRow__numbers_2 post (nI n) fo fc lo hi g f1 f2 f3 (d + 1) (nI k) := by
  intro d
  induction d with
  | zero => intro k hk hp; exact br_t (nI_le (by omega) (by omega)) hp
  | succ d ih =>
    intro k hk hp
    have ck : (nI k).toNatClampNeg = k := nI_clamp (by omega)
    have ik : vp_in (nI k) 7 := vp_in_nI (by omega) (by omega)
    rw [cn_srt] at hp
    refine br_f (nI_ge (by omega) (by omega)) ⟨ik, ?_⟩
    by_cases h : f1 k = nI (k + 1)
    · rw [if_pos h] at hp
      exact br_t (by rw [ck, nI_1]; exact h) (nm_r (nI_1 k) (ih (k + 1) (by omega) hp))
    · rw [if_neg h] at hp
      exact br_f (by rw [ck, nI_1]; exact h) hp
theorem cx_isSorted {post : Int32 → Prop} (h7 : n ≤ 7) (hp : post (if cn_srt n 0 f1 = true then 1 else 0)) : wpX_isSortedRow__numbers post (nI n, fo, fc, lo, hi, g, f1, f2, f3) := ⟨n + 1, cx_srt h7 n 0 (by omega) hp⟩
theorem cx_sm {post : Int32 → Prop} (h7 : n ≤ 7) : ∀ (d k : Nat), k + d = n → post (if cn_same d k f1 f2 = true then 1 else 0) → wX_isSameRow__numbers_otherNumbers_2 post (nI n) fo fc lo hi g f1 f2 f3 (d + 1) (nI k) := by
  intro d
  induction d with
  | zero => intro k hk hp; exact br_t (nI_le (by omega) (by omega)) hp
  | succ d ih =>
    intro k hk hp
    have ck : (nI k).toNatClampNeg = k := nI_clamp (by omega)
    have ik : vp_in (nI k) 7 := vp_in_nI (by omega) (by omega)
    rw [cn_same] at hp
    refine br_f (nI_ge (by omega) (by omega)) ⟨ik, ik, ?_⟩
    by_cases h : f1 k = f2 k
    · rw [if_pos h] at hp
      exact br_t (by rw [ck]; exact h) (nm_r (nI_1 k) (ih (k + 1) (by omega) hp))
    · rw [if_neg h] at hp
      exact br_f (by rw [ck]; exact h) hp
theorem cx_isSame {post : Int32 → Prop} (h7 : n ≤ 7) (hp : post (if cn_same n 0 f1 f2 = true then 1 else 0)) : wpX_isSameRow__numbers_otherNumbers post (nI n, fo, fc, lo, hi, g, f1, f2, f3) := ⟨n + 1, cx_sm h7 n 0 (by omega) hp⟩
end
end
section
/-- what each question asks of one order's row of numbers behind the net -/
def cn_qs (n c : Nat) (lo hi : Nat → Int32) (l : List Nat) : Bool := cn_srt n 0 (cn_run lo hi c 0 (cn_ar l))
def cn_qr (c : Nat) (lo hi : Nat → Int32) (w : Nat) (r : Int32) (l : List Nat) : Bool := decide (cn_run lo hi c 0 (cn_ar l) w = r)
def cn_qb (c : Nat) (lo hi : Nat → Int32) (v w : Nat) (l : List Nat) : Bool := decide (¬ cn_run lo hi c 0 (cn_ar l) w ≤ cn_run lo hi c 0 (cn_ar l) v)
def cn_qw (lo hi : Nat → Int32) (k : Nat) (l : List Nat) : Bool := decide (cn_E lo hi k (cn_run lo hi k 0 (cn_ar l)) = 1)
def cn_qi (n c : Nat) (lo hi : Nat → Int32) (k : Nat) (l : List Nat) : Bool := cn_same n 0 (cn_run lo hi c 0 (cn_ar l)) (cn_run lo hi (c - (k + 1)) (k + 1) (cn_run lo hi k 0 (cn_ar l)))
section
variable {n c : Nat} {lo hi g f1 f2 f3 : Nat → Int32}
theorem cx_sorted4 {post : Int32 → SX → Prop} (h7 : n ≤ 7) (hc : c ≤ 24) (hv : cn_V n c lo hi) : ∀ (d p e : Nat) (f : Nat → Int32), p + d = cn_fac n → cn_Z n f → (∀ f', cn_Z n f' → post (nI (e + (List.range' p d).countP (fun i => cn_qs n c lo hi (cn_X n i)))) (nI n, nI (cn_fac n), nI c, lo, hi, g, f', f2, f3)) → wX_sorted_4 post (d + 1) (nI e) (nI p) (nI n) (nI (cn_fac n)) (nI c) lo hi g f f2 f3 := by
  have hN := cn_facLe h7
  intro d
  induction d with
  | zero => intro p e f hk hf hp; exact br_t (nI_le (by omega) (by omega)) (hp f hf)
  | succ d ih =>
    intro p e f hk hf hp
    have hz : cn_Z n (cn_run lo hi c 0 (cn_ar (cn_X n p))) := cn_runZ h7 hv c 0 _ (by omega) (cn_XZ h7 p)
    refine br_f (nI_ge (by omega) (by omega)) (cx_runOrder h7 hc hv (by omega) hf ?_)
    dsimp only
    refine cx_isSorted h7 ?_
    simp only [cn_cnt] at hp
    by_cases h : cn_qs n c lo hi (cn_X n p) = true
    · simp only [if_pos h, ← Nat.add_assoc] at hp
      rw [if_pos (show cn_srt n 0 (cn_run lo hi c 0 (cn_ar (cn_X n p))) = true from h)]
      exact br_f (by decide) (nm_r (nI_1 e) (nm_r (nI_1 p) (ih (p + 1) (e + 1) _ (by omega) hz hp)))
    · simp only [if_neg h, Nat.zero_add] at hp
      rw [if_neg (show ¬ cn_srt n 0 (cn_run lo hi c 0 (cn_ar (cn_X n p))) = true from h)]
      exact br_t rfl (nm_r (nI_1 p) (ih (p + 1) e _ (by omega) hz hp))
theorem cx_sorted {post : Int32 → SX → Prop} (h7 : n ≤ 7) (hc : c ≤ 24) (hv : cn_V n c lo hi) (hf : cn_Z n f1) (hp : ∀ f', cn_Z n f' → post (nI ((List.range' 0 (cn_fac n)).countP (fun i => cn_qs n c lo hi (cn_X n i)))) (nI n, nI (cn_fac n), nI c, lo, hi, g, f', f2, f3)) : wpX_sorted post (nI n, nI (cn_fac n), nI c, lo, hi, g, f1, f2, f3) :=
  ⟨cn_fac n + 1, cx_sorted4 h7 hc hv (cn_fac n) 0 0 f1 (by omega) hf (by simpa only [Nat.zero_add] using hp)⟩
theorem cx_ranks28 {post : Int32 → SX → Prop} (h7 : n ≤ 7) (hc : c ≤ 24) (hv : cn_V n c lo hi) {w : Nat} (hw : w < n) (r : Int32) : ∀ (d p e : Nat) (f : Nat → Int32), p + d = cn_fac n → cn_Z n f → (∀ f', cn_Z n f' → post (nI (e + (List.range' p d).countP (fun i => cn_qr c lo hi w r (cn_X n i)))) (nI n, nI (cn_fac n), nI c, lo, hi, g, f', f2, f3)) → wX_ranks_28 post (nI w) r (d + 1) (nI e) (nI p) (nI n) (nI (cn_fac n)) (nI c) lo hi g f f2 f3 := by
  have hN := cn_facLe h7
  have cw := cn_cl hw h7
  intro d
  induction d with
  | zero => intro p e f hk hf hp; exact br_t (nI_le (by omega) (by omega)) (hp f hf)
  | succ d ih =>
    intro p e f hk hf hp
    have hz : cn_Z n (cn_run lo hi c 0 (cn_ar (cn_X n p))) := cn_runZ h7 hv c 0 _ (by omega) (cn_XZ h7 p)
    refine br_f (nI_ge (by omega) (by omega)) (cx_runOrder h7 hc hv (by omega) hf ?_)
    dsimp only
    refine ⟨vp_in_nI (by omega) (by omega), ?_⟩
    simp only [cn_cnt] at hp
    by_cases h : cn_run lo hi c 0 (cn_ar (cn_X n p)) w = r
    · have q : cn_qr c lo hi w r (cn_X n p) = true := decide_eq_true h
      simp only [if_pos q, ← Nat.add_assoc] at hp
      exact br_t (by rw [cw]; exact h) (nm_r (nI_1 e) (nm_r (nI_1 p) (ih (p + 1) (e + 1) _ (by omega) hz hp)))
    · have q : ¬ cn_qr c lo hi w r (cn_X n p) = true := by rw [cn_qr, decide_eq_false h]; decide
      simp only [if_neg q, Nat.zero_add] at hp
      exact br_f (by rw [cw]; exact h) (nm_r (nI_1 p) (ih (p + 1) e _ (by omega) hz hp))
theorem cx_below23 {post : Int32 → SX → Prop} (h7 : n ≤ 7) (hc : c ≤ 24) (hv : cn_V n c lo hi) {v w : Nat} (hvn : v < n) (hw : w < n) : ∀ (d p e : Nat) (f : Nat → Int32), p + d = cn_fac n → cn_Z n f → (∀ f', cn_Z n f' → post (nI (e + (List.range' p d).countP (fun i => cn_qb c lo hi v w (cn_X n i)))) (nI n, nI (cn_fac n), nI c, lo, hi, g, f', f2, f3)) → wX_below_23 post (nI v) (nI w) (d + 1) (nI e) (nI p) (nI n) (nI (cn_fac n)) (nI c) lo hi g f f2 f3 := by
  have hN := cn_facLe h7
  have cw := cn_cl hw h7
  have cv := cn_cl hvn h7
  intro d
  induction d with
  | zero => intro p e f hk hf hp; exact br_t (nI_le (by omega) (by omega)) (hp f hf)
  | succ d ih =>
    intro p e f hk hf hp
    have hz : cn_Z n (cn_run lo hi c 0 (cn_ar (cn_X n p))) := cn_runZ h7 hv c 0 _ (by omega) (cn_XZ h7 p)
    refine br_f (nI_ge (by omega) (by omega)) (cx_runOrder h7 hc hv (by omega) hf ?_)
    dsimp only
    refine ⟨vp_in_nI (by omega) (by omega), vp_in_nI (by omega) (by omega), ?_⟩
    simp only [cn_cnt] at hp
    by_cases h : cn_run lo hi c 0 (cn_ar (cn_X n p)) w ≤ cn_run lo hi c 0 (cn_ar (cn_X n p)) v
    · have q : ¬ cn_qb c lo hi v w (cn_X n p) = true := by rw [cn_qb, decide_eq_false (not_not_intro h)]; decide
      simp only [if_neg q, Nat.zero_add] at hp
      exact br_t (by rw [cw, cv]; exact h) (nm_r (nI_1 p) (ih (p + 1) e _ (by omega) hz hp))
    · have q : cn_qb c lo hi v w (cn_X n p) = true := decide_eq_true h
      simp only [if_pos q, ← Nat.add_assoc] at hp
      exact br_f (by rw [cw, cv]; exact h) (nm_r (nI_1 e) (nm_r (nI_1 p) (ih (p + 1) (e + 1) _ (by omega) hz hp)))
theorem cx_works15 {post : Int32 → SX → Prop} (h7 : n ≤ 7) (hc : c ≤ 24) (hv : cn_V n c lo hi) {k : Nat} (hk : k < c) : ∀ (d p e : Nat) (f : Nat → Int32), p + d = cn_fac n → cn_Z n f → (∀ f', cn_Z n f' → post (nI (e + (List.range' p d).countP (fun i => cn_qw lo hi k (cn_X n i)))) (nI n, nI (cn_fac n), nI c, lo, hi, g, f', f2, f3)) → wX_works_15 post (nI k) (d + 1) (nI e) (nI p) (nI n) (nI (cn_fac n)) (nI c) lo hi g f f2 f3 := by
  have hN := cn_facLe h7
  intro d
  induction d with
  | zero => intro p e f hk hf hp; exact br_t (nI_le (by omega) (by omega)) (hp f hf)
  | succ d ih =>
    intro p e f hpd hf hp
    have hz := cn_runZ h7 hv k 0 _ (by omega) (cn_XZ h7 p)
    have hz2 := cn_runZ h7 hv 1 k _ (by omega) hz
    refine br_f (nI_ge (by omega) (by omega)) (cx_putOrder h7 (by omega) hf ?_)
    dsimp only
    refine cx_run_numbers h7 hc hv 0 k k (by omega) (by omega) _ ?_
    dsimp only
    rw [nI_1 k]
    refine cx_run_numbers h7 hc hv k 1 (k + 1) (by omega) (by omega) _ ?_
    dsimp only
    simp only [cn_cnt] at hp
    have ex : cn_exc lo hi 1 k (cn_run lo hi k 0 (cn_ar (cn_X n p))) = cn_E lo hi k (cn_run lo hi k 0 (cn_ar (cn_X n p))) := rfl
    rw [ex]
    rcases cn_E01 lo hi k (cn_run lo hi k 0 (cn_ar (cn_X n p))) with h | h
    · have q : ¬ cn_qw lo hi k (cn_X n p) = true := by rw [cn_qw, h]; decide
      simp only [if_neg q, Nat.zero_add] at hp
      rw [h]
      exact nm_r (nI_add e 0) (nm_r (nI_1 p) (ih (p + 1) e _ (by omega) hz2 hp))
    · have q : cn_qw lo hi k (cn_X n p) = true := by rw [cn_qw, h]; decide
      simp only [if_pos q, ← Nat.add_assoc] at hp
      rw [h]
      exact nm_r (nI_add e 1) (nm_r (nI_1 p) (ih (p + 1) (e + 1) _ (by omega) hz2 hp))
theorem cx_cbt2 {post : Int32 → SX → Prop} (h7 : n ≤ 7) (hc : c ≤ 24) (hv : cn_V n c lo hi) {k : Nat} (hk : k < c) : ∀ (d p : Nat) (f f' : Nat → Int32), p + d = cn_fac n → cn_Z n f → cn_Z n f' → (∀ f f', cn_Z n f → cn_Z n f' → post (if (List.range' p d).all (fun i => cn_qi n c lo hi k (cn_X n i)) = true then 1 else 0) (nI n, nI (cn_fac n), nI c, lo, hi, g, f, f', f3)) → wX_canBeTakenOut_2 post (nI k) (d + 1) (nI p) (nI n) (nI (cn_fac n)) (nI c) lo hi g f f' f3 := by
  have hN := cn_facLe h7
  intro d
  induction d with
  | zero => intro p f f' hk hf hf' hp; exact br_t (nI_le (by omega) (by omega)) (hp f f' hf hf')
  | succ d ih =>
    intro p f f' hpd hf hf' hp
    have hz := cn_runZ h7 hv k 0 _ (by omega) (cn_XZ h7 p)
    have hz2 := cn_runZ h7 hv (c - k) k _ (by omega) hz
    have hz3 := cn_runZ h7 hv (c - (k + 1)) (k + 1) _ (by omega) hz
    have hj : cn_run lo hi (c - k) k (cn_run lo hi k 0 (cn_ar (cn_X n p))) = cn_run lo hi c 0 (cn_ar (cn_X n p)) := by
      have := cn_run_add lo hi k (c - k) 0 (cn_ar (cn_X n p))
      rw [Nat.zero_add, show k + (c - k) = c by omega] at this
      exact this.symm
    refine br_f (nI_ge (by omega) (by omega)) (cx_putOrder h7 (by omega) hf ?_)
    dsimp only
    refine cx_run_numbers h7 hc hv 0 k k (by omega) (by omega) _ ?_
    dsimp only
    refine cx_copy_numbers_otherNumbers h7 _ hz hf' ?_
    dsimp only
    refine cx_run_numbers h7 hc hv k (c - k) c (by omega) (by omega) _ ?_
    dsimp only
    rw [nI_1 k]
    refine cx_run_otherNumbers h7 hc hv (k + 1) (c - (k + 1)) c (by omega) (by omega) _ ?_
    dsimp only
    refine cx_isSame h7 ?_
    rw [hj] at hz2 ⊢
    simp only [List.range'_succ, List.all_cons] at hp
    by_cases h : cn_qi n c lo hi k (cn_X n p) = true
    · simp only [h, Bool.true_and] at hp
      rw [if_pos (show cn_same n 0 (cn_run lo hi c 0 (cn_ar (cn_X n p))) (cn_run lo hi (c - (k + 1)) (k + 1) (cn_run lo hi k 0 (cn_ar (cn_X n p)))) = true from h)]
      exact br_f (by decide) (nm_r (nI_1 p) (ih (p + 1) _ _ (by omega) hz2 hz3 hp))
    · rw [if_neg (show ¬ cn_same n 0 (cn_run lo hi c 0 (cn_ar (cn_X n p))) (cn_run lo hi (c - (k + 1)) (k + 1) (cn_run lo hi k 0 (cn_ar (cn_X n p)))) = true from h)]
      rw [Bool.not_eq_true] at h
      simp only [h, Bool.false_and] at hp
      exact br_t rfl (hp _ _ hz2 hz3)
theorem cx_cbt {post : Int32 → SX → Prop} (h7 : n ≤ 7) (hc : c ≤ 24) (hv : cn_V n c lo hi) {k : Nat} (hk : k < c) (hf : cn_Z n f1) (hf2 : cn_Z n f2) (hp : ∀ f f', cn_Z n f → cn_Z n f' → post (if (List.range' 0 (cn_fac n)).all (fun i => cn_qi n c lo hi k (cn_X n i)) = true then 1 else 0) (nI n, nI (cn_fac n), nI c, lo, hi, g, f, f', f3)) : wpX_canBeTakenOut post (nI n, nI (cn_fac n), nI c, lo, hi, g, f1, f2, f3) (nI k) :=
  ⟨cn_fac n + 1, cx_cbt2 h7 hc hv hk (cn_fac n) 0 f1 f2 (by omega) hf hf2 hp⟩
theorem cx_idle4 {post : Int32 → SX → Prop} (h7 : n ≤ 7) (hc : c ≤ 24) (hv : cn_V n c lo hi) : ∀ (d k e : Nat) (f f' : Nat → Int32), k + d = c → cn_Z n f → cn_Z n f' → (∀ f f', cn_Z n f → cn_Z n f' → post (nI (e + (List.range' k d).countP (fun k => (List.range' 0 (cn_fac n)).all (fun i => cn_qi n c lo hi k (cn_X n i))))) (nI n, nI (cn_fac n), nI c, lo, hi, g, f, f', f3)) → wX_idle_4 post (d + 1) (nI e) (nI k) (nI n) (nI (cn_fac n)) (nI c) lo hi g f f' f3 := by
  intro d
  induction d with
  | zero => intro k e f f' hk hf hf' hp; exact br_t (nI_le (by omega) (by omega)) (hp f f' hf hf')
  | succ d ih =>
    intro k e f f' hk hf hf' hp
    refine br_f (nI_ge (by omega) (by omega)) (cx_cbt h7 hc hv (by omega) hf hf' ?_)
    intro h1 h2 z1 z2
    dsimp only
    simp only [cn_cnt] at hp
    by_cases h : (List.range' 0 (cn_fac n)).all (fun i => cn_qi n c lo hi k (cn_X n i)) = true
    · simp only [if_pos h, ← Nat.add_assoc] at hp
      rw [if_pos h]
      exact br_f (by decide) (nm_r (nI_1 e) (nm_r (nI_1 k) (ih (k + 1) (e + 1) _ _ (by omega) z1 z2 hp)))
    · simp only [if_neg h, Nat.zero_add] at hp
      rw [if_neg h]
      exact br_t rfl (nm_r (nI_1 k) (ih (k + 1) e _ _ (by omega) z1 z2 hp))
end
end
section
def cn_tn (n : Nat) : Nat → Nat → (Nat → Int32) → (Nat → Int32) → (Nat → Int32) × (Nat → Int32)
  | 0, _, lo, hi => (lo, hi)
  | d + 1, k, lo, hi => cn_tn n d (k + 1) (upd lo k (nI n - 1 - hi k)) (upd hi k (nI n - 1 - lo k))
def cn_dp : Nat → Nat → (Nat → Int32) → (Nat → Int32) → (Nat → Int32) × (Nat → Int32)
  | 0, _, lo, hi => (lo, hi)
  | d + 1, k, lo, hi => cn_dp d (k + 1) (upd lo k (lo (k + 1))) (upd hi k (hi (k + 1)))
def cn_mx (a b : Int32) : Int32 := if a ≤ b then b else a
def cn_rd (lo hi : Nat → Int32) : Nat → Nat → (Nat → Int32) → Int32 → Int32
  | 0, _, _, m => m
  | d + 1, k, f, m => cn_rd lo hi d (k + 1) (upd (upd f (lo k).toNatClampNeg (1 + cn_mx (f (lo k).toNatClampNeg) (f (hi k).toNatClampNeg))) (hi k).toNatClampNeg (1 + cn_mx (f (lo k).toNatClampNeg) (f (hi k).toNatClampNeg))) (cn_mx m (1 + cn_mx (f (lo k).toNatClampNeg) (f (hi k).toNatClampNeg)))
theorem cn_Vput {n c k a b : Nat} {lo hi : Nat → Int32} (hv : cn_V n c lo hi) (ha : a < n) (hb : b < n) : cn_V n c (upd lo k (nI a)) (upd hi k (nI b)) := by
  intro j hj
  by_cases e : j = k
  · exact ⟨a, b, ha, hb, by rw [e, pk_us], by rw [e, pk_us]⟩
  · obtain ⟨a', b', h1, h2, h3, h4⟩ := hv j hj
    exact ⟨a', b', h1, h2, by rw [pk_un e, h3], by rw [pk_un e, h4]⟩
theorem cn_turn1 {n b : Nat} (hb : b < n) : nI n - 1 - nI b = nI (n - 1 - b) := by
  obtain ⟨m, rfl⟩ : ∃ m, n = m + 1 := ⟨n - 1, by omega⟩
  rw [nI_pred, pk_sub (by omega)]
  rfl
theorem cn_tnV {n c : Nat} : ∀ (d k : Nat) (lo hi : Nat → Int32), k + d ≤ c → cn_V n c lo hi → cn_V n c (cn_tn n d k lo hi).1 (cn_tn n d k lo hi).2 := by
  intro d
  induction d with
  | zero => intro k lo hi _ h; exact h
  | succ d ih =>
    intro k lo hi hk h
    obtain ⟨a, b, ha, hb, ea, eb⟩ := h k (by omega)
    refine ih (k + 1) _ _ (by omega) ?_
    rw [ea, eb, cn_turn1 ha, cn_turn1 hb]
    exact cn_Vput h (by omega) (by omega)
theorem cn_dpV {n c : Nat} : ∀ (d k : Nat) (lo hi : Nat → Int32), k + d < c → cn_V n c lo hi → cn_V n c (cn_dp d k lo hi).1 (cn_dp d k lo hi).2 := by
  intro d
  induction d with
  | zero => intro k lo hi _ h; exact h
  | succ d ih =>
    intro k lo hi hk h
    obtain ⟨a, b, ha, hb, ea, eb⟩ := h (k + 1) (by omega)
    refine ih (k + 1) _ _ (by omega) ?_
    rw [ea, eb]
    exact cn_Vput h ha hb
section
variable {n c : Nat} {fo fc : Int32} {lo hi g f1 f2 f3 : Nat → Int32}
theorem cx_fac4 {post : Int32 → Prop} (h7 : n ≤ 7) (hp : post (nI (cn_fac n))) : ∀ (d q : Nat), q + d = n → wX_factorial_4 post (nI n) (d + 1) (nI (cn_fac q)) (nI (q + 1)) := by
  intro d
  induction d with
  | zero =>
    intro q hq
    have e : q = n := by omega
    subst e
    exact br_t (nI_lt (by omega) (by omega)) hp
  | succ d ih =>
    intro q hq
    refine br_f (nI_nlt (by omega) (by omega)) (nm_r (e' := nI (cn_fac (q + 1))) ?_ (nm_r (nI_1 (q + 1)) (ih (q + 1) (by omega))))
    rw [pk_mul, Nat.mul_comm]
    rfl
theorem cx_factorial {post : Int32 → Prop} (h2 : 2 ≤ n) (h7 : n ≤ 7) (hp : post (nI (cn_fac n))) : wpX_factorial post (nI n) := ⟨(n - 1) + 1, cx_fac4 h7 hp (n - 1) 1 (by omega)⟩
theorem cx_turn2 {post : Int32 → SX → Prop} (hc : c ≤ 24) : ∀ (d k : Nat) (lo hi : Nat → Int32), k + d = c → post (nI c) (nI n, fo, nI c, (cn_tn n d k lo hi).1, (cn_tn n d k lo hi).2, g, f1, f2, f3) → wX_turn_2 post (nI n) fo (nI c) (d + 1) (nI k) lo hi g f1 f2 f3 := by
  intro d
  induction d with
  | zero => intro k lo hi hk hp; exact br_t (nI_le (by omega) (by omega)) hp
  | succ d ih =>
    intro k lo hi hk hp
    have ck : (nI k).toNatClampNeg = k := nI_clamp (by omega)
    have ik : vp_in (nI k) 24 := vp_in_nI (by omega) (by omega)
    exact br_f (nI_ge (by omega) (by omega)) ⟨ik, nm_r (e' := lo k) (by rw [ck]) ⟨ik, ik, nm_r (e' := upd lo k (nI n - 1 - hi k)) (by rw [ck]) ⟨ik, nm_r (e' := upd hi k (nI n - 1 - lo k)) (by rw [ck]) (nm_r (nI_1 k) (ih (k + 1) _ _ (by omega) hp))⟩⟩⟩
theorem cx_drop13 {post : Int32 → SX → Prop} (hc : c + 1 ≤ 24) : ∀ (d k : Nat) (lo hi : Nat → Int32), k + d = c → post (nI c) (nI n, fo, nI c, (cn_dp d k lo hi).1, (cn_dp d k lo hi).2, g, f1, f2, f3) → wX_drop_13 post (nI n) fo (nI (c + 1)) (d + 1) (nI k) lo hi g f1 f2 f3 := by
  intro d
  induction d with
  | zero => intro k lo hi hk hp; exact br_t (by rw [nI_pred]; exact nI_le (by omega) (by omega)) (nm_r (nI_pred c) hp)
  | succ d ih =>
    intro k lo hi hk hp
    have ck : (nI k).toNatClampNeg = k := nI_clamp (by omega)
    have ck1 : (nI k + 1).toNatClampNeg = k + 1 := by rw [nI_1]; exact nI_clamp (by omega)
    have ik : vp_in (nI k) 24 := vp_in_nI (by omega) (by omega)
    have ik1 : vp_in (nI k + 1) 24 := by rw [nI_1]; exact vp_in_nI (by omega) (by omega)
    exact br_f (by rw [nI_pred]; exact nI_ge (by omega) (by omega)) ⟨ik1, ik, nm_r (e' := upd lo k (lo (k + 1))) (by rw [ck, ck1]) ⟨ik1, ik, nm_r (e' := upd hi k (hi (k + 1))) (by rw [ck, ck1]) (nm_r (nI_1 k) (ih (k + 1) _ _ (by omega) hp))⟩⟩
theorem cx_greater {post : Int32 → Prop} {p q : Int32} (hp : post (cn_mx p q)) : wpX_greater post p q := by
  unfold cn_mx at hp
  by_cases h : p ≤ q
  · rw [if_pos h] at hp; exact br_t h hp
  · rw [if_neg h] at hp; exact br_f h hp
theorem cx_rounds27 {post : Int32 → SX → Prop} (h7 : n ≤ 7) (hc : c ≤ 24) (hv : cn_V n c lo hi) : ∀ (d k : Nat) (f : Nat → Int32) (m : Int32), k + d = c → cn_Z n f → (∀ f', cn_Z n f' → post (cn_rd lo hi d k f m) (nI n, fo, nI c, lo, hi, g, f1, f2, f')) → wX_rounds_27 post (nI n) fo (nI c) (d + 1) m (nI k) lo hi g f1 f2 f := by
  intro d
  induction d with
  | zero => intro k f m hk hf hp; exact br_t (nI_le (by omega) (by omega)) (hp f hf)
  | succ d ih =>
    intro k f m hk hf hp
    obtain ⟨a, b, ha, hb, ea, eb⟩ := hv k (by omega)
    have ca := cn_cl ha h7
    have cb := cn_cl hb h7
    have ck : (nI k).toNatClampNeg = k := nI_clamp (by omega)
    have ik : vp_in (nI k) 24 := vp_in_nI (by omega) (by omega)
    have ia : vp_in (nI a) 7 := vp_in_nI (by omega) (by omega)
    have ib : vp_in (nI b) 7 := vp_in_nI (by omega) (by omega)
    have hq : ∀ f', cn_Z n f' → post (cn_rd lo hi d (k + 1) (upd (upd f (lo k).toNatClampNeg (1 + cn_mx (f (lo k).toNatClampNeg) (f (hi k).toNatClampNeg))) (hi k).toNatClampNeg (1 + cn_mx (f (lo k).toNatClampNeg) (f (hi k).toNatClampNeg))) (cn_mx m (1 + cn_mx (f (lo k).toNatClampNeg) (f (hi k).toNatClampNeg)))) (nI n, fo, nI c, lo, hi, g, f1, f2, f') := hp
    rw [ea, eb, ca, cb] at hq
    refine br_f (nI_ge (by omega) (by omega)) ⟨ik, nm_r (e' := nI a) (by rw [ck]; exact ea) ⟨ik, nm_r (e' := nI b) (by rw [ck]; exact eb) ⟨ia, ib, ?_⟩⟩⟩
    rw [ca, cb]
    refine cx_greater (nm_e ⟨ia, nm_e ⟨ib, nm_e (cx_greater (nm_r (nI_1 k) ?_))⟩⟩)
    exact ih (k + 1) _ _ (by omega) (cn_updZ (cn_updZ hf ha) hb) hq
theorem cx_rounds2 {post : Int32 → SX → Prop} (h7 : n ≤ 7) (hc : c ≤ 24) (hv : cn_V n c lo hi) (hp : ∀ f', cn_Z n f' → post (cn_rd lo hi c 0 (fun _ => 0) 0) (nI n, fo, nI c, lo, hi, g, f1, f2, f')) : ∀ (d k : Nat) (f : Nat → Int32), k + d = n → (∀ j, j < k → f j = 0) → cn_Z n f → wX_rounds_2 post (nI n) fo (nI c) (d + 1) (nI k) lo hi g f1 f2 f := by
  intro d
  induction d with
  | zero =>
    intro k f hk h1 h2
    have e : f = (fun _ => 0) := by
      funext j
      by_cases hj : j < k
      · exact h1 j hj
      · exact h2 j (by omega)
    subst e
    exact br_t (nI_le (by omega) (by omega)) ⟨c + 1, cx_rounds27 h7 hc hv c 0 _ 0 (by omega) h2 hp⟩
  | succ d ih =>
    intro k f hk h1 h2
    have ck : (nI k).toNatClampNeg = k := nI_clamp (by omega)
    have ik : vp_in (nI k) 7 := vp_in_nI (by omega) (by omega)
    refine br_f (nI_ge (by omega) (by omega)) ⟨ik, nm_r (e' := upd f k 0) (by rw [ck]) (nm_r (nI_1 k) (ih (k + 1) _ (by omega) ?_ (cn_updZ h2 (by omega))))⟩
    intro j hj
    by_cases e : j = k
    · rw [e, pk_us]
    · rw [pk_un e]; exact h1 j (by omega)
end
end
section
section
variable {n c : Nat} {fn fs : Int32} {lo hi g t1 t2 t3 t4 : Nat → Int32}
theorem cy_noW0 {post : Int32 → Prop} {j : Nat} (hj : j < n) (h7 : n ≤ 7) (h : post 0) : wpY_noWire post (nI n, fs, lo, hi, g, t1, t2, t3, t4) (nI j) := br_f (nI_pos (by omega)) (br_t (nI_lt hj (by omega)) h)
theorem cy_noW1 {post : Int32 → Prop} {w : Int32} (hw : w < 0 ∨ nI n ≤ w) (h : post 1) : wpY_noWire post (nI n, fs, lo, hi, g, t1, t2, t3, t4) w := br_c (fun _ => h) (fun z => hw.elim (fun a => absurd a z) (fun b => br_f (Int32.not_lt.mpr b) h))
theorem cy_is1 {post : Int32 → Prop} {j : Nat} (hj : j < c) (hc : c ≤ 24) (h : post 1) : wpY_is post (fn, nI c, lo, hi, g, t1, t2, t3, t4) (nI j) := br_f (nI_pos (by omega)) (br_f (nI_ge hj (by omega)) h)
theorem cy_is0 {post : Int32 → Prop} {w : Int32} (hw : w < 0 ∨ nI c ≤ w) (h : post 0) : wpY_is post (fn, nI c, lo, hi, g, t1, t2, t3, t4) w := br_c (fun _ => h) (fun z => hw.elim (fun a => absurd a z) (fun b => br_t b h))
theorem cy_compare {post : Int32 → SY → Prop} (h7 : n ≤ 7) (hc : c ≤ 24) (hv : cn_V n c lo hi) {k : Nat} (hk : k < c) (hp : post (nI (cn_E lo hi k t2)) (fn, fs, lo, hi, g, t1, cn_S lo hi k t2, t3, t4)) : wpY_compare post (fn, fs, lo, hi, g, t1, t2, t3, t4) (nI k) := by
  obtain ⟨a, b, ha, hb, ea, eb⟩ := hv k hk
  have ca := cn_cl ha h7
  have cb := cn_cl hb h7
  have ck : (nI k).toNatClampNeg = k := nI_clamp (by omega)
  have ik : vp_in (nI k) 24 := vp_in_nI (by omega) (by omega)
  have ia : vp_in (nI a) 7 := vp_in_nI (by omega) (by omega)
  have ib : vp_in (nI b) 7 := vp_in_nI (by omega) (by omega)
  have hS : cn_S lo hi k t2 = cn_s a b t2 := by unfold cn_S; rw [ea, eb, ca, cb]
  have hE : cn_E lo hi k t2 = cn_e a b t2 := by unfold cn_E; rw [ea, eb, ca, cb]
  rw [hS, hE] at hp
  refine ⟨ik, nm_r (e' := nI a) (by rw [ck]; exact ea) ⟨ik, nm_r (e' := nI b) (by rw [ck]; exact eb) ⟨ia, ib, ?_⟩⟩⟩
  rw [ca, cb]
  by_cases hle : t2 a ≤ t2 b
  · have s0 : cn_s a b t2 = t2 := if_pos hle
    have e0 : cn_e a b t2 = 0 := if_pos hle
    rw [s0, e0] at hp
    exact br_f (Int32.not_lt.mpr hle) hp
  · have s1 : cn_s a b t2 = upd (upd t2 a (t2 b)) b (t2 a) := if_neg hle
    have e1 : cn_e a b t2 = 1 := if_neg hle
    rw [s1, e1] at hp
    exact br_t (Int32.not_le.mp hle) ⟨ia, nm_e ⟨ib, ia, nm_e ⟨ib, nm_e hp⟩⟩⟩
theorem cy_cp_output {post : Int32 → SY → Prop} {x1 : Int32} (h7 : n ≤ 7) (hp : ∃ m : Nat, wY_output_40 post x1 m 0 (nI n) fs lo hi g t1 g t3 t4) : ∀ (d k : Nat) (f : Nat → Int32), k + d = n → (∀ j, j < k → f j = g j) → (∀ j, n ≤ j → f j = g j) → wY_output_12 post x1 (nI n) fs (d + 1) (nI k) lo hi g t1 f t3 t4 := by
  intro d
  induction d with
  | zero =>
    intro k f hk h1 h2
    have e : f = g := by
      funext j
      by_cases hj : j < k
      · exact h1 j hj
      · exact h2 j (by omega)
    subst e
    exact br_t (nI_le (by omega) (by omega)) hp
  | succ d ih =>
    intro k f hk h1 h2
    have ck : (nI k).toNatClampNeg = k := nI_clamp (by omega)
    have ik : vp_in (nI k) 7 := vp_in_nI (by omega) (by omega)
    refine br_f (nI_ge (by omega) (by omega)) ⟨ik, ik, nm_r (e' := upd f k (g k)) (by rw [ck]) (nm_r (nI_1 k) (ih (k + 1) _ (by omega) ?_ ?_))⟩
    · intro j hj
      by_cases e : j = k
      · rw [e, pk_us]
      · rw [pk_un e]; exact h1 j (by omega)
    · intro j hj
      rw [pk_un (by omega)]; exact h2 j hj
theorem cy_copy_output {post : Int32 → SY → Prop} {x1 : Int32} (h7 : n ≤ 7) (f : Nat → Int32) (hz : cn_Z n g) (hf : cn_Z n f) (hp : ∃ m : Nat, wY_output_40 post x1 m 0 (nI n) fs lo hi g t1 g t3 t4) : ∃ m : Nat, wY_output_12 post x1 (nI n) fs m 0 lo hi g t1 f t3 t4 :=
  ⟨n + 1, cy_cp_output h7 hp n 0 f (by omega) (fun j hj => absurd hj (by omega)) (fun j hj => by rw [hf j hj, hz j hj])⟩
theorem cy_cp_exchanges {post : Int32 → SY → Prop} (h7 : n ≤ 7) (hp : ∃ m : Nat, wY_exchanges_32 post m 0 0 (nI n) fs lo hi g t1 g t3 t4) : ∀ (d k : Nat) (f : Nat → Int32), k + d = n → (∀ j, j < k → f j = g j) → (∀ j, n ≤ j → f j = g j) → wY_exchanges_2 post (nI n) fs (d + 1) (nI k) lo hi g t1 f t3 t4 := by
  intro d
  induction d with
  | zero =>
    intro k f hk h1 h2
    have e : f = g := by
      funext j
      by_cases hj : j < k
      · exact h1 j hj
      · exact h2 j (by omega)
    subst e
    exact br_t (nI_le (by omega) (by omega)) hp
  | succ d ih =>
    intro k f hk h1 h2
    have ck : (nI k).toNatClampNeg = k := nI_clamp (by omega)
    have ik : vp_in (nI k) 7 := vp_in_nI (by omega) (by omega)
    refine br_f (nI_ge (by omega) (by omega)) ⟨ik, ik, nm_r (e' := upd f k (g k)) (by rw [ck]) (nm_r (nI_1 k) (ih (k + 1) _ (by omega) ?_ ?_))⟩
    · intro j hj
      by_cases e : j = k
      · rw [e, pk_us]
      · rw [pk_un e]; exact h1 j (by omega)
    · intro j hj
      rw [pk_un (by omega)]; exact h2 j hj
theorem cy_copy_exchanges {post : Int32 → SY → Prop} (h7 : n ≤ 7) (f : Nat → Int32) (hz : cn_Z n g) (hf : cn_Z n f) (hp : ∃ m : Nat, wY_exchanges_32 post m 0 0 (nI n) fs lo hi g t1 g t3 t4) : ∃ m : Nat, wY_exchanges_2 post (nI n) fs m 0 lo hi g t1 f t3 t4 :=
  ⟨n + 1, cy_cp_exchanges h7 hp n 0 f (by omega) (fun j hj => absurd hj (by omega)) (fun j hj => by rw [hf j hj, hz j hj])⟩
theorem cy_cp_pass {post : SY → Prop} {x1 : Int32} (h7 : n ≤ 7) (hp : ∃ m : Nat, wY_pass_30 post x1 m 0 (nI n) fs lo hi g t1 t1 t3 t4) : ∀ (d k : Nat) (f : Nat → Int32), k + d = n → (∀ j, j < k → f j = t1 j) → (∀ j, n ≤ j → f j = t1 j) → wY_pass_2 post x1 (nI n) fs (d + 1) (nI k) lo hi g t1 f t3 t4 := by
  intro d
  induction d with
  | zero =>
    intro k f hk h1 h2
    have e : f = t1 := by
      funext j
      by_cases hj : j < k
      · exact h1 j hj
      · exact h2 j (by omega)
    subst e
    exact br_t (nI_le (by omega) (by omega)) hp
  | succ d ih =>
    intro k f hk h1 h2
    have ck : (nI k).toNatClampNeg = k := nI_clamp (by omega)
    have ik : vp_in (nI k) 7 := vp_in_nI (by omega) (by omega)
    refine br_f (nI_ge (by omega) (by omega)) ⟨ik, ik, nm_r (e' := upd f k (t1 k)) (by rw [ck]) (nm_r (nI_1 k) (ih (k + 1) _ (by omega) ?_ ?_))⟩
    · intro j hj
      by_cases e : j = k
      · rw [e, pk_us]
      · rw [pk_un e]; exact h1 j (by omega)
    · intro j hj
      rw [pk_un (by omega)]; exact h2 j hj
theorem cy_copy_pass {post : SY → Prop} {x1 : Int32} (h7 : n ≤ 7) (f : Nat → Int32) (hz : cn_Z n t1) (hf : cn_Z n f) (hp : ∃ m : Nat, wY_pass_30 post x1 m 0 (nI n) fs lo hi g t1 t1 t3 t4) : ∃ m : Nat, wY_pass_2 post x1 (nI n) fs m 0 lo hi g t1 f t3 t4 :=
  ⟨n + 1, cy_cp_pass h7 hp n 0 f (by omega) (fun j hj => absurd hj (by omega)) (fun j hj => by rw [hf j hj, hz j hj])⟩
theorem cy_cp_works {post : Int32 → SY → Prop} {J : Int32 → Int32 → Int32 → Int32 → (Nat → Int32) → (Nat → Int32) → (Nat → Int32) → (Nat → Int32) → (Nat → Int32) → (Nat → Int32) → (Nat → Int32) → Prop} {x1 x2 : Int32} (h7 : n ≤ 7) (hp : ∃ m : Nat, wY_works_61 post J x1 x2 m 0 0 (nI n) fs lo hi g t1 t1 t3 t4) : ∀ (d k : Nat) (f : Nat → Int32), k + d = n → (∀ j, j < k → f j = t1 j) → (∀ j, n ≤ j → f j = t1 j) → wY_works_26 post J x1 x2 (nI n) fs (d + 1) (nI k) lo hi g t1 f t3 t4 := by
  intro d
  induction d with
  | zero =>
    intro k f hk h1 h2
    have e : f = t1 := by
      funext j
      by_cases hj : j < k
      · exact h1 j hj
      · exact h2 j (by omega)
    subst e
    exact br_t (nI_le (by omega) (by omega)) hp
  | succ d ih =>
    intro k f hk h1 h2
    have ck : (nI k).toNatClampNeg = k := nI_clamp (by omega)
    have ik : vp_in (nI k) 7 := vp_in_nI (by omega) (by omega)
    refine br_f (nI_ge (by omega) (by omega)) ⟨ik, ik, nm_r (e' := upd f k (t1 k)) (by rw [ck]) (nm_r (nI_1 k) (ih (k + 1) _ (by omega) ?_ ?_))⟩
    · intro j hj
      by_cases e : j = k
      · rw [e, pk_us]
      · rw [pk_un e]; exact h1 j (by omega)
    · intro j hj
      rw [pk_un (by omega)]; exact h2 j hj
theorem cy_copy_works {post : Int32 → SY → Prop} {J : Int32 → Int32 → Int32 → Int32 → (Nat → Int32) → (Nat → Int32) → (Nat → Int32) → (Nat → Int32) → (Nat → Int32) → (Nat → Int32) → (Nat → Int32) → Prop} {x1 x2 : Int32} (h7 : n ≤ 7) (f : Nat → Int32) (hz : cn_Z n t1) (hf : cn_Z n f) (hp : ∃ m : Nat, wY_works_61 post J x1 x2 m 0 0 (nI n) fs lo hi g t1 t1 t3 t4) : ∃ m : Nat, wY_works_26 post J x1 x2 (nI n) fs m 0 lo hi g t1 f t3 t4 :=
  ⟨n + 1, cy_cp_works h7 hp n 0 f (by omega) (fun j hj => absurd hj (by omega)) (fun j hj => by rw [hf j hj, hz j hj])⟩
theorem cy_cp_same {post : Int32 → SY → Prop} {x1 : Int32} (h7 : n ≤ 7) (hp : wpY_pass (fun u => match u with | (a1, a2, a3, a4, a5, a6, a7, a8, a9) => (∃ m : Nat, wY_same_40 post a1 a2 a3 a4 a5 a6 a7 a8 a9 m 0)) (nI n, fs, lo, hi, g, t1, t2, t2, t4) x1) : ∀ (d k : Nat) (f : Nat → Int32), k + d = n → (∀ j, j < k → f j = t2 j) → (∀ j, n ≤ j → f j = t2 j) → wY_same_7 post x1 (nI n) fs (d + 1) (nI k) lo hi g t1 t2 f t4 := by
  intro d
  induction d with
  | zero =>
    intro k f hk h1 h2
    have e : f = t2 := by
      funext j
      by_cases hj : j < k
      · exact h1 j hj
      · exact h2 j (by omega)
    subst e
    exact br_t (nI_le (by omega) (by omega)) hp
  | succ d ih =>
    intro k f hk h1 h2
    have ck : (nI k).toNatClampNeg = k := nI_clamp (by omega)
    have ik : vp_in (nI k) 7 := vp_in_nI (by omega) (by omega)
    refine br_f (nI_ge (by omega) (by omega)) ⟨ik, ik, nm_r (e' := upd f k (t2 k)) (by rw [ck]) (nm_r (nI_1 k) (ih (k + 1) _ (by omega) ?_ ?_))⟩
    · intro j hj
      by_cases e : j = k
      · rw [e, pk_us]
      · rw [pk_un e]; exact h1 j (by omega)
    · intro j hj
      rw [pk_un (by omega)]; exact h2 j hj
theorem cy_copy_same {post : Int32 → SY → Prop} {x1 : Int32} (h7 : n ≤ 7) (f : Nat → Int32) (hz : cn_Z n t2) (hf : cn_Z n f) (hp : wpY_pass (fun u => match u with | (a1, a2, a3, a4, a5, a6, a7, a8, a9) => (∃ m : Nat, wY_same_40 post a1 a2 a3 a4 a5 a6 a7 a8 a9 m 0)) (nI n, fs, lo, hi, g, t1, t2, t2, t4) x1) : ∃ m : Nat, wY_same_7 post x1 (nI n) fs m 0 lo hi g t1 t2 f t4 :=
  ⟨n + 1, cy_cp_same h7 hp n 0 f (by omega) (fun j hj => absurd hj (by omega)) (fun j hj => by rw [hf j hj, hz j hj])⟩
theorem cy_out40 {post : Int32 → SY → Prop} (h7 : n ≤ 7) (hc : c ≤ 24) (hv : cn_V n c lo hi) {w : Nat} (hw : w < n) : ∀ (d k : Nat) (f : Nat → Int32), k + d = c → post (cn_run lo hi d k f w) (nI n, nI c, lo, hi, g, t1, cn_run lo hi d k f, t3, t4) → wY_output_40 post (nI w) (d + 1) (nI k) (nI n) (nI c) lo hi g t1 f t3 t4 := by
  have cw := cn_cl hw h7
  intro d
  induction d with
  | zero => intro k f hk hp; exact br_t (nI_le (by omega) (by omega)) ⟨vp_in_nI (by omega) (by omega), by rw [cw]; exact hp⟩
  | succ d ih =>
    intro k f hk hp
    refine br_f (nI_ge (by omega) (by omega)) (cy_compare h7 hc hv (by omega) ?_)
    dsimp only
    exact nm_r (nI_1 k) (ih (k + 1) _ (by omega) hp)
theorem cy_exc32 {post : Int32 → SY → Prop} (h7 : n ≤ 7) (hc : c ≤ 24) (hv : cn_V n c lo hi) : ∀ (d k e : Nat) (f : Nat → Int32), k + d = c → post (nI (e + cn_exc lo hi d k f)) (nI n, nI c, lo, hi, g, t1, cn_run lo hi d k f, t3, t4) → wY_exchanges_32 post (d + 1) (nI e) (nI k) (nI n) (nI c) lo hi g t1 f t3 t4 := by
  intro d
  induction d with
  | zero => intro k e f hk hp; exact br_t (nI_le (by omega) (by omega)) hp
  | succ d ih =>
    intro k e f hk hp
    have hq : post (nI (e + (cn_E lo hi k f + cn_exc lo hi d (k + 1) (cn_S lo hi k f)))) (nI n, nI c, lo, hi, g, t1, cn_run lo hi d (k + 1) (cn_S lo hi k f), t3, t4) := hp
    refine br_f (nI_ge (by omega) (by omega)) (cy_compare h7 hc hv (by omega) ?_)
    dsimp only
    rcases cn_E01 lo hi k f with h | h
    · rw [h, Nat.zero_add] at hq
      rw [h]
      exact br_t rfl (nm_r (nI_1 k) (ih (k + 1) e _ (by omega) hq))
    · rw [h, ← Nat.add_assoc] at hq
      rw [h]
      exact br_f (by decide) (nm_r (nI_1 e) (nm_r (nI_1 k) (ih (k + 1) (e + 1) _ (by omega) hq)))
theorem cy_pass30 {post : SY → Prop} (h7 : n ≤ 7) (hc : c ≤ 24) (hv : cn_V n c lo hi) {x : Int32} : ∀ (d k : Nat) (f : Nat → Int32), k + d = c → (∀ j, k ≤ j → j < c → ¬ nI j = x) → post (nI n, nI c, lo, hi, g, t1, cn_run lo hi d k f, t3, t4) → wY_pass_30 post x (d + 1) (nI k) (nI n) (nI c) lo hi g t1 f t3 t4 := by
  intro d
  induction d with
  | zero => intro k f hk hx hp; exact br_t (nI_le (by omega) (by omega)) hp
  | succ d ih =>
    intro k f hk hx hp
    refine br_f (nI_ge (by omega) (by omega)) (br_f (hx k (by omega) (by omega)) (cy_compare h7 hc hv (by omega) ?_))
    dsimp only
    exact nm_r (nI_1 k) (ih (k + 1) _ (by omega) (fun j h1 h2 => hx j (by omega) h2) hp)
theorem cy_pass30w {post : SY → Prop} (h7 : n ≤ 7) (hc : c ≤ 24) (hv : cn_V n c lo hi) {w : Nat} (hw : w < c) : ∀ (d k : Nat) (f : Nat → Int32), k + d = w → post (nI n, nI c, lo, hi, g, t1, cn_run lo hi (c - (w + 1)) (w + 1) (cn_run lo hi d k f), t3, t4) → wY_pass_30 post (nI w) (d + 1 + (c - (w + 1) + 1)) (nI k) (nI n) (nI c) lo hi g t1 f t3 t4 := by
  intro d
  induction d with
  | zero =>
    intro k f hk hp
    have e : k = w := by omega
    subst e
    rw [show 0 + 1 + (c - (k + 1) + 1) = (c - (k + 1) + 1) + 1 by omega]
    refine br_f (nI_ge (by omega) (by omega)) (br_t rfl (nm_r (nI_1 k) (cy_pass30 h7 hc hv (c - (k + 1)) (k + 1) f (by omega) ?_ hp)))
    intro j h1 h2
    rw [nI_eq (by omega) (by omega)]
    omega
  | succ d ih =>
    intro k f hk hp
    rw [show d + 1 + 1 + (c - (w + 1) + 1) = (d + 1 + (c - (w + 1) + 1)) + 1 by omega]
    refine br_f (nI_ge (by omega) (by omega)) (br_f (by rw [nI_eq (by omega) (by omega)]; omega) (cy_compare h7 hc hv (by omega) ?_))
    dsimp only
    exact nm_r (nI_1 k) (ih (k + 1) _ (by omega) hp)
theorem cy_m1 {j : Nat} (h : j < 24) : ¬ nI j = -1 := by
  intro e
  have : nI j < 0 := by rw [e]; decide
  exact nI_pos (by omega) this
theorem cy_pass {post : SY → Prop} (h7 : n ≤ 7) (hc : c ≤ 24) (hv : cn_V n c lo hi) (h1 : cn_Z n t1) (h2 : cn_Z n t2) (hp : post (nI n, nI c, lo, hi, g, t1, cn_run lo hi c 0 t1, t3, t4)) : wpY_pass post (nI n, nI c, lo, hi, g, t1, t2, t3, t4) (-1) :=
  cy_copy_pass h7 t2 h1 h2 ⟨c + 1, cy_pass30 h7 hc hv c 0 t1 (by omega) (fun j _ h => cy_m1 (by omega)) hp⟩
theorem cy_passw {post : SY → Prop} (h7 : n ≤ 7) (hc : c ≤ 24) (hv : cn_V n c lo hi) (h1 : cn_Z n t1) (h2 : cn_Z n t2) {w : Nat} (hw : w < c) (hp : post (nI n, nI c, lo, hi, g, t1, cn_run lo hi (c - (w + 1)) (w + 1) (cn_run lo hi w 0 t1), t3, t4)) : wpY_pass post (nI n, nI c, lo, hi, g, t1, t2, t3, t4) (nI w) :=
  cy_copy_pass h7 t2 h1 h2 ⟨w + 1 + (c - (w + 1) + 1), cy_pass30w h7 hc hv hw w 0 t1 (by omega) hp⟩
theorem cy_srt {post : Int32 → Prop} (h7 : n ≤ 7) : ∀ (d k : Nat), k + d = n → post (if cn_srt d k t2 = true then 1 else 0) → wY_isSorted_2 post (nI n) fs lo hi g t1 t2 t3 t4 (d + 1) (nI k) := by
  intro d
  induction d with
  | zero => intro k hk hp; exact br_t (nI_le (by omega) (by omega)) hp
  | succ d ih =>
    intro k hk hp
    have ck : (nI k).toNatClampNeg = k := nI_clamp (by omega)
    have ik : vp_in (nI k) 7 := vp_in_nI (by omega) (by omega)
    rw [cn_srt] at hp
    refine br_f (nI_ge (by omega) (by omega)) ⟨ik, ?_⟩
    by_cases h : t2 k = nI (k + 1)
    · rw [if_pos h] at hp
      exact br_t (by rw [ck, nI_1]; exact h) (nm_r (nI_1 k) (ih (k + 1) (by omega) hp))
    · rw [if_neg h] at hp
      exact br_f (by rw [ck, nI_1]; exact h) hp
theorem cy_isSorted {post : Int32 → Prop} (h7 : n ≤ 7) (hp : post (if cn_srt n 0 t2 = true then 1 else 0)) : wpY_isSorted post (nI n, fs, lo, hi, g, t1, t2, t3, t4) := ⟨n + 1, cy_srt h7 n 0 (by omega) hp⟩
theorem cy_same40 {post : Int32 → SY → Prop} (h7 : n ≤ 7) : ∀ (d k : Nat), k + d = n → post (if cn_same d k t3 t2 = true then 1 else 0) (nI n, fs, lo, hi, g, t1, t2, t3, t4) → wY_same_40 post (nI n) fs lo hi g t1 t2 t3 t4 (d + 1) (nI k) := by
  intro d
  induction d with
  | zero => intro k hk hp; exact br_t (nI_le (by omega) (by omega)) hp
  | succ d ih =>
    intro k hk hp
    have ck : (nI k).toNatClampNeg = k := nI_clamp (by omega)
    have ik : vp_in (nI k) 7 := vp_in_nI (by omega) (by omega)
    rw [cn_same] at hp
    refine br_f (nI_ge (by omega) (by omega)) ⟨ik, ik, ?_⟩
    by_cases h : t3 k = t2 k
    · rw [if_pos h] at hp
      exact br_t (by rw [ck]; exact h) (nm_r (nI_1 k) (ih (k + 1) (by omega) hp))
    · rw [if_neg h] at hp
      exact br_f (by rw [ck]; exact h) hp
theorem cy_same {post : Int32 → SY → Prop} (h7 : n ≤ 7) (hc : c ≤ 24) (hv : cn_V n c lo hi) (h1 : cn_Z n t1) (h2 : cn_Z n t2) (h3 : cn_Z n t3) {w : Nat} (hw : w < c) (hp : post (if cn_same n 0 (cn_run lo hi c 0 t1) (cn_run lo hi (c - (w + 1)) (w + 1) (cn_run lo hi w 0 t1)) = true then 1 else 0) (nI n, nI c, lo, hi, g, t1, cn_run lo hi (c - (w + 1)) (w + 1) (cn_run lo hi w 0 t1), cn_run lo hi c 0 t1, t4)) : wpY_same post (nI n, nI c, lo, hi, g, t1, t2, t3, t4) (nI w) := by
  have hz : cn_Z n (cn_run lo hi c 0 t1) := cn_runZ h7 hv c 0 _ (by omega) h1
  unfold wpY_same
  dsimp only
  refine cy_pass h7 hc hv h1 h2 ?_
  dsimp only
  refine cy_copy_same h7 t3 hz h3 ?_
  refine cy_passw h7 hc hv h1 hz hw ?_
  exact ⟨n + 1, cy_same40 h7 n 0 (by omega) hp⟩
theorem cy_turn2 {post : Int32 → SY → Prop} (hc : c ≤ 24) : ∀ (d k : Nat) (lo hi : Nat → Int32), k + d = c → post (nI c) (nI n, nI c, (cn_tn n d k lo hi).1, (cn_tn n d k lo hi).2, g, t1, t2, t3, t4) → wY_turn_2 post (nI n) (nI c) (d + 1) (nI k) lo hi g t1 t2 t3 t4 := by
  intro d
  induction d with
  | zero => intro k lo hi hk hp; exact br_t (nI_le (by omega) (by omega)) hp
  | succ d ih =>
    intro k lo hi hk hp
    have ck : (nI k).toNatClampNeg = k := nI_clamp (by omega)
    have ik : vp_in (nI k) 24 := vp_in_nI (by omega) (by omega)
    exact br_f (nI_ge (by omega) (by omega)) ⟨ik, nm_r (e' := lo k) (by rw [ck]) ⟨ik, ik, nm_r (e' := upd lo k (nI n - 1 - hi k)) (by rw [ck]) ⟨ik, nm_r (e' := upd hi k (nI n - 1 - lo k)) (by rw [ck]) (nm_r (nI_1 k) (ih (k + 1) _ _ (by omega) hp))⟩⟩⟩
theorem cy_drop23 {post : Int32 → SY → Prop} (hc : c + 1 ≤ 24) : ∀ (d k : Nat) (lo hi : Nat → Int32), k + d = c → post (nI c) (nI n, nI c, (cn_dp d k lo hi).1, (cn_dp d k lo hi).2, g, t1, t2, t3, t4) → wY_drop_23 post (nI n) (nI c) (d + 1) (nI k) lo hi g t1 t2 t3 t4 := by
  intro d
  induction d with
  | zero => intro k lo hi hk hp; exact br_t (nI_le (by omega) (by omega)) hp
  | succ d ih =>
    intro k lo hi hk hp
    have ck : (nI k).toNatClampNeg = k := nI_clamp (by omega)
    have ck1 : (nI k + 1).toNatClampNeg = k + 1 := by rw [nI_1]; exact nI_clamp (by omega)
    have ik : vp_in (nI k) 24 := vp_in_nI (by omega) (by omega)
    have ik1 : vp_in (nI k + 1) 24 := by rw [nI_1]; exact vp_in_nI (by omega) (by omega)
    exact br_f (nI_ge (by omega) (by omega)) ⟨ik1, ik, nm_r (e' := upd lo k (lo (k + 1))) (by rw [ck, ck1]) ⟨ik1, ik, nm_r (e' := upd hi k (hi (k + 1))) (by rw [ck, ck1]) (nm_r (nI_1 k) (ih (k + 1) _ _ (by omega) hp))⟩⟩
theorem cy_all4 {post : Int32 → Prop} (h7 : n ≤ 7) (hp : post (nI (cn_fac n))) : ∀ (d q : Nat), q + d = n → wY_all_4 post (nI n) fs lo hi g t1 t2 t3 t4 (d + 1) (nI (cn_fac q)) (nI (q + 1)) := by
  intro d
  induction d with
  | zero =>
    intro q hq
    have e : q = n := by omega
    subst e
    exact br_t (nI_lt (by omega) (by omega)) hp
  | succ d ih =>
    intro q hq
    refine br_f (nI_nlt (by omega) (by omega)) (nm_r (e' := nI (cn_fac (q + 1))) ?_ (nm_r (nI_1 (q + 1)) (ih (q + 1) (by omega))))
    rw [pk_mul, Nat.mul_comm]
    rfl
theorem cy_all {post : Int32 → Prop} (h2 : 2 ≤ n) (h7 : n ≤ 7) (hp : post (nI (cn_fac n))) : wpY_all post (nI n, fs, lo, hi, g, t1, t2, t3, t4) := ⟨(n - 1) + 1, cy_all4 h7 hp (n - 1) 1 (by omega)⟩
end
end
section
theorem cn_Y0 : ∀ n, n < 8 → ∀ j, j < n → (cn_Y n 0).getD j 0 = j + 1 := by decide +kernel
theorem cn_YZ {n : Nat} (h2 : 2 ≤ n) (h7 : n ≤ 7) {i : Nat} (hi : i < cn_fac n) : cn_Z n (cn_ar (cn_Y n i)) := cn_arZ (by rw [cn_ok_len (cn_Yok h2 h7 hi)]; exact Nat.le_refl _)
theorem cn_arLe {l : List Nat} (h8 : ∀ j, l.getD j 0 < 8) (a b : Nat) : cn_ar l a ≤ cn_ar l b ↔ l.getD a 0 ≤ l.getD b 0 := by
  have ha := h8 a
  have hb := h8 b
  exact nI_leI (by omega) (by omega)
theorem cn_ble {a b : Nat} (h : a ≤ b) : Nat.ble a b = true := Nat.ble_eq_true_of_le h
theorem cn_nble {a b : Nat} (h : ¬ a ≤ b) : Nat.ble a b = false := by
  cases e : Nat.ble a b with
  | false => rfl
  | true => exact absurd (Nat.le_of_ble_eq_true e) h
theorem cn_toLe (l : List Nat) (x : Nat) : ∀ t, cn_to l x t ≤ t := by
  intro t
  induction t with
  | zero => exact Nat.le_refl _
  | succ t ih =>
    rw [cn_to]
    cases Nat.ble x (l.getD (t + 1) 0)
    · exact Nat.le_succ_of_le ih
    · exact Nat.le_refl _
theorem cn_atLt (l : List Nat) : ∀ q a, cn_at l q = some a → a < q := by
  intro q
  induction q with
  | zero => intro a h; exact absurd h (by simp [cn_at])
  | succ q ih =>
    intro a h
    rw [cn_at] at h
    cases e : Nat.ble (l.getD q 0) (l.getD (q + 1) 0) with
    | true => rw [e] at h; have := Option.some.inj (show some q = some a from h); omega
    | false => rw [e] at h; have := ih a h; omega
section
variable {n c : Nat} {fs : Int32} {lo hi g t1 t2 t3 t4 : Nat → Int32}
theorem cy_first2 {post : SY → Prop} (h2 : 2 ≤ n) (h7 : n ≤ 7) (hp : post (nI n, fs, lo, hi, g, cn_ar (cn_Y n 0), t2, t3, t4)) : ∀ (d k : Nat) (f : Nat → Int32), k + d = n → (∀ j, j < k → f j = nI (j + 1)) → cn_Z n f → wY_firstOrder_2 post (nI n) fs (d + 1) (nI k) lo hi g f t2 t3 t4 := by
  intro d
  induction d with
  | zero =>
    intro k f hk h1 hz
    have e : f = cn_ar (cn_Y n 0) := by
      funext j
      by_cases hj : j < k
      · rw [h1 j hj]
        exact congrArg nI (cn_Y0 n (by omega) j (by omega)).symm
      · rw [hz j (by omega), cn_YZ h2 h7 (cn_facPos n) j (by omega)]
    subst e
    exact br_t (nI_le (by omega) (by omega)) hp
  | succ d ih =>
    intro k f hk h1 hz
    have ck : (nI k).toNatClampNeg = k := nI_clamp (by omega)
    have ik : vp_in (nI k) 7 := vp_in_nI (by omega) (by omega)
    refine br_f (nI_ge (by omega) (by omega)) ⟨ik, nm_r (e' := upd f k (nI (k + 1))) (by rw [ck, nI_1]) (nm_r (nI_1 k) (ih (k + 1) _ (by omega) ?_ (cn_updZ hz (by omega))))⟩
    intro j hj
    by_cases e : j = k
    · rw [e, pk_us]
    · rw [pk_un e]; exact h1 j (by omega)
theorem cy_first {post : SY → Prop} (h2 : 2 ≤ n) (h7 : n ≤ 7) (h1 : cn_Z n t1) (hp : post (nI n, fs, lo, hi, g, cn_ar (cn_Y n 0), t2, t3, t4)) : wpY_firstOrder post (nI n, fs, lo, hi, g, t1, t2, t3, t4) :=
  ⟨n + 1, cy_first2 h2 h7 hp n 0 t1 (by omega) (fun j hj => absurd hj (by omega)) h1⟩
theorem cy_no97 {post : Int32 → SY → Prop} (h7 : n ≤ 7) {a : Nat} (ha : a < n) : ∀ (d x : Nat) (l : List Nat), l.length = n → x ≤ n → 1 ≤ x → n ≤ a + 2 * x + 2 * d → post 1 (nI n, fs, lo, hi, g, cn_ar (cn_rv n a d x l), t2, t3, t4) → wY_nextOrder_97 post (nI a) (nI n) fs (d + 1) (nI x) lo hi g (cn_ar l) t2 t3 t4 := by
  intro d
  induction d with
  | zero =>
    intro x l hl hx hx1 hd hp
    exact br_t (by rw [pk_sub hx, nI_add]; exact nI_le (by omega) (by omega)) hp
  | succ d ih =>
    intro x l hl hx hx1 hd hp
    rw [cn_rv] at hp
    by_cases h : a + x < n - x
    · rw [show Nat.blt (a + x) (n - x) = true from cn_ble h] at hp
      have e1 : nI a + nI x = nI (a + x) := nI_add a x
      have e2 : nI n - nI x = nI (n - x) := pk_sub hx
      have c1 : (nI (a + x)).toNatClampNeg = a + x := nI_clamp (by omega)
      have c2 : (nI (n - x)).toNatClampNeg = n - x := nI_clamp (by omega)
      have i1 : vp_in (nI (a + x)) 7 := vp_in_nI (by omega) (by omega)
      have i2 : vp_in (nI (n - x)) 7 := vp_in_nI (by omega) (by omega)
      refine br_f (by rw [e1, e2]; exact nI_ge (by omega) (by omega)) ?_
      rw [e1, e2]
      refine ⟨i1, nm_r (e' := cn_ar l (a + x)) (by rw [c1]) ⟨i2, i1, nm_r (e' := cn_ar (l.set (a + x) (l.getD (n - x) 0))) ?_ ⟨i2, nm_r (e' := cn_ar ((l.set (a + x) (l.getD (n - x) 0)).set (n - x) (l.getD (a + x) 0))) ?_ (nm_r (nI_1 x) (ih (x + 1) _ ?_ (by omega) (by omega) (by omega) hp))⟩⟩⟩
      · rw [c1, c2, cn_arset (by omega)]; rfl
      · rw [c2]; exact (cn_arset (l := l.set (a + x) (l.getD (n - x) 0)) (by rw [List.length_set]; omega)).symm
      · simp [hl]
    · rw [show Nat.blt (a + x) (n - x) = false from cn_nble h] at hp
      exact br_t (by rw [pk_sub hx, nI_add]; exact nI_le (by omega) (by omega)) hp
theorem cy_no47 {post : Int32 → SY → Prop} (h7 : n ≤ 7) {a : Nat} {l : List Nat} (hl : l.length = n) (h8 : ∀ j, l.getD j 0 < 8) (ha : a < n) : ∀ t, a ≤ t → t < n → post 1 (nI n, fs, lo, hi, g, cn_ar (cn_rv n a 4 1 (cn_sw l a (cn_to l (l.getD a 0) t))), t2, t3, t4) → wY_nextOrder_47 post (nI a) (nI n) fs lo hi g (cn_ar l) t2 t3 t4 (t + 1) (nI t) := by
  have ca : (nI a).toNatClampNeg = a := nI_clamp (by omega)
  have ia : vp_in (nI a) 7 := vp_in_nI (by omega) (by omega)
  have ex : ∀ (t : Nat), t < n → cn_ar l a ≤ cn_ar l t → post 1 (nI n, fs, lo, hi, g, cn_ar (cn_rv n a 4 1 (cn_sw l a t)), t2, t3, t4) → wY_nextOrder_47 post (nI a) (nI n) fs lo hi g (cn_ar l) t2 t3 t4 (t + 1) (nI t) := by
    intro t ht hle hp
    have ct : (nI t).toNatClampNeg = t := nI_clamp (by omega)
    have it : vp_in (nI t) 7 := vp_in_nI (by omega) (by omega)
    refine ⟨it, ia, br_t (by rw [ca, ct]; exact hle) ⟨ia, nm_r (e' := cn_ar l a) (by rw [ca]) ⟨it, ia, nm_r (e' := cn_ar (l.set a (l.getD t 0))) (by rw [ca, ct, cn_arset (by omega)]; rfl) ⟨it, nm_r (e' := cn_ar (cn_sw l a t)) ?_ ⟨5, ?_⟩⟩⟩⟩⟩
    · rw [ct]; exact (cn_arset (l := l.set a (l.getD t 0)) (by rw [List.length_set]; omega)).symm
    · exact cy_no97 h7 ha 4 1 (cn_sw l a t) (by simp [cn_sw, hl]) (by omega) (by omega) (by omega) hp
  intro t
  induction t with
  | zero =>
    intro hat ht hp
    have e : a = 0 := by omega
    subst e
    exact ex 0 ht ((cn_arLe h8 0 0).mpr (Nat.le_refl _)) hp
  | succ t ih =>
    intro hat ht hp
    rw [cn_to] at hp
    by_cases h : l.getD a 0 ≤ l.getD (t + 1) 0
    · rw [cn_ble h] at hp
      exact ex (t + 1) ht ((cn_arLe h8 a (t + 1)).mpr h) hp
    · rw [cn_nble h] at hp
      have hne : a ≠ t + 1 := by
        intro e
        rw [← e] at h
        exact h (Nat.le_refl _)
      have ct : (nI (t + 1)).toNatClampNeg = t + 1 := nI_clamp (by omega)
      have it : vp_in (nI (t + 1)) 7 := vp_in_nI (by omega) (by omega)
      exact ⟨it, ia, br_f (by rw [ca, ct, cn_arLe h8]; exact h) (nm_r (pk_m1 t) (ih (by omega) (by omega) hp))⟩
theorem cy_no7 {post : Int32 → SY → Prop} (h7 : n ≤ 7) {l : List Nat} (h8 : ∀ j, l.getD j 0 < 8) : ∀ q, q + 1 ≤ n → (∀ a, cn_at l q = some a → wY_nextOrder_34 post (nI a) (nI n) fs lo hi g (cn_ar l) t2 t3 t4) → (cn_at l q = none → wY_nextOrder_34 post (nI 0 + (-1)) (nI n) fs lo hi g (cn_ar l) t2 t3 t4) → wY_nextOrder_7 post (nI n) fs lo hi g (cn_ar l) t2 t3 t4 (q + 1) (nI q + (-1)) := by
  intro q
  induction q with
  | zero => intro hq hs hn; exact br_t (by decide) (hn rfl)
  | succ a ih =>
    intro hq hs hn
    have ca : (nI a).toNatClampNeg = a := nI_clamp (by omega)
    have ca1 : (nI (a + 1)).toNatClampNeg = a + 1 := nI_clamp (by omega)
    rw [cn_at] at hs hn
    rw [pk_m1]
    refine br_f (nI_pos (by omega)) ⟨vp_in_nI (by omega) (by omega), by rw [nI_1]; exact vp_in_nI (by omega) (by omega), ?_⟩
    by_cases h : l.getD a 0 ≤ l.getD (a + 1) 0
    · rw [cn_ble h] at hs
      exact br_t (by rw [nI_1 a, ca, ca1, cn_arLe h8]; exact h) (hs a rfl)
    · rw [cn_nble h] at hs hn
      exact br_f (by rw [nI_1 a, ca, ca1, cn_arLe h8]; exact h) (nm_e (ih (by omega) hs hn))
/-- the reference's next order -/
theorem cy_next {post : Int32 → SY → Prop} (h2 : 2 ≤ n) (h7 : n ≤ 7) {l : List Nat} (hl : l.length = n) (h8 : ∀ j, l.getD j 0 < 8) (hs : ∀ l', cn_nx n l = some l' → post 1 (nI n, fs, lo, hi, g, cn_ar l', t2, t3, t4)) (hn : cn_nx n l = none → post 0 (nI n, fs, lo, hi, g, cn_ar l, t2, t3, t4)) : wpY_nextOrder post (nI n, fs, lo, hi, g, cn_ar l, t2, t3, t4) := by
  obtain ⟨m, rfl⟩ : ∃ m, n = m + 1 := ⟨n - 1, by omega⟩
  have e0 : nI (m + 1) - 2 = nI m + (-1) := by
    rw [← nI_1 m, Int32.sub_eq_add_neg, Int32.add_assoc]
    rfl
  refine nm_r e0 ⟨m + 1, cy_no7 h7 h8 m (by omega) ?_ ?_⟩
  · intro a ea
    have hlt := cn_atLt l m a ea
    have ex : cn_nx (m + 1) l = some (cn_rv (m + 1) a 4 1 (cn_sw l a (cn_to l (l.getD a 0) m))) := by
      unfold cn_nx
      rw [Nat.add_sub_cancel, ea]
    refine br_t (nI_pos' (by omega)) (nm_r (nI_pred m) ⟨m + 1, ?_⟩)
    exact cy_no47 h7 hl h8 (by omega) m (by omega) (by omega) (hs _ ex)
  · intro ea
    have ex : cn_nx (m + 1) l = none := by
      unfold cn_nx
      rw [Nat.add_sub_cancel, ea]
    exact br_f (by decide) (hn ex)
theorem cy_nextS {post : Int32 → SY → Prop} (h2 : 2 ≤ n) (h7 : n ≤ 7) {i : Nat} (hi' : i + 1 < cn_fac n) (hp : post 1 (nI n, fs, lo, hi, g, cn_ar (cn_Y n (i + 1)), t2, t3, t4)) : wpY_nextOrder post (nI n, fs, lo, hi, g, cn_ar (cn_Y n i), t2, t3, t4) := by
  have ok := cn_Yok h2 h7 (i := i) (by omega)
  refine cy_next h2 h7 (cn_ok_len ok) (cn_ok_lt ok) ?_ ?_
  · intro l' e
    rw [cn_Ynx h2 h7 hi'] at e
    rw [← Option.some.inj e]
    exact hp
  · intro e
    rw [cn_Ynx h2 h7 hi'] at e
    exact absurd e (by simp)
theorem cy_nextE {post : Int32 → SY → Prop} (h2 : 2 ≤ n) (h7 : n ≤ 7) {i : Nat} (hi' : i + 1 = cn_fac n) (hp : post 0 (nI n, fs, lo, hi, g, cn_ar (cn_Y n i), t2, t3, t4)) : wpY_nextOrder post (nI n, fs, lo, hi, g, cn_ar (cn_Y n i), t2, t3, t4) := by
  have ok := cn_Yok h2 h7 (i := i) (by omega)
  refine cy_next h2 h7 (cn_ok_len ok) (cn_ok_lt ok) ?_ ?_
  · intro l' e
    rw [cn_Yend h2 h7 hi'] at e
    exact absurd e (by simp)
  · intro _
    exact hp
end
end
section
section
variable {n c : Nat} {lo hi g t1 t2 t3 t4 : Nat → Int32}
theorem cy_sorted8 {post : Int32 → SY → Prop} (h2 : 2 ≤ n) (h7 : n ≤ 7) (hc : c ≤ 24) (hv : cn_V n c lo hi) : ∀ (d i e : Nat) (f : Nat → Int32), i + (d + 1) = cn_fac n → cn_Z n f → (∀ o f', cn_Z n o → cn_Z n f' → post (nI (e + (List.range' i (d + 1)).countP (fun i => cn_qs n c lo hi (cn_Y n i)))) (nI n, nI c, lo, hi, g, o, f', t3, t4)) → wY_sorted_8 post (d + 2) (nI e) 1 (nI n) (nI c) lo hi g (cn_ar (cn_Y n i)) f t3 t4 := by
  intro d
  induction d with
  | zero =>
    intro i e f hd hf hp
    have hi0 := cn_YZ h2 h7 (i := i) (by omega)
    have hz := cn_runZ h7 hv c 0 _ (by omega) hi0
    refine br_f (by decide) (cy_pass h7 hc hv hi0 hf ?_)
    dsimp only
    refine cy_isSorted h7 ?_
    simp only [cn_cnt] at hp
    by_cases h : cn_qs n c lo hi (cn_Y n i) = true
    · simp only [if_pos h] at hp
      rw [if_pos (show cn_srt n 0 (cn_run lo hi c 0 (cn_ar (cn_Y n i))) = true from h)]
      refine br_f (by decide) (nm_r (nI_1 e) (cy_nextE h2 h7 hd ?_))
      exact br_t rfl (hp _ _ hi0 hz)
    · simp only [if_neg h] at hp
      rw [if_neg (show ¬ cn_srt n 0 (cn_run lo hi c 0 (cn_ar (cn_Y n i))) = true from h)]
      refine br_t rfl (cy_nextE h2 h7 hd ?_)
      exact br_t rfl (hp _ _ hi0 hz)
  | succ d ih =>
    intro i e f hd hf hp
    have hi0 := cn_YZ h2 h7 (i := i) (by omega)
    have hz := cn_runZ h7 hv c 0 _ (by omega) hi0
    refine br_f (by decide) (cy_pass h7 hc hv hi0 hf ?_)
    dsimp only
    refine cy_isSorted h7 ?_
    rw [cn_cnt] at hp
    by_cases h : cn_qs n c lo hi (cn_Y n i) = true
    · simp only [if_pos h, ← Nat.add_assoc] at hp
      rw [if_pos (show cn_srt n 0 (cn_run lo hi c 0 (cn_ar (cn_Y n i))) = true from h)]
      refine br_f (by decide) (nm_r (nI_1 e) (cy_nextS h2 h7 (by omega) ?_))
      exact ih (i + 1) (e + 1) _ (by omega) hz hp
    · simp only [if_neg h, Nat.zero_add] at hp
      rw [if_neg (show ¬ cn_srt n 0 (cn_run lo hi c 0 (cn_ar (cn_Y n i))) = true from h)]
      refine br_t rfl (cy_nextS h2 h7 (by omega) ?_)
      exact ih (i + 1) e _ (by omega) hz hp
theorem cy_sorted {post : Int32 → SY → Prop} (h2 : 2 ≤ n) (h7 : n ≤ 7) (hc : c ≤ 24) (hv : cn_V n c lo hi) (h1 : cn_Z n t1) (hf : cn_Z n t2) (hp : ∀ o f', cn_Z n o → cn_Z n f' → post (nI ((List.range' 0 (cn_fac n)).countP (fun i => cn_qs n c lo hi (cn_Y n i)))) (nI n, nI c, lo, hi, g, o, f', t3, t4)) : wpY_sorted post (nI n, nI c, lo, hi, g, t1, t2, t3, t4) := by
  have hN := cn_facPos n
  obtain ⟨d, ed⟩ : ∃ d, cn_fac n = d + 1 := ⟨cn_fac n - 1, by omega⟩
  unfold wpY_sorted
  dsimp only
  refine cy_first h2 h7 h1 ?_
  dsimp only
  refine ⟨d + 2, cy_sorted8 h2 h7 hc hv d 0 0 t2 (by omega) hf ?_⟩
  rw [← ed]
  simpa only [Nat.zero_add] using hp
theorem cy_ranks32 {post : Int32 → SY → Prop} (h2 : 2 ≤ n) (h7 : n ≤ 7) (hc : c ≤ 24) (hv : cn_V n c lo hi) {w : Nat} (hw : w < n) (r : Int32) : ∀ (d i e : Nat) (f : Nat → Int32), i + (d + 1) = cn_fac n → cn_Z n f → (∀ o f', cn_Z n o → cn_Z n f' → post (nI (e + (List.range' i (d + 1)).countP (fun i => cn_qr c lo hi w r (cn_Y n i)))) (nI n, nI c, lo, hi, g, o, f', t3, t4)) → wY_ranks_32 post (nI w) r (d + 2) (nI e) 1 (nI n) (nI c) lo hi g (cn_ar (cn_Y n i)) f t3 t4 := by
  have cw := cn_cl hw h7
  have iw : vp_in (nI w) 7 := vp_in_nI (by omega) (by omega)
  intro d
  induction d with
  | zero =>
    intro i e f hd hf hp
    have hi0 := cn_YZ h2 h7 (i := i) (by omega)
    have hz := cn_runZ h7 hv c 0 _ (by omega) hi0
    refine br_f (by decide) (cy_pass h7 hc hv hi0 hf ?_)
    dsimp only
    refine ⟨iw, ?_⟩
    simp only [cn_cnt] at hp
    by_cases h : cn_run lo hi c 0 (cn_ar (cn_Y n i)) w = r
    · have q : cn_qr c lo hi w r (cn_Y n i) = true := decide_eq_true h
      simp only [if_pos q] at hp
      refine br_t (by rw [cw]; exact h) (nm_r (nI_1 e) (cy_nextE h2 h7 hd ?_))
      exact br_t rfl (hp _ _ hi0 hz)
    · have q : ¬ cn_qr c lo hi w r (cn_Y n i) = true := by rw [cn_qr, decide_eq_false h]; decide
      simp only [if_neg q] at hp
      refine br_f (by rw [cw]; exact h) (cy_nextE h2 h7 hd ?_)
      exact br_t rfl (hp _ _ hi0 hz)
  | succ d ih =>
    intro i e f hd hf hp
    have hi0 := cn_YZ h2 h7 (i := i) (by omega)
    have hz := cn_runZ h7 hv c 0 _ (by omega) hi0
    refine br_f (by decide) (cy_pass h7 hc hv hi0 hf ?_)
    dsimp only
    refine ⟨iw, ?_⟩
    rw [cn_cnt] at hp
    by_cases h : cn_run lo hi c 0 (cn_ar (cn_Y n i)) w = r
    · have q : cn_qr c lo hi w r (cn_Y n i) = true := decide_eq_true h
      simp only [if_pos q, ← Nat.add_assoc] at hp
      refine br_t (by rw [cw]; exact h) (nm_r (nI_1 e) (cy_nextS h2 h7 (by omega) ?_))
      exact ih (i + 1) (e + 1) _ (by omega) hz hp
    · have q : ¬ cn_qr c lo hi w r (cn_Y n i) = true := by rw [cn_qr, decide_eq_false h]; decide
      simp only [if_neg q, Nat.zero_add] at hp
      refine br_f (by rw [cw]; exact h) (cy_nextS h2 h7 (by omega) ?_)
      exact ih (i + 1) e _ (by omega) hz hp
theorem cy_below27 {post : Int32 → SY → Prop} (h2 : 2 ≤ n) (h7 : n ≤ 7) (hc : c ≤ 24) (hv : cn_V n c lo hi) {v w : Nat} (hvn : v < n) (hw : w < n) : ∀ (d i e : Nat) (f : Nat → Int32), i + (d + 1) = cn_fac n → cn_Z n f → (∀ o f', cn_Z n o → cn_Z n f' → post (nI (e + (List.range' i (d + 1)).countP (fun i => cn_qb c lo hi v w (cn_Y n i)))) (nI n, nI c, lo, hi, g, o, f', t3, t4)) → wY_below_27 post (nI v) (nI w) (d + 2) (nI e) 1 (nI n) (nI c) lo hi g (cn_ar (cn_Y n i)) f t3 t4 := by
  have cw := cn_cl hw h7
  have cv := cn_cl hvn h7
  have iw : vp_in (nI w) 7 := vp_in_nI (by omega) (by omega)
  have iv : vp_in (nI v) 7 := vp_in_nI (by omega) (by omega)
  intro d
  induction d with
  | zero =>
    intro i e f hd hf hp
    have hi0 := cn_YZ h2 h7 (i := i) (by omega)
    have hz := cn_runZ h7 hv c 0 _ (by omega) hi0
    refine br_f (by decide) (cy_pass h7 hc hv hi0 hf ?_)
    dsimp only
    refine ⟨iv, iw, ?_⟩
    simp only [cn_cnt] at hp
    by_cases h : cn_run lo hi c 0 (cn_ar (cn_Y n i)) w ≤ cn_run lo hi c 0 (cn_ar (cn_Y n i)) v
    · have q : ¬ cn_qb c lo hi v w (cn_Y n i) = true := by rw [cn_qb, decide_eq_false (not_not_intro h)]; decide
      simp only [if_neg q] at hp
      refine br_t (by rw [cw, cv]; exact h) (cy_nextE h2 h7 hd ?_)
      exact br_t rfl (hp _ _ hi0 hz)
    · have q : cn_qb c lo hi v w (cn_Y n i) = true := decide_eq_true h
      simp only [if_pos q] at hp
      refine br_f (by rw [cw, cv]; exact h) (nm_r (nI_1 e) (cy_nextE h2 h7 hd ?_))
      exact br_t rfl (hp _ _ hi0 hz)
  | succ d ih =>
    intro i e f hd hf hp
    have hi0 := cn_YZ h2 h7 (i := i) (by omega)
    have hz := cn_runZ h7 hv c 0 _ (by omega) hi0
    refine br_f (by decide) (cy_pass h7 hc hv hi0 hf ?_)
    dsimp only
    refine ⟨iv, iw, ?_⟩
    rw [cn_cnt] at hp
    by_cases h : cn_run lo hi c 0 (cn_ar (cn_Y n i)) w ≤ cn_run lo hi c 0 (cn_ar (cn_Y n i)) v
    · have q : ¬ cn_qb c lo hi v w (cn_Y n i) = true := by rw [cn_qb, decide_eq_false (not_not_intro h)]; decide
      simp only [if_neg q, Nat.zero_add] at hp
      refine br_t (by rw [cw, cv]; exact h) (cy_nextS h2 h7 (by omega) ?_)
      exact ih (i + 1) e _ (by omega) hz hp
    · have q : cn_qb c lo hi v w (cn_Y n i) = true := decide_eq_true h
      simp only [if_pos q, ← Nat.add_assoc] at hp
      refine br_f (by rw [cw, cv]; exact h) (nm_r (nI_1 e) (cy_nextS h2 h7 (by omega) ?_))
      exact ih (i + 1) (e + 1) _ (by omega) hz hp
theorem cy_works61 {post : Int32 → SY → Prop} {J : Int32 → Int32 → Int32 → Int32 → (Nat → Int32) → (Nat → Int32) → (Nat → Int32) → (Nat → Int32) → (Nat → Int32) → (Nat → Int32) → (Nat → Int32) → Prop} (h7 : n ≤ 7) (hc : c ≤ 24) (hv : cn_V n c lo hi) {k e : Nat} (hk : k < c) : ∀ (d m : Nat) (f : Nat → Int32) (z : Int32), m + (d + 1) = k + 1 → wY_works_89 post J (nI k) (nI (e + cn_E lo hi k (cn_run lo hi d m f))) (nI n) (nI c) lo hi g t1 (cn_run lo hi (d + 1) m f) t3 t4 → wY_works_61 post J (nI k) (nI e) (d + 2) z (nI m) (nI n) (nI c) lo hi g t1 f t3 t4 := by
  intro d
  induction d with
  | zero =>
    intro m f z hm hp
    have em : m = k := by omega
    subst em
    refine br_f (nI_nlt (by omega) (by omega)) (cy_compare h7 hc hv hk ?_)
    dsimp only
    refine nm_r (nI_1 m) (br_t (nI_lt (by omega) (by omega)) ?_)
    have hq : wY_works_89 post J (nI m) (nI (e + cn_E lo hi m f)) (nI n) (nI c) lo hi g t1 (cn_S lo hi m f) t3 t4 := hp
    rcases cn_E01 lo hi m f with h | h
    · rw [h] at hq ⊢
      exact br_t rfl hq
    · rw [h] at hq ⊢
      exact br_f (by decide) (nm_r (nI_1 e) hq)
  | succ d ih =>
    intro m f z hm hp
    refine br_f (nI_nlt (by omega) (by omega)) (cy_compare h7 hc hv (by omega) ?_)
    dsimp only
    exact nm_r (nI_1 m) (ih (m + 1) _ _ (by omega) hp)
theorem cy_works19 {post : Int32 → SY → Prop} (h2 : 2 ≤ n) (h7 : n ≤ 7) (hc : c ≤ 24) (hv : cn_V n c lo hi) {k : Nat} (hk : k < c) : ∀ (d i e : Nat) (f : Nat → Int32), i + (d + 1) = cn_fac n → cn_Z n f → (∀ o f', cn_Z n o → cn_Z n f' → post (nI (e + (List.range' i (d + 1)).countP (fun i => cn_qw lo hi k (cn_Y n i)))) (nI n, nI c, lo, hi, g, o, f', t3, t4)) → wY_works_19 post (nI k) (d + 2) (nI e) 1 (nI n) (nI c) lo hi g (cn_ar (cn_Y n i)) f t3 t4 := by
  have hq : ∀ l, (if cn_qw lo hi k l = true then 1 else 0) = cn_E lo hi k (cn_run lo hi k 0 (cn_ar l)) := by
    intro l
    rw [cn_qw]
    rcases cn_E01 lo hi k (cn_run lo hi k 0 (cn_ar l)) with h | h
    · rw [h]; rfl
    · rw [h]; rfl
  intro d
  induction d with
  | zero =>
    intro i e f hd hf hp
    have hi0 := cn_YZ h2 h7 (i := i) (by omega)
    have hz := cn_runZ h7 hv (k + 1) 0 _ (by omega) hi0
    simp only [cn_cnt, hq] at hp
    refine br_f (by decide) (cy_copy_works h7 f hi0 hf ⟨k + 2, cy_works61 h7 hc hv hk k 0 _ 0 (by omega) ?_⟩)
    refine cy_nextE h2 h7 hd ?_
    exact br_t rfl (hp _ _ hi0 hz)
  | succ d ih =>
    intro i e f hd hf hp
    have hi0 := cn_YZ h2 h7 (i := i) (by omega)
    have hz := cn_runZ h7 hv (k + 1) 0 _ (by omega) hi0
    rw [cn_cnt] at hp
    simp only [hq, ← Nat.add_assoc] at hp
    refine br_f (by decide) (cy_copy_works h7 f hi0 hf ⟨k + 2, cy_works61 h7 hc hv hk k 0 _ 0 (by omega) ?_⟩)
    refine cy_nextS h2 h7 (by omega) ?_
    exact ih (i + 1) _ _ (by omega) hz hp
theorem cy_idle21 {post : Int32 → SY → Prop} {J : Int32 → Int32 → Int32 → Int32 → (Nat → Int32) → (Nat → Int32) → (Nat → Int32) → (Nat → Int32) → (Nat → Int32) → (Nat → Int32) → (Nat → Int32) → Prop} (h2 : 2 ≤ n) (h7 : n ≤ 7) (hc : c ≤ 24) (hv : cn_V n c lo hi) {k : Nat} (hk : k < c) {x1 : Int32} : ∀ (d i : Nat) (f f' : Nat → Int32), i + (d + 1) = cn_fac n → cn_Z n f → cn_Z n f' → (∀ o f f', cn_Z n o → cn_Z n f → cn_Z n f' → wY_idle_45 post J x1 (nI k) (if (List.range' i (d + 1)).all (fun i => cn_qi n c lo hi k (cn_Y n i)) = true then 1 else 0) (nI n) (nI c) lo hi g o f f' t4) → wY_idle_21 post J x1 (nI k) (d + 2) 1 1 (nI n) (nI c) lo hi g (cn_ar (cn_Y n i)) f f' t4 := by
  intro d
  induction d with
  | zero =>
    intro i f f' hd hf hf' hp
    have hi0 := cn_YZ h2 h7 (i := i) (by omega)
    have hz := cn_runZ h7 hv c 0 _ (by omega) hi0
    have hz2 := cn_runZ h7 hv (c - (k + 1)) (k + 1) _ (by omega) (cn_runZ h7 hv k 0 _ (by omega) hi0)
    refine br_f (by decide) (br_f (by decide) (cy_same h7 hc hv hi0 hf hf' hk ?_))
    dsimp only
    refine cy_nextE h2 h7 hd ?_
    have hq : (List.range' i 1).all (fun i => cn_qi n c lo hi k (cn_Y n i)) = cn_qi n c lo hi k (cn_Y n i) := by
      rw [List.range'_succ, List.all_cons]
      exact Bool.and_true _
    rw [hq] at hp
    exact br_t rfl (hp _ _ _ hi0 hz2 hz)
  | succ d ih =>
    intro i f f' hd hf hf' hp
    have hi0 := cn_YZ h2 h7 (i := i) (by omega)
    have hi1 := cn_YZ h2 h7 (i := i + 1) (by omega)
    have hz := cn_runZ h7 hv c 0 _ (by omega) hi0
    have hz2 := cn_runZ h7 hv (c - (k + 1)) (k + 1) _ (by omega) (cn_runZ h7 hv k 0 _ (by omega) hi0)
    refine br_f (by decide) (br_f (by decide) (cy_same h7 hc hv hi0 hf hf' hk ?_))
    dsimp only
    refine cy_nextS h2 h7 (by omega) ?_
    rw [List.range'_succ, List.all_cons] at hp
    by_cases h : cn_qi n c lo hi k (cn_Y n i) = true
    · rw [if_pos (show cn_same n 0 (cn_run lo hi c 0 (cn_ar (cn_Y n i))) (cn_run lo hi (c - (k + 1)) (k + 1) (cn_run lo hi k 0 (cn_ar (cn_Y n i)))) = true from h)]
      simp only [h, Bool.true_and] at hp
      exact ih (i + 1) _ _ (by omega) hz2 hz hp
    · rw [if_neg (show ¬ cn_same n 0 (cn_run lo hi c 0 (cn_ar (cn_Y n i))) (cn_run lo hi (c - (k + 1)) (k + 1) (cn_run lo hi k 0 (cn_ar (cn_Y n i)))) = true from h)]
      rw [Bool.not_eq_true] at h
      simp only [h, Bool.false_and] at hp
      exact br_f (by decide) (br_t rfl (hp _ _ _ hi1 hz2 hz))
theorem cy_idle4 {post : Int32 → SY → Prop} (h2 : 2 ≤ n) (h7 : n ≤ 7) (hc : c ≤ 24) (hv : cn_V n c lo hi) : ∀ (d k e : Nat) (o f f' : Nat → Int32), k + d = c → cn_Z n o → cn_Z n f → cn_Z n f' → (∀ o f f', cn_Z n o → cn_Z n f → cn_Z n f' → post (nI (e + (List.range' k d).countP (fun k => (List.range' 0 (cn_fac n)).all (fun i => cn_qi n c lo hi k (cn_Y n i))))) (nI n, nI c, lo, hi, g, o, f, f', t4)) → wY_idle_4 post (d + 1) (nI e) (nI k) (nI n) (nI c) lo hi g o f f' t4 := by
  have hN := cn_facPos n
  obtain ⟨N, eN⟩ : ∃ N, cn_fac n = N + 1 := ⟨cn_fac n - 1, by omega⟩
  intro d
  induction d with
  | zero => intro k e o f f' hk ho hf hf' hp; exact br_t (nI_le (by omega) (by omega)) (hp o f f' ho hf hf')
  | succ d ih =>
    intro k e o f f' hk ho hf hf' hp
    refine br_f (nI_ge (by omega) (by omega)) (cy_first h2 h7 ho ?_)
    dsimp only
    refine ⟨N + 2, cy_idle21 h2 h7 hc hv (by omega) N 0 f f' (by omega) hf hf' ?_⟩
    rw [← eN]
    intro o' p p' z1 z2 z3
    simp only [cn_cnt] at hp
    by_cases h : (List.range' 0 (cn_fac n)).all (fun i => cn_qi n c lo hi k (cn_Y n i)) = true
    · simp only [if_pos h, ← Nat.add_assoc] at hp
      rw [if_pos h]
      exact br_f (by decide) (nm_r (nI_1 e) (nm_r (nI_1 k) (ih (k + 1) (e + 1) _ _ _ (by omega) z1 z2 z3 hp)))
    · simp only [if_neg h, Nat.zero_add] at hp
      rw [if_neg h]
      exact br_t rfl (nm_r (nI_1 k) (ih (k + 1) e _ _ _ (by omega) z1 z2 z3 hp))
theorem cy_mx {m r : Int32} : cn_mx m r = if r ≤ m then m else r := by
  unfold cn_mx
  by_cases h : m ≤ r
  · rw [if_pos h]
    by_cases h' : r ≤ m
    · rw [if_pos h']; exact Int32.le_antisymm h' h
    · rw [if_neg h']
  · rw [if_neg h, if_pos (Int32.le_of_lt (Int32.not_le.mp h))]
theorem cy_rounds27 {post : Int32 → SY → Prop} (h7 : n ≤ 7) (hc : c ≤ 24) (hv : cn_V n c lo hi) : ∀ (d k : Nat) (f : Nat → Int32) (m : Int32), k + d = c → cn_Z n f → (∀ f', cn_Z n f' → post (cn_rd lo hi d k f m) (nI n, nI c, lo, hi, g, t1, t2, t3, f')) → wY_rounds_27 post (nI n) (nI c) (d + 1) m (nI k) lo hi g t1 t2 t3 f := by
  intro d
  induction d with
  | zero => intro k f m hk hf hp; exact br_t (nI_le (by omega) (by omega)) (hp f hf)
  | succ d ih =>
    intro k f m hk hf hp
    obtain ⟨a, b, ha, hb, ea, eb⟩ := hv k (by omega)
    have ca := cn_cl ha h7
    have cb := cn_cl hb h7
    have ck : (nI k).toNatClampNeg = k := nI_clamp (by omega)
    have ik : vp_in (nI k) 24 := vp_in_nI (by omega) (by omega)
    have ia : vp_in (nI a) 7 := vp_in_nI (by omega) (by omega)
    have ib : vp_in (nI b) 7 := vp_in_nI (by omega) (by omega)
    have hq : ∀ f', cn_Z n f' → post (cn_rd lo hi d (k + 1) (upd (upd f (lo k).toNatClampNeg (1 + cn_mx (f (lo k).toNatClampNeg) (f (hi k).toNatClampNeg))) (hi k).toNatClampNeg (1 + cn_mx (f (lo k).toNatClampNeg) (f (hi k).toNatClampNeg))) (cn_mx m (1 + cn_mx (f (lo k).toNatClampNeg) (f (hi k).toNatClampNeg)))) (nI n, nI c, lo, hi, g, t1, t2, t3, f') := hp
    rw [ea, eb, ca, cb] at hq
    have fin : ∀ r : Int32, r = 1 + cn_mx (f a) (f b) → wY_rounds_86 post (wY_rounds_27 post (nI n) (nI c) (d + 1)) m (nI k) (nI a) (nI b) r (nI n) (nI c) lo hi g t1 t2 t3 f := by
      intro r er
      rw [← er, cy_mx (m := m)] at hq
      have hz : cn_Z n (upd (upd f a r) b r) := cn_updZ (cn_updZ hf ha) hb
      refine ⟨ia, nm_r (e' := upd f a r) (by rw [ca]) ⟨ib, nm_r (e' := upd (upd f a r) b r) (by rw [cb]) ?_⟩⟩
      by_cases h : r ≤ m
      · rw [if_pos h] at hq
        exact br_t h (nm_r (nI_1 k) (ih (k + 1) _ _ (by omega) hz hq))
      · rw [if_neg h] at hq
        exact br_f h (nm_r (nI_1 k) (ih (k + 1) _ _ (by omega) hz hq))
    refine br_f (nI_ge (by omega) (by omega)) ⟨ik, nm_r (e' := nI a) (by rw [ck]; exact ea) ⟨ik, nm_r (e' := nI b) (by rw [ck]; exact eb) ⟨ia, ib, ?_⟩⟩⟩
    rw [ca, cb]
    by_cases h : f a ≤ f b
    · exact br_t h ⟨ib, fin _ (by rw [cn_mx, if_pos h, Int32.add_comm])⟩
    · exact br_f h ⟨ia, fin _ (by rw [cn_mx, if_neg h, Int32.add_comm])⟩
theorem cy_rounds2 {post : Int32 → SY → Prop} (h7 : n ≤ 7) (hc : c ≤ 24) (hv : cn_V n c lo hi) (hp : ∀ f', cn_Z n f' → post (cn_rd lo hi c 0 (fun _ => 0) 0) (nI n, nI c, lo, hi, g, t1, t2, t3, f')) : ∀ (d k : Nat) (f : Nat → Int32), k + d = n → (∀ j, j < k → f j = 0) → cn_Z n f → wY_rounds_2 post (nI n) (nI c) (d + 1) (nI k) lo hi g t1 t2 t3 f := by
  intro d
  induction d with
  | zero =>
    intro k f hk h1 h2
    have e : f = (fun _ => 0) := by
      funext j
      by_cases hj : j < k
      · exact h1 j hj
      · exact h2 j (by omega)
    subst e
    exact br_t (nI_le (by omega) (by omega)) ⟨c + 1, cy_rounds27 h7 hc hv c 0 _ 0 (by omega) h2 hp⟩
  | succ d ih =>
    intro k f hk h1 h2
    have ck : (nI k).toNatClampNeg = k := nI_clamp (by omega)
    have ik : vp_in (nI k) 7 := vp_in_nI (by omega) (by omega)
    refine br_f (nI_ge (by omega) (by omega)) ⟨ik, nm_r (e' := upd f k 0) (by rw [ck]) (nm_r (nI_1 k) (ih (k + 1) _ (by omega) ?_ (cn_updZ h2 (by omega))))⟩
    intro j hj
    by_cases e : j = k
    · rw [e, pk_us]
    · rw [pk_un e]; exact h1 j (by omega)
end
end
section
/-- the same wires, comparators and inputs on both sides; of the scratch rows only that nothing stands beyond the wires -/
def i_Rel (k : Nat) (u : SX) (v : SY) : Prop := ∃ (n c : Nat) (lo hi g f1 f2 f3 t1 t2 t3 t4 : Nat → Int32), 2 ≤ n ∧ n ≤ 7 ∧ c ≤ 24 ∧ cn_V n c lo hi ∧ cn_Z n g ∧ cn_Z n f1 ∧ cn_Z n f2 ∧ cn_Z n f3 ∧ cn_Z n t1 ∧ cn_Z n t2 ∧ cn_Z n t3 ∧ cn_Z n t4 ∧ u = (nI n, nI (cn_fac n), nI c, lo, hi, g, f1, f2, f3) ∧ v = (nI n, nI c, lo, hi, g, t1, t2, t3, t4)
theorem cn_R {k n c : Nat} {lo hi g f1 f2 f3 t1 t2 t3 t4 : Nat → Int32} (h2 : 2 ≤ n) (h7 : n ≤ 7) (hc : c ≤ 24) (hv : cn_V n c lo hi) (hg : cn_Z n g) (z1 : cn_Z n f1) (z2 : cn_Z n f2) (z3 : cn_Z n f3) (z4 : cn_Z n t1) (z5 : cn_Z n t2) (z6 : cn_Z n t3) (z7 : cn_Z n t4) : i_Rel k (nI n, nI (cn_fac n), nI c, lo, hi, g, f1, f2, f3) (nI n, nI c, lo, hi, g, t1, t2, t3, t4) := ⟨n, c, lo, hi, g, f1, f2, f3, t1, t2, t3, t4, h2, h7, hc, hv, hg, z1, z2, z3, z4, z5, z6, z7, rfl, rfl⟩
theorem cn_wx (x : Int32) {n : Nat} (hn : n < 2 ^ 31) : (x < 0 ∨ nI n ≤ x) ∨ ∃ j : Nat, j < n ∧ x = nI j := by
  rcases pk_ix x hn with h | h | h
  · exact Or.inl (Or.inl h)
  · exact Or.inl (Or.inr h)
  · exact Or.inr h
theorem cn_Vadd {n c a b : Nat} {lo hi : Nat → Int32} (hv : cn_V n c lo hi) (ha : a < n) (hb : b < n) : cn_V n (c + 1) (upd lo c (nI a)) (upd hi c (nI b)) := by
  intro j hj
  by_cases e : j = c
  · exact ⟨a, b, ha, hb, by rw [e, pk_us], by rw [e, pk_us]⟩
  · obtain ⟨a', b', h1, h2, h3, h4⟩ := hv j (by omega)
    exact ⟨a', b', h1, h2, by rw [pk_un e, h3], by rw [pk_un e, h4]⟩
theorem cn_start {n : Nat} (h2 : 2 ≤ n) (h7 : n ≤ 7) : i_Rel 1 (nI n, nI (cn_fac n), 0, (fun _ => 0), (fun _ => 0), (fun _ => 0), (fun _ => 0), (fun _ => 0), (fun _ => 0)) (nI n, 0, (fun _ => 0), (fun _ => 0), (fun _ => 0), (fun _ => 0), (fun _ => 0), (fun _ => 0), (fun _ => 0)) :=
  cn_R (c := 0) h2 h7 (by omega) (fun k hk => absurd hk (by omega)) (fun _ _ => rfl) (fun _ _ => rfl) (fun _ _ => rfl) (fun _ _ => rfl) (fun _ _ => rfl) (fun _ _ => rfl) (fun _ _ => rfl) (fun _ _ => rfl)
theorem i_up {k : Nat} {u : SX} {v : SY} (h : i_Rel k u v) : i_Rel (k + 3) u v := h
theorem i_vc0 (k0 : Int32) : wpX_init (fun u => wpY_init (fun v => i_Rel 1 u v) k0) k0 := by
  by_cases a : 2 ≤ k0
  · by_cases b : k0 ≤ 7
    · have h0 : ¬ k0 < 0 := fun z => absurd (Int32.lt_of_le_of_lt a z) (by decide)
      obtain ⟨n, hn, rfl⟩ := nI_of2 (M := 7) (n := 7) (by decide) h0 b
      have h2 : 2 ≤ n := (nI_leI (a := 2) (b := n) (by omega) (by omega)).mp a
      exact br_t a (br_t b (cx_factorial h2 hn (br_t a (br_t b (cn_start h2 hn)))))
    · exact br_t a (br_f b (cx_factorial (n := 7) (by omega) (by omega) (br_t a (br_f b (cn_start (n := 7) (by omega) (by omega))))))
  · exact br_f a (br_t (by decide) (cx_factorial (n := 2) (by omega) (by omega) (br_f a (cn_start (n := 2) (by omega) (by omega)))))
theorem i_vc_add {k : Nat} {u : SX} {v : SY} (I : i_Rel k u v) (hk : k + 3 ≤ 1537) (v1 : Int32) (v2 : Int32) : wpX_add (fun r u' => wpY_add (fun r' v' => r' = r ∧ i_Rel (k + 3) u' v') v v1 v2) u v1 v2 := by
  obtain ⟨n, c, lo, hi, g, f1, f2, f3, t1, t2, t3, t4, h2, h7, hc, hv, hg, z1, z2, z3, z4, z5, z6, z7, rfl, rfl⟩ := I
  have R : i_Rel (k + 3) (nI n, nI (cn_fac n), nI c, lo, hi, g, f1, f2, f3) (nI n, nI c, lo, hi, g, t1, t2, t3, t4) := cn_R h2 h7 hc hv hg z1 z2 z3 z4 z5 z6 z7
  unfold wpX_add
  dsimp only
  rcases cn_wx v1 (n := n) (by omega) with b | ⟨i, hi', rfl⟩
  · refine cx_isW0 b (br_t rfl ?_)
    unfold wpY_add
    dsimp only
    exact cy_noW1 b (br_f (by decide) ⟨rfl, R⟩)
  · rcases cn_wx v2 (n := n) (by omega) with b | ⟨j, hj', rfl⟩
    · refine cx_isW1 hi' h7 (br_f (by decide) (cx_isW0 b (br_t rfl ?_)))
      unfold wpY_add
      dsimp only
      exact cy_noW0 hi' h7 (br_t rfl (cy_noW1 b (br_f (by decide) ⟨rfl, R⟩)))
    · refine cx_isW1 hi' h7 (br_f (by decide) (cx_isW1 hj' h7 (br_f (by decide) ?_)))
      by_cases e : nI i = nI j
      · refine br_t e ?_
        unfold wpY_add
        dsimp only
        exact cy_noW0 hi' h7 (br_t rfl (cy_noW0 hj' h7 (br_t rfl (br_t e ⟨rfl, R⟩))))
      · by_cases hc' : c < 24
        · have cc : (nI c).toNatClampNeg = c := nI_clamp (by omega)
          have ic : vp_in (nI c) 24 := vp_in_nI hc' (by omega)
          have n24 : ¬ nI c = 24 := fun z => absurd ((nI_eq (a := c) (b := 24) (by omega) (by omega)).mp z) (by omega)
          have R' : i_Rel (k + 3) (nI n, nI (cn_fac n), nI (c + 1), upd lo c (nI i), upd hi c (nI j), g, f1, f2, f3) (nI n, nI (c + 1), upd lo c (nI i), upd hi c (nI j), g, t1, t2, t3, t4) := cn_R h2 h7 (by omega) (cn_Vadd hv hi' hj') hg z1 z2 z3 z4 z5 z6 z7
          refine br_f e (br_t (nI_lt (b := 24) hc' (by omega)) ⟨ic, nm_r (e' := upd lo c (nI i)) (by rw [cc]) ⟨ic, nm_r (e' := upd hi c (nI j)) (by rw [cc]) (nm_r (nI_1 c) ?_)⟩⟩)
          unfold wpY_add
          dsimp only
          exact cy_noW0 hi' h7 (br_t rfl (cy_noW0 hj' h7 (br_t rfl (br_f e (br_f n24 ⟨ic, nm_r (e' := upd lo c (nI i)) (by rw [cc]) ⟨ic, nm_r (e' := upd hi c (nI j)) (by rw [cc]) (nm_r (nI_1 c) ⟨rfl, R'⟩)⟩⟩)))))
        · have e24 : c = 24 := by omega
          subst e24
          refine br_f e (br_f (by decide) ?_)
          unfold wpY_add
          dsimp only
          exact cy_noW0 hi' h7 (br_t rfl (cy_noW0 hj' h7 (br_t rfl (br_f e (br_t (by decide) ⟨rfl, R⟩)))))
theorem i_vc_drop {k : Nat} {u : SX} {v : SY} (I : i_Rel k u v) (hk : k + 3 ≤ 1537) (v1 : Int32) : wpX_drop (fun r u' => wpY_drop (fun r' v' => r' = r ∧ i_Rel (k + 3) u' v') v v1) u v1 := by
  obtain ⟨n, c, lo, hi, g, f1, f2, f3, t1, t2, t3, t4, h2, h7, hc, hv, hg, z1, z2, z3, z4, z5, z6, z7, rfl, rfl⟩ := I
  have R : i_Rel (k + 3) (nI n, nI (cn_fac n), nI c, lo, hi, g, f1, f2, f3) (nI n, nI c, lo, hi, g, t1, t2, t3, t4) := cn_R h2 h7 hc hv hg z1 z2 z3 z4 z5 z6 z7
  unfold wpX_drop
  dsimp only
  rcases cn_wx v1 (n := c) (by omega) with b | ⟨j, hj, rfl⟩
  · refine cx_isC0 b (br_t rfl ?_)
    unfold wpY_drop
    dsimp only
    exact cy_is0 b (br_t rfl ⟨rfl, R⟩)
  · obtain ⟨m, rfl⟩ : ∃ m, c = m + 1 := ⟨c - 1, by omega⟩
    have hV : cn_V n m (cn_dp (m - j) j lo hi).1 (cn_dp (m - j) j lo hi).2 := fun q hq => cn_dpV (m - j) j lo hi (by omega) hv q (by omega)
    refine cx_isC1 hj hc (br_f (by decide) ⟨m - j + 1, cx_drop13 hc (m - j) j lo hi (by omega) ?_⟩)
    unfold wpY_drop
    dsimp only
    exact cy_is1 hj hc (br_f (by decide) (nm_r (nI_pred m) ⟨m - j + 1, cy_drop23 hc (m - j) j lo hi (by omega) ⟨rfl, cn_R h2 h7 (by omega) hV hg z1 z2 z3 z4 z5 z6 z7⟩⟩))
theorem i_vc_swap {k : Nat} {u : SX} {v : SY} (I : i_Rel k u v) (hk : k + 3 ≤ 1537) (v1 : Int32) : wpX_swap (fun r u' => wpY_swap (fun r' v' => r' = r ∧ i_Rel (k + 3) u' v') v v1) u v1 := by
  obtain ⟨n, c, lo, hi, g, f1, f2, f3, t1, t2, t3, t4, h2, h7, hc, hv, hg, z1, z2, z3, z4, z5, z6, z7, rfl, rfl⟩ := I
  have R : i_Rel (k + 3) (nI n, nI (cn_fac n), nI c, lo, hi, g, f1, f2, f3) (nI n, nI c, lo, hi, g, t1, t2, t3, t4) := cn_R h2 h7 hc hv hg z1 z2 z3 z4 z5 z6 z7
  by_cases h0 : v1 < 0
  · exact br_t h0 (br_t h0 ⟨rfl, R⟩)
  · obtain ⟨j, hj, rfl⟩ := nI_of h0
    have hlt : nI j < nI c - 1 ↔ j + 1 < c := by
      cases c with
      | zero =>
        refine ⟨fun z => ?_, fun z => absurd z (by omega)⟩
        have := Int32.lt_iff_toInt_lt.mp z
        rw [nI_toInt hj, show (nI 0 - 1).toInt = -1 by decide] at this
        omega
      | succ m =>
        rw [nI_pred, nI_ltI hj (by omega)]
        omega
    by_cases hb : j + 1 < c
    · have cj : (nI j).toNatClampNeg = j := nI_clamp hj
      have cj1 : (nI j + 1).toNatClampNeg = j + 1 := by rw [nI_1]; exact nI_clamp (by omega)
      have ij : vp_in (nI j) 24 := vp_in_nI (by omega) (by omega)
      have ij1 : vp_in (nI j + 1) 24 := by rw [nI_1]; exact vp_in_nI (by omega) (by omega)
      obtain ⟨a, b, ha, hb1, ea, eb⟩ := hv j (by omega)
      obtain ⟨a', b', ha', hb', ea', eb'⟩ := hv (j + 1) hb
      have hV : cn_V n c (upd (upd lo j (lo (j + 1))) (j + 1) (lo j)) (upd (upd hi j (hi (j + 1))) (j + 1) (hi j)) := by
        rw [ea, eb, ea', eb']
        exact cn_Vput (cn_Vput hv ha' hb') ha hb1
      have R' : i_Rel (k + 3) (nI n, nI (cn_fac n), nI c, upd (upd lo j (lo (j + 1))) (j + 1) (lo j), upd (upd hi j (hi (j + 1))) (j + 1) (hi j), g, f1, f2, f3) (nI n, nI c, upd (upd lo j (lo (j + 1))) (j + 1) (lo j), upd (upd hi j (hi (j + 1))) (j + 1) (hi j), g, t1, t2, t3, t4) := cn_R h2 h7 hc hV hg z1 z2 z3 z4 z5 z6 z7
      exact br_f h0 (br_t (hlt.mpr hb) ⟨ij, nm_r (e' := lo j) (by rw [cj]) ⟨ij, nm_r (e' := hi j) (by rw [cj]) ⟨ij1, ij, nm_r (e' := upd lo j (lo (j + 1))) (by rw [cj, cj1]) ⟨ij1, ij, nm_r (e' := upd hi j (hi (j + 1))) (by rw [cj, cj1]) ⟨ij1, nm_r (e' := upd (upd lo j (lo (j + 1))) (j + 1) (lo j)) (by rw [cj1]) ⟨ij1, nm_r (e' := upd (upd hi j (hi (j + 1))) (j + 1) (hi j)) (by rw [cj1]) (br_f h0 (br_t (hlt.mpr hb) ⟨ij, nm_r (e' := lo j) (by rw [cj]) ⟨ij, nm_r (e' := hi j) (by rw [cj]) ⟨ij1, ij, nm_r (e' := upd lo j (lo (j + 1))) (by rw [cj, cj1]) ⟨ij1, ij, nm_r (e' := upd hi j (hi (j + 1))) (by rw [cj, cj1]) ⟨ij1, nm_r (e' := upd (upd lo j (lo (j + 1))) (j + 1) (lo j)) (by rw [cj1]) ⟨ij1, nm_r (e' := upd (upd hi j (hi (j + 1))) (j + 1) (hi j)) (by rw [cj1]) ⟨rfl, R'⟩⟩⟩⟩⟩⟩⟩))⟩⟩⟩⟩⟩⟩)
    · have hn : ¬ nI j < nI c - 1 := fun z => hb (hlt.mp z)
      exact br_f h0 (br_f hn (br_f h0 (br_f hn ⟨rfl, R⟩)))
theorem i_vc_turn {k : Nat} {u : SX} {v : SY} (I : i_Rel k u v) (hk : k + 3 ≤ 1537) : wpX_turn (fun r u' => wpY_turn (fun r' v' => r' = r ∧ i_Rel (k + 3) u' v') v) u := by
  obtain ⟨n, c, lo, hi, g, f1, f2, f3, t1, t2, t3, t4, h2, h7, hc, hv, hg, z1, z2, z3, z4, z5, z6, z7, rfl, rfl⟩ := I
  exact ⟨c + 1, cx_turn2 hc c 0 lo hi (by omega) ⟨c + 1, cy_turn2 hc c 0 lo hi (by omega) ⟨rfl, cn_R h2 h7 hc (cn_tnV c 0 lo hi (by omega) hv) hg z1 z2 z3 z4 z5 z6 z7⟩⟩⟩
theorem i_vc_size {k : Nat} {u : SX} {v : SY} (I : i_Rel k u v) (hk : k + 3 ≤ 1537) : wpX_size (fun r => wpY_size (fun r' => r' = r ∧ i_Rel (k + 3) u v) v) u := by
  obtain ⟨n, c, lo, hi, g, f1, f2, f3, t1, t2, t3, t4, h2, h7, hc, hv, hg, z1, z2, z3, z4, z5, z6, z7, rfl, rfl⟩ := I
  have R : i_Rel (k + 3) (nI n, nI (cn_fac n), nI c, lo, hi, g, f1, f2, f3) (nI n, nI c, lo, hi, g, t1, t2, t3, t4) := cn_R h2 h7 hc hv hg z1 z2 z3 z4 z5 z6 z7
  exact ⟨rfl, R⟩
theorem i_vc_input {k : Nat} {u : SX} {v : SY} (I : i_Rel k u v) (hk : k + 3 ≤ 1537) (v1 : Int32) (v2 : Int32) : wpX_input (fun r u' => wpY_input (fun r' v' => r' = r ∧ i_Rel (k + 3) u' v') v v1 v2) u v1 v2 := by
  obtain ⟨n, c, lo, hi, g, f1, f2, f3, t1, t2, t3, t4, h2, h7, hc, hv, hg, z1, z2, z3, z4, z5, z6, z7, rfl, rfl⟩ := I
  have R : i_Rel (k + 3) (nI n, nI (cn_fac n), nI c, lo, hi, g, f1, f2, f3) (nI n, nI c, lo, hi, g, t1, t2, t3, t4) := cn_R h2 h7 hc hv hg z1 z2 z3 z4 z5 z6 z7
  unfold wpX_input
  dsimp only
  rcases cn_wx v1 (n := n) (by omega) with b | ⟨i, hi', rfl⟩
  · refine cx_isW0 b (br_t rfl ?_)
    unfold wpY_input
    dsimp only
    exact cy_noW1 b (br_f (by decide) ⟨rfl, R⟩)
  · have ci := cn_cl hi' h7
    have ii : vp_in (nI i) 7 := vp_in_nI (by omega) (by omega)
    refine cx_isW1 hi' h7 (br_f (by decide) ⟨ii, nm_r (e' := upd g i v2) (by rw [ci]) ?_⟩)
    unfold wpY_input
    dsimp only
    exact cy_noW0 hi' h7 (br_t rfl ⟨ii, nm_r (e' := upd g i v2) (by rw [ci]) ⟨rfl, cn_R h2 h7 hc hv (cn_updZ hg hi') z1 z2 z3 z4 z5 z6 z7⟩⟩)
theorem i_vc_output {k : Nat} {u : SX} {v : SY} (I : i_Rel k u v) (hk : k + 3 ≤ 1537) (v1 : Int32) : wpX_output (fun r u' => wpY_output (fun r' v' => r' = r ∧ i_Rel (k + 3) u' v') v v1) u v1 := by
  obtain ⟨n, c, lo, hi, g, f1, f2, f3, t1, t2, t3, t4, h2, h7, hc, hv, hg, z1, z2, z3, z4, z5, z6, z7, rfl, rfl⟩ := I
  have R : i_Rel (k + 3) (nI n, nI (cn_fac n), nI c, lo, hi, g, f1, f2, f3) (nI n, nI c, lo, hi, g, t1, t2, t3, t4) := cn_R h2 h7 hc hv hg z1 z2 z3 z4 z5 z6 z7
  have hz := cn_runZ h7 hv c 0 _ (by omega) hg
  unfold wpX_output
  dsimp only
  rcases cn_wx v1 (n := n) (by omega) with b | ⟨w, hw, rfl⟩
  · refine cx_isW0 b (br_t rfl ?_)
    unfold wpY_output
    dsimp only
    exact cy_noW1 b (br_f (by decide) ⟨rfl, R⟩)
  · have cw := cn_cl hw h7
    refine cx_isW1 hw h7 (br_f (by decide) (cx_copy_inputs_numbers h7 f1 hg z1 ?_))
    dsimp only
    refine cx_run_numbers h7 hc hv 0 c c (by omega) (by omega) _ ?_
    dsimp only
    refine ⟨vp_in_nI (by omega) (by omega), ?_⟩
    rw [cw]
    unfold wpY_output
    dsimp only
    exact cy_noW0 hw h7 (br_t rfl (cy_copy_output h7 t2 hg z5 ⟨c + 1, cy_out40 h7 hc hv hw c 0 g (by omega) ⟨rfl, cn_R h2 h7 hc hv hg hz z2 z3 z4 hz z6 z7⟩⟩))
theorem i_vc_exchanges {k : Nat} {u : SX} {v : SY} (I : i_Rel k u v) (hk : k + 3 ≤ 1537) : wpX_exchanges (fun r u' => wpY_exchanges (fun r' v' => r' = r ∧ i_Rel (k + 3) u' v') v) u := by
  obtain ⟨n, c, lo, hi, g, f1, f2, f3, t1, t2, t3, t4, h2, h7, hc, hv, hg, z1, z2, z3, z4, z5, z6, z7, rfl, rfl⟩ := I
  have hz := cn_runZ h7 hv c 0 _ (by omega) hg
  unfold wpX_exchanges
  dsimp only
  refine cx_copy_inputs_numbers h7 f1 hg z1 ?_
  dsimp only
  refine cx_run_numbers h7 hc hv 0 c c (by omega) (by omega) _ ?_
  dsimp only
  refine cy_copy_exchanges h7 t2 hg z5 ⟨c + 1, cy_exc32 h7 hc hv c 0 0 g (by omega) ⟨?_, cn_R h2 h7 hc hv hg hz z2 z3 z4 hz z6 z7⟩⟩
  rw [Nat.zero_add]
theorem i_vc_sorts {k : Nat} {u : SX} {v : SY} (I : i_Rel k u v) (hk : k + 3 ≤ 1537) : wpX_sorts (fun r u' => wpY_sorts (fun r' v' => r' = r ∧ i_Rel (k + 3) u' v') v) u := by
  obtain ⟨n, c, lo, hi, g, f1, f2, f3, t1, t2, t3, t4, h2, h7, hc, hv, hg, z1, z2, z3, z4, z5, z6, z7, rfl, rfl⟩ := I
  have hN := cn_count h2 h7 (cn_qs n c lo hi)
  unfold wpX_sorts
  dsimp only
  refine cx_sorted h7 hc hv z1 ?_
  intro f' hf'
  dsimp only
  by_cases e : nI ((List.range' 0 (cn_fac n)).countP (fun i => cn_qs n c lo hi (cn_X n i))) = nI (cn_fac n)
  · refine br_t e ?_
    unfold wpY_sorts
    dsimp only
    refine cy_all h2 h7 (cy_sorted h2 h7 hc hv z4 z5 ?_)
    intro o p zo zp
    dsimp only
    rw [hN]
    exact br_t e ⟨rfl, cn_R h2 h7 hc hv hg hf' z2 z3 zo zp z6 z7⟩
  · refine br_f e ?_
    unfold wpY_sorts
    dsimp only
    refine cy_all h2 h7 (cy_sorted h2 h7 hc hv z4 z5 ?_)
    intro o p zo zp
    dsimp only
    rw [hN]
    exact br_f e ⟨rfl, cn_R h2 h7 hc hv hg hf' z2 z3 zo zp z6 z7⟩
theorem i_vc_sorted {k : Nat} {u : SX} {v : SY} (I : i_Rel k u v) (hk : k + 3 ≤ 1537) : wpX_sorted (fun r u' => wpY_sorted (fun r' v' => r' = r ∧ i_Rel (k + 3) u' v') v) u := by
  obtain ⟨n, c, lo, hi, g, f1, f2, f3, t1, t2, t3, t4, h2, h7, hc, hv, hg, z1, z2, z3, z4, z5, z6, z7, rfl, rfl⟩ := I
  have hN := cn_count h2 h7 (cn_qs n c lo hi)
  refine cx_sorted h7 hc hv z1 ?_
  intro f' hf'
  refine cy_sorted h2 h7 hc hv z4 z5 ?_
  intro o p zo zp
  rw [hN]
  exact ⟨rfl, cn_R h2 h7 hc hv hg hf' z2 z3 zo zp z6 z7⟩
theorem i_vc_ranks {k : Nat} {u : SX} {v : SY} (I : i_Rel k u v) (hk : k + 3 ≤ 1537) (v1 : Int32) (v2 : Int32) : wpX_ranks (fun r u' => wpY_ranks (fun r' v' => r' = r ∧ i_Rel (k + 3) u' v') v v1 v2) u v1 v2 := by
  obtain ⟨n, c, lo, hi, g, f1, f2, f3, t1, t2, t3, t4, h2, h7, hc, hv, hg, z1, z2, z3, z4, z5, z6, z7, rfl, rfl⟩ := I
  have R : i_Rel (k + 3) (nI n, nI (cn_fac n), nI c, lo, hi, g, f1, f2, f3) (nI n, nI c, lo, hi, g, t1, t2, t3, t4) := cn_R h2 h7 hc hv hg z1 z2 z3 z4 z5 z6 z7
  unfold wpX_ranks
  dsimp only
  rcases cn_wx v1 (n := n) (by omega) with b | ⟨w, hw, rfl⟩
  · refine cx_isW0 b (br_t rfl ?_)
    unfold wpY_ranks
    dsimp only
    exact cy_noW1 b (br_f (by decide) ⟨rfl, R⟩)
  · refine cx_isW1 hw h7 (br_f (by decide) ?_)
    by_cases e1 : v2 < 1
    · refine br_t e1 ?_
      unfold wpY_ranks
      dsimp only
      exact cy_noW0 hw h7 (br_t rfl (br_t e1 ⟨rfl, R⟩))
    · by_cases e2 : v2 ≤ nI n
      · have hN := cn_count h2 h7 (cn_qr c lo hi w v2)
        refine br_f e1 (br_t e2 ⟨cn_fac n + 1, cx_ranks28 h7 hc hv hw v2 (cn_fac n) 0 0 f1 (by omega) z1 ?_⟩)
        intro f' hf'
        unfold wpY_ranks
        dsimp only
        refine cy_noW0 hw h7 (br_t rfl (br_f e1 (br_t e2 (cy_first h2 h7 z4 ?_))))
        obtain ⟨d, ed⟩ : ∃ d, cn_fac n = d + 1 := ⟨cn_fac n - 1, by have := cn_facPos n; omega⟩
        refine ⟨d + 2, cy_ranks32 h2 h7 hc hv hw v2 d 0 0 t2 (by omega) z5 ?_⟩
        intro o p zo zp
        rw [← ed, hN]
        exact ⟨rfl, cn_R h2 h7 hc hv hg hf' z2 z3 zo zp z6 z7⟩
      · refine br_f e1 (br_f e2 ?_)
        unfold wpY_ranks
        dsimp only
        exact cy_noW0 hw h7 (br_t rfl (br_f e1 (br_f e2 ⟨rfl, R⟩)))
theorem i_vc_works {k : Nat} {u : SX} {v : SY} (I : i_Rel k u v) (hk : k + 3 ≤ 1537) (v1 : Int32) : wpX_works (fun r u' => wpY_works (fun r' v' => r' = r ∧ i_Rel (k + 3) u' v') v v1) u v1 := by
  obtain ⟨n, c, lo, hi, g, f1, f2, f3, t1, t2, t3, t4, h2, h7, hc, hv, hg, z1, z2, z3, z4, z5, z6, z7, rfl, rfl⟩ := I
  have R : i_Rel (k + 3) (nI n, nI (cn_fac n), nI c, lo, hi, g, f1, f2, f3) (nI n, nI c, lo, hi, g, t1, t2, t3, t4) := cn_R h2 h7 hc hv hg z1 z2 z3 z4 z5 z6 z7
  unfold wpX_works
  dsimp only
  rcases cn_wx v1 (n := c) (by omega) with b | ⟨j, hj, rfl⟩
  · refine cx_isC0 b (br_t rfl ?_)
    unfold wpY_works
    dsimp only
    exact cy_is0 b (br_t rfl ⟨rfl, R⟩)
  · have hN := cn_count h2 h7 (cn_qw lo hi j)
    refine cx_isC1 hj hc (br_f (by decide) ⟨cn_fac n + 1, cx_works15 h7 hc hv hj (cn_fac n) 0 0 f1 (by omega) z1 ?_⟩)
    intro f' hf'
    unfold wpY_works
    dsimp only
    refine cy_is1 hj hc (br_f (by decide) (cy_first h2 h7 z4 ?_))
    obtain ⟨d, ed⟩ : ∃ d, cn_fac n = d + 1 := ⟨cn_fac n - 1, by have := cn_facPos n; omega⟩
    refine ⟨d + 2, cy_works19 h2 h7 hc hv hj d 0 0 t2 (by omega) z5 ?_⟩
    intro o p zo zp
    rw [← ed, hN]
    exact ⟨rfl, cn_R h2 h7 hc hv hg hf' z2 z3 zo zp z6 z7⟩
theorem i_vc_below {k : Nat} {u : SX} {v : SY} (I : i_Rel k u v) (hk : k + 3 ≤ 1537) (v1 : Int32) (v2 : Int32) : wpX_below (fun r u' => wpY_below (fun r' v' => r' = r ∧ i_Rel (k + 3) u' v') v v1 v2) u v1 v2 := by
  obtain ⟨n, c, lo, hi, g, f1, f2, f3, t1, t2, t3, t4, h2, h7, hc, hv, hg, z1, z2, z3, z4, z5, z6, z7, rfl, rfl⟩ := I
  have R : i_Rel (k + 3) (nI n, nI (cn_fac n), nI c, lo, hi, g, f1, f2, f3) (nI n, nI c, lo, hi, g, t1, t2, t3, t4) := cn_R h2 h7 hc hv hg z1 z2 z3 z4 z5 z6 z7
  unfold wpX_below
  dsimp only
  rcases cn_wx v1 (n := n) (by omega) with b | ⟨i, hi', rfl⟩
  · refine cx_isW0 b (br_t rfl ?_)
    unfold wpY_below
    dsimp only
    exact cy_noW1 b (br_f (by decide) ⟨rfl, R⟩)
  · rcases cn_wx v2 (n := n) (by omega) with b | ⟨j, hj', rfl⟩
    · refine cx_isW1 hi' h7 (br_f (by decide) (cx_isW0 b (br_t rfl ?_)))
      unfold wpY_below
      dsimp only
      exact cy_noW0 hi' h7 (br_t rfl (cy_noW1 b (br_f (by decide) ⟨rfl, R⟩)))
    · have hN := cn_count h2 h7 (cn_qb c lo hi i j)
      refine cx_isW1 hi' h7 (br_f (by decide) (cx_isW1 hj' h7 (br_f (by decide) ⟨cn_fac n + 1, cx_below23 h7 hc hv hi' hj' (cn_fac n) 0 0 f1 (by omega) z1 ?_⟩)))
      intro f' hf'
      unfold wpY_below
      dsimp only
      refine cy_noW0 hi' h7 (br_t rfl (cy_noW0 hj' h7 (br_t rfl (cy_first h2 h7 z4 ?_))))
      obtain ⟨d, ed⟩ : ∃ d, cn_fac n = d + 1 := ⟨cn_fac n - 1, by have := cn_facPos n; omega⟩
      refine ⟨d + 2, cy_below27 h2 h7 hc hv hi' hj' d 0 0 t2 (by omega) z5 ?_⟩
      intro o p zo zp
      rw [← ed, hN]
      exact ⟨rfl, cn_R h2 h7 hc hv hg hf' z2 z3 zo zp z6 z7⟩
theorem i_vc_idle {k : Nat} {u : SX} {v : SY} (I : i_Rel k u v) (hk : k + 3 ≤ 1537) : wpX_idle (fun r u' => wpY_idle (fun r' v' => r' = r ∧ i_Rel (k + 3) u' v') v) u := by
  obtain ⟨n, c, lo, hi, g, f1, f2, f3, t1, t2, t3, t4, h2, h7, hc, hv, hg, z1, z2, z3, z4, z5, z6, z7, rfl, rfl⟩ := I
  have hN : ∀ q, (List.range' 0 (cn_fac n)).all (fun i => cn_qi n c lo hi q (cn_Y n i)) = (List.range' 0 (cn_fac n)).all (fun i => cn_qi n c lo hi q (cn_X n i)) := fun q => cn_every h2 h7 (cn_qi n c lo hi q)
  refine ⟨c + 1, cx_idle4 h7 hc hv c 0 0 f1 f2 (by omega) z1 z2 ?_⟩
  intro p p' zp zp'
  refine ⟨c + 1, cy_idle4 h2 h7 hc hv c 0 0 t1 t2 t3 (by omega) z4 z5 z6 ?_⟩
  intro o q q' zo zq zq'
  simp only [hN]
  exact ⟨trivial, cn_R h2 h7 hc hv hg zp zp' z3 zo zq zq' z7⟩
theorem i_vc_rounds {k : Nat} {u : SX} {v : SY} (I : i_Rel k u v) (hk : k + 3 ≤ 1537) : wpX_rounds (fun r u' => wpY_rounds (fun r' v' => r' = r ∧ i_Rel (k + 3) u' v') v) u := by
  obtain ⟨n, c, lo, hi, g, f1, f2, f3, t1, t2, t3, t4, h2, h7, hc, hv, hg, z1, z2, z3, z4, z5, z6, z7, rfl, rfl⟩ := I
  refine ⟨n + 1, cx_rounds2 h7 hc hv ?_ n 0 f3 (by omega) (fun j hj => absurd hj (by omega)) z3⟩
  intro f' hf'
  refine ⟨n + 1, cy_rounds2 h7 hc hv ?_ n 0 t4 (by omega) (fun j hj => absurd hj (by omega)) z7⟩
  intro q hq
  exact ⟨rfl, cn_R h2 h7 hc hv hg z1 z2 hf' z4 z5 z6 hq⟩
end
