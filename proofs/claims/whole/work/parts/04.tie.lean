theorem cn_all_of {f : Nat → Bool} : ∀ {d b : Nat}, cn_all f d b = true → ∀ i, i / 2 ^ d = b → f i = true := by
  intro d
  induction d with
  | zero => intro b h i hi; rw [Nat.pow_zero, Nat.div_one] at hi; rw [hi]; exact h
  | succ d ih =>
    intro b h i hi
    have h1 : cn_all f d (2 * b) = true := by
      cases e : cn_all f d (2 * b) with
      | true => rfl
      | false => rw [cn_all, e] at h; exact absurd (show false = true from h) (by decide)
    have h2 : cn_all f d (2 * b + 1) = true := by rw [cn_all, h1] at h; exact h
    rw [Nat.pow_succ, ← Nat.div_div_eq_div_mul] at hi
    rcases (by omega : i / 2 ^ d = 2 * b ∨ i / 2 ^ d = 2 * b + 1) with e | e
    · exact ih h1 i e
    · exact ih h2 i e
theorem cn_bt {a b : Bool} (h : (bif a then b else false) = true) : a = true ∧ b = true := by
  cases a
  · exact absurd (show false = true from h) (by decide)
  · exact ⟨rfl, h⟩
theorem cn_le_eq : ∀ {l m : List Nat}, cn_le l m = true → l = m := by
  intro l
  induction l with
  | nil => intro m h; cases m with
    | nil => rfl
    | cons b m => exact absurd h (by simp [cn_le])
  | cons a l ih => intro m h; cases m with
    | nil => exact absurd h (by simp [cn_le])
    | cons b m =>
      obtain ⟨h1, h2⟩ := cn_bt (show (bif Nat.beq a b then cn_le l m else false) = true from h)
      rw [Nat.eq_of_beq_eq_true h1, ih h2]
theorem cn_ok_len : ∀ {k : Nat} {l : List Nat}, cn_ok k l = true → l.length = k := by
  intro k
  induction k with
  | zero => intro l h; cases l with
    | nil => rfl
    | cons b m => exact absurd h (by simp [cn_ok])
  | succ k ih => intro l h; cases l with
    | nil => exact absurd h (by simp [cn_ok])
    | cons b m =>
      obtain ⟨_, h2⟩ := cn_bt (show (bif Nat.blt b 8 then cn_ok k m else false) = true from h)
      rw [List.length_cons, ih h2]
theorem cn_ok_lt : ∀ {k : Nat} {l : List Nat}, cn_ok k l = true → ∀ j, l.getD j 0 < 8 := by
  intro k
  induction k with
  | zero => intro l h; cases l with
    | nil => intro j; simp
    | cons b m => exact absurd h (by simp [cn_ok])
  | succ k ih => intro l h; cases l with
    | nil => exact absurd h (by simp [cn_ok])
    | cons b m =>
      obtain ⟨h1, h2⟩ := cn_bt (show (bif Nat.blt b 8 then cn_ok k m else false) = true from h)
      intro j
      cases j with
      | zero => have := Nat.le_of_ble_eq_true h1; simp; omega
      | succ j => simp only [List.getD_cons_succ]; exact ih h2 j
theorem cn_ckAll {n : Nat} (h2 : 2 ≤ n) (h7 : n ≤ 7) {i : Nat} (hi : i < cn_fac n) : cn_ckn n (cn_fac n) i = true := by
  have c : n = 2 ∨ n = 3 ∨ n = 4 ∨ n = 5 ∨ n = 6 ∨ n = 7 := by omega
  rcases c with rfl | rfl | rfl | rfl | rfl | rfl
  · have e : cn_fac 2 = 2 := by decide
    rw [e] at hi ⊢
    exact cn_all_of cn_k2 i (by omega)
  · have e : cn_fac 3 = 6 := by decide
    rw [e] at hi ⊢
    exact cn_all_of cn_k3 i (by omega)
  · have e : cn_fac 4 = 24 := by decide
    rw [e] at hi ⊢
    exact cn_all_of cn_k4 i (by omega)
  · have e : cn_fac 5 = 120 := by decide
    rw [e] at hi ⊢
    exact cn_all_of cn_k5 i (by omega)
  · have e : cn_fac 6 = 720 := by decide
    rw [e] at hi ⊢
    exact cn_all_of cn_k6 i (by omega)
  · have e : cn_fac 7 = 5040 := by decide +kernel
    rw [e] at hi ⊢
    have c : i / 2 ^ 8 = 0 ∨ i / 2 ^ 8 = 1 ∨ i / 2 ^ 8 = 2 ∨ i / 2 ^ 8 = 3 ∨ i / 2 ^ 8 = 4 ∨ i / 2 ^ 8 = 5 ∨ i / 2 ^ 8 = 6 ∨ i / 2 ^ 8 = 7 ∨ i / 2 ^ 8 = 8 ∨ i / 2 ^ 8 = 9 ∨ i / 2 ^ 8 = 10 ∨ i / 2 ^ 8 = 11 ∨ i / 2 ^ 8 = 12 ∨ i / 2 ^ 8 = 13 ∨ i / 2 ^ 8 = 14 ∨ i / 2 ^ 8 = 15 ∨ i / 2 ^ 8 = 16 ∨ i / 2 ^ 8 = 17 ∨ i / 2 ^ 8 = 18 ∨ i / 2 ^ 8 = 19 := by omega
    rcases c with e | e | e | e | e | e | e | e | e | e | e | e | e | e | e | e | e | e | e | e
    · exact cn_all_of cn_k7_0 i e
    · exact cn_all_of cn_k7_1 i e
    · exact cn_all_of cn_k7_2 i e
    · exact cn_all_of cn_k7_3 i e
    · exact cn_all_of cn_k7_4 i e
    · exact cn_all_of cn_k7_5 i e
    · exact cn_all_of cn_k7_6 i e
    · exact cn_all_of cn_k7_7 i e
    · exact cn_all_of cn_k7_8 i e
    · exact cn_all_of cn_k7_9 i e
    · exact cn_all_of cn_k7_10 i e
    · exact cn_all_of cn_k7_11 i e
    · exact cn_all_of cn_k7_12 i e
    · exact cn_all_of cn_k7_13 i e
    · exact cn_all_of cn_k7_14 i e
    · exact cn_all_of cn_k7_15 i e
    · exact cn_all_of cn_k7_16 i e
    · exact cn_all_of cn_k7_17 i e
    · exact cn_all_of cn_k7_18 i e
    · exact cn_all_of cn_k7_19 i e
theorem cn_ck_of {n : Nat} (h2 : 2 ≤ n) (h7 : n ≤ 7) {i : Nat} (hi : i < cn_fac n) : cn_ck n (cn_fac n) i (cn_Y n i) = true := by
  have h := cn_ckAll h2 h7 hi
  have b : Nat.blt i (cn_fac n) = true := Nat.ble_eq_true_of_le hi
  rw [cn_ckn, b] at h
  exact h
theorem cn_Yok {n : Nat} (h2 : 2 ≤ n) (h7 : n ≤ 7) {i : Nat} (hi : i < cn_fac n) : cn_ok n (cn_Y n i) = true := (cn_bt (cn_ck_of h2 h7 hi)).1
theorem cn_Yrk {n : Nat} (h2 : 2 ≤ n) (h7 : n ≤ 7) {i : Nat} (hi : i < cn_fac n) : cn_rk n (cn_Y n i) = i := Nat.eq_of_beq_eq_true (cn_bt (cn_bt (cn_ck_of h2 h7 hi)).2).1
theorem cn_Yxr {n : Nat} (h2 : 2 ≤ n) (h7 : n ≤ 7) {i : Nat} (hi : i < cn_fac n) : cn_xr n 0 (cn_Y n i) < cn_fac n := Nat.le_of_ble_eq_true (cn_bt (cn_bt (cn_bt (cn_ck_of h2 h7 hi)).2).2).1
theorem cn_YX {n : Nat} (h2 : 2 ≤ n) (h7 : n ≤ 7) {i : Nat} (hi : i < cn_fac n) : cn_X n (cn_xr n 0 (cn_Y n i)) = cn_Y n i := cn_le_eq (cn_bt (cn_bt (cn_bt (cn_bt (cn_ck_of h2 h7 hi)).2).2).2).1
theorem cn_Ynx {n : Nat} (h2 : 2 ≤ n) (h7 : n ≤ 7) {i : Nat} (hi : i + 1 < cn_fac n) : cn_nx n (cn_Y n i) = some (cn_Y n (i + 1)) := by
  have h := (cn_bt (cn_bt (cn_bt (cn_bt (cn_ck_of h2 h7 (i := i) (by omega))).2).2).2).2
  have b : Nat.blt (i + 1) (cn_fac n) = true := Nat.ble_eq_true_of_le hi
  rw [b] at h
  cases e : cn_nx n (cn_Y n i) with
  | none => rw [e] at h; exact absurd h (by simp [cn_oe])
  | some l => rw [e] at h; exact congrArg some (cn_le_eq h)
theorem cn_Yend {n : Nat} (h2 : 2 ≤ n) (h7 : n ≤ 7) {i : Nat} (hi : i + 1 = cn_fac n) : cn_nx n (cn_Y n i) = none := by
  have h := (cn_bt (cn_bt (cn_bt (cn_bt (cn_ck_of h2 h7 (i := i) (by omega))).2).2).2).2
  have b : Nat.blt (i + 1) (cn_fac n) = false := by
    cases e : Nat.blt (i + 1) (cn_fac n) with
    | false => rfl
    | true => have := Nat.le_of_ble_eq_true e; omega
  rw [b] at h
  cases e : cn_nx n (cn_Y n i) with
  | none => rfl
  | some l => rw [e] at h; exact absurd h (by simp [cn_on])
theorem cn_perm {α : Type} [BEq α] [LawfulBEq α] : ∀ (y x : List α), y.Nodup → (∀ a, a ∈ y → a ∈ x) → x.length ≤ y.length → y.Perm x := by
  intro y
  induction y with
  | nil => intro x _ _ h; rw [List.eq_nil_of_length_eq_zero (Nat.le_zero.mp h)]
  | cons a y ih =>
    intro x hn hs hl
    rw [List.nodup_cons] at hn
    have ha : a ∈ x := hs a List.mem_cons_self
    refine List.Perm.trans (List.Perm.cons a (ih (x.erase a) hn.2 ?_ ?_)) (List.perm_cons_erase ha).symm
    · intro b hb
      have hne : b ≠ a := fun e => hn.1 (e ▸ hb)
      exact (List.mem_erase_of_ne hne).mpr (hs b (List.mem_cons_of_mem a hb))
    · have := List.length_erase_of_mem ha
      rw [List.length_cons] at hl
      omega
theorem cn_nodup {α : Type} {f : Nat → α} {g : α → Nat} : ∀ (d s : Nat), (∀ i, s ≤ i → i < s + d → g (f i) = i) → ((List.range' s d).map f).Nodup := by
  intro d
  induction d with
  | zero => intro s _; exact List.nodup_nil
  | succ d ih =>
    intro s h
    rw [List.range'_succ, List.map_cons, List.nodup_cons]
    refine ⟨?_, ih (s + 1) fun i h1 h3 => h i (by omega) (by omega)⟩
    intro hm
    obtain ⟨i, hi, e⟩ := List.mem_map.mp hm
    rw [List.mem_range'_1] at hi
    have e1 := h i (by omega) (by omega)
    have e2 := h s (by omega) (by omega)
    rw [e] at e1
    omega
theorem cn_tie {n : Nat} (h2 : 2 ≤ n) (h7 : n ≤ 7) : ((List.range' 0 (cn_fac n)).map (cn_Y n)).Perm ((List.range' 0 (cn_fac n)).map (cn_X n)) := by
  refine cn_perm _ _ (cn_nodup (g := cn_rk n) _ _ fun i _ hi => cn_Yrk h2 h7 (by omega)) ?_ ?_
  · intro a ha
    obtain ⟨i, hi, e⟩ := List.mem_map.mp ha
    rw [List.mem_range'_1] at hi
    refine List.mem_map.mpr ⟨cn_xr n 0 (cn_Y n i), ?_, ?_⟩
    · rw [List.mem_range'_1]
      have := cn_Yxr h2 h7 (i := i) (by omega)
      omega
    · rw [cn_YX h2 h7 (by omega), e]
  · simp
/-- over all orders, as many have a property whichever way they are gone through -/
theorem cn_count {n : Nat} (h2 : 2 ≤ n) (h7 : n ≤ 7) (P : List Nat → Bool) : (List.range' 0 (cn_fac n)).countP (fun i => P (cn_Y n i)) = (List.range' 0 (cn_fac n)).countP (fun i => P (cn_X n i)) := by
  have h := (cn_tie h2 h7).countP_eq P
  rw [List.countP_map, List.countP_map] at h
  exact h
theorem cn_every {n : Nat} (h2 : 2 ≤ n) (h7 : n ≤ 7) (P : List Nat → Bool) : (List.range' 0 (cn_fac n)).all (fun i => P (cn_Y n i)) = (List.range' 0 (cn_fac n)).all (fun i => P (cn_X n i)) := by
  have h := (cn_tie h2 h7).all_eq (f := P)
  rw [List.all_map, List.all_map] at h
  exact h
