/-- what each question asks of one order's row of numbers behind the net -/
def cn_qs (n c : Nat) (lo hi : Nat → Int32) (l : List Nat) : Bool := cn_srt n 0 (cn_run lo hi c 0 (cn_ar l))
def cn_qr (c : Nat) (lo hi : Nat → Int32) (w : Nat) (r : Int32) (l : List Nat) : Bool := decide (cn_run lo hi c 0 (cn_ar l) w = r)
def cn_qb (c : Nat) (lo hi : Nat → Int32) (v w : Nat) (l : List Nat) : Bool := decide (¬ cn_run lo hi c 0 (cn_ar l) w ≤ cn_run lo hi c 0 (cn_ar l) v)
def cn_qw (lo hi : Nat → Int32) (k : Nat) (l : List Nat) : Bool := decide (cn_E lo hi k (cn_run lo hi k 0 (cn_ar l)) = 1)
def cn_qi (n c : Nat) (lo hi : Nat → Int32) (k : Nat) (l : List Nat) : Bool := cn_same n 0 (cn_run lo hi c 0 (cn_ar l)) (cn_run lo hi (c - (k + 1)) (k + 1) (cn_run lo hi k 0 (cn_ar l)))
section
variable {n c : Nat} {lo hi g f1 f2 f3 : Nat → Int32}
theorem cx_sorted4 {post : Int32 → SX → Prop} (h7 : n ≤ 7) (hc : c ≤ 24) (hv : cn_V n c lo hi) : ∀ (d p e : Nat) (f : Nat → Int32), p + d = cn_fac n → cn_Z n f → (∀ f', cn_Z n f' → post (nI (e + (List.range' p d).countP (fun i => cn_qs n c lo hi (cn_X n i)))) (nI n, nI (cn_fac n), nI c, lo, hi, g, f', f2, f3)) → wX_sorted_4 post (d + 1) (nI e) (nI p) (nI n) (nI (cn_fac n)) (nI c) lo hi g f f2 f3 := by
  have hN := cn_facLe h7
  intro d
  induction d with
  | zero => intro p e f hk hf hp; exact br_t (nI_le (by omega) (by omega)) (hp f hf)
  | succ d ih =>
    intro p e f hk hf hp
    have hz : cn_Z n (cn_run lo hi c 0 (cn_ar (cn_X n p))) := cn_runZ h7 hv c 0 _ (by omega) (cn_XZ h7 p)
    refine br_f (nI_ge (by omega) (by omega)) (cx_runOrder h7 hc hv (by omega) hf ?_)
    dsimp only
    refine cx_isSorted h7 ?_
    simp only [cn_cnt] at hp
    by_cases h : cn_qs n c lo hi (cn_X n p) = true
    · simp only [if_pos h, ← Nat.add_assoc] at hp
      rw [if_pos (show cn_srt n 0 (cn_run lo hi c 0 (cn_ar (cn_X n p))) = true from h)]
      exact br_f (by decide) (nm_r (nI_1 e) (nm_r (nI_1 p) (ih (p + 1) (e + 1) _ (by omega) hz hp)))
    · simp only [if_neg h, Nat.zero_add] at hp
      rw [if_neg (show ¬ cn_srt n 0 (cn_run lo hi c 0 (cn_ar (cn_X n p))) = true from h)]
      exact br_t rfl (nm_r (nI_1 p) (ih (p + 1) e _ (by omega) hz hp))
theorem cx_sorted {post : Int32 → SX → Prop} (h7 : n ≤ 7) (hc : c ≤ 24) (hv : cn_V n c lo hi) (hf : cn_Z n f1) (hp : ∀ f', cn_Z n f' → post (nI ((List.range' 0 (cn_fac n)).countP (fun i => cn_qs n c lo hi (cn_X n i)))) (nI n, nI (cn_fac n), nI c, lo, hi, g, f', f2, f3)) : wpX_sorted post (nI n, nI (cn_fac n), nI c, lo, hi, g, f1, f2, f3) :=
  ⟨cn_fac n + 1, cx_sorted4 h7 hc hv (cn_fac n) 0 0 f1 (by omega) hf (by simpa only [Nat.zero_add] using hp)⟩
theorem cx_ranks28 {post : Int32 → SX → Prop} (h7 : n ≤ 7) (hc : c ≤ 24) (hv : cn_V n c lo hi) {w : Nat} (hw : w < n) (r : Int32) : ∀ (d p e : Nat) (f : Nat → Int32), p + d = cn_fac n → cn_Z n f → (∀ f', cn_Z n f' → post (nI (e + (List.range' p d).countP (fun i => cn_qr c lo hi w r (cn_X n i)))) (nI n, nI (cn_fac n), nI c, lo, hi, g, f', f2, f3)) → wX_ranks_28 post (nI w) r (d + 1) (nI e) (nI p) (nI n) (nI (cn_fac n)) (nI c) lo hi g f f2 f3 := by
  have hN := cn_facLe h7
  have cw := cn_cl hw h7
  intro d
  induction d with
  | zero => intro p e f hk hf hp; exact br_t (nI_le (by omega) (by omega)) (hp f hf)
  | succ d ih =>
    intro p e f hk hf hp
    have hz : cn_Z n (cn_run lo hi c 0 (cn_ar (cn_X n p))) := cn_runZ h7 hv c 0 _ (by omega) (cn_XZ h7 p)
    refine br_f (nI_ge (by omega) (by omega)) (cx_runOrder h7 hc hv (by omega) hf ?_)
    dsimp only
    refine ⟨vp_in_nI (by omega) (by omega), ?_⟩
    simp only [cn_cnt] at hp
    by_cases h : cn_run lo hi c 0 (cn_ar (cn_X n p)) w = r
    · have q : cn_qr c lo hi w r (cn_X n p) = true := decide_eq_true h
      simp only [if_pos q, ← Nat.add_assoc] at hp
      exact br_t (by rw [cw]; exact h) (nm_r (nI_1 e) (nm_r (nI_1 p) (ih (p + 1) (e + 1) _ (by omega) hz hp)))
    · have q : ¬ cn_qr c lo hi w r (cn_X n p) = true := by rw [cn_qr, decide_eq_false h]; decide
      simp only [if_neg q, Nat.zero_add] at hp
      exact br_f (by rw [cw]; exact h) (nm_r (nI_1 p) (ih (p + 1) e _ (by omega) hz hp))
theorem cx_below23 {post : Int32 → SX → Prop} (h7 : n ≤ 7) (hc : c ≤ 24) (hv : cn_V n c lo hi) {v w : Nat} (hvn : v < n) (hw : w < n) : ∀ (d p e : Nat) (f : Nat → Int32), p + d = cn_fac n → cn_Z n f → (∀ f', cn_Z n f' → post (nI (e + (List.range' p d).countP (fun i => cn_qb c lo hi v w (cn_X n i)))) (nI n, nI (cn_fac n), nI c, lo, hi, g, f', f2, f3)) → wX_below_23 post (nI v) (nI w) (d + 1) (nI e) (nI p) (nI n) (nI (cn_fac n)) (nI c) lo hi g f f2 f3 := by
  have hN := cn_facLe h7
  have cw := cn_cl hw h7
  have cv := cn_cl hvn h7
  intro d
  induction d with
  | zero => intro p e f hk hf hp; exact br_t (nI_le (by omega) (by omega)) (hp f hf)
  | succ d ih =>
    intro p e f hk hf hp
    have hz : cn_Z n (cn_run lo hi c 0 (cn_ar (cn_X n p))) := cn_runZ h7 hv c 0 _ (by omega) (cn_XZ h7 p)
    refine br_f (nI_ge (by omega) (by omega)) (cx_runOrder h7 hc hv (by omega) hf ?_)
    dsimp only
    refine ⟨vp_in_nI (by omega) (by omega), vp_in_nI (by omega) (by omega), ?_⟩
    simp only [cn_cnt] at hp
    by_cases h : cn_run lo hi c 0 (cn_ar (cn_X n p)) w ≤ cn_run lo hi c 0 (cn_ar (cn_X n p)) v
    · have q : ¬ cn_qb c lo hi v w (cn_X n p) = true := by rw [cn_qb, decide_eq_false (not_not_intro h)]; decide
      simp only [if_neg q, Nat.zero_add] at hp
      exact br_t (by rw [cw, cv]; exact h) (nm_r (nI_1 p) (ih (p + 1) e _ (by omega) hz hp))
    · have q : cn_qb c lo hi v w (cn_X n p) = true := decide_eq_true h
      simp only [if_pos q, ← Nat.add_assoc] at hp
      exact br_f (by rw [cw, cv]; exact h) (nm_r (nI_1 e) (nm_r (nI_1 p) (ih (p + 1) (e + 1) _ (by omega) hz hp)))
theorem cx_works15 {post : Int32 → SX → Prop} (h7 : n ≤ 7) (hc : c ≤ 24) (hv : cn_V n c lo hi) {k : Nat} (hk : k < c) : ∀ (d p e : Nat) (f : Nat → Int32), p + d = cn_fac n → cn_Z n f → (∀ f', cn_Z n f' → post (nI (e + (List.range' p d).countP (fun i => cn_qw lo hi k (cn_X n i)))) (nI n, nI (cn_fac n), nI c, lo, hi, g, f', f2, f3)) → wX_works_15 post (nI k) (d + 1) (nI e) (nI p) (nI n) (nI (cn_fac n)) (nI c) lo hi g f f2 f3 := by
  have hN := cn_facLe h7
  intro d
  induction d with
  | zero => intro p e f hk hf hp; exact br_t (nI_le (by omega) (by omega)) (hp f hf)
  | succ d ih =>
    intro p e f hpd hf hp
    have hz := cn_runZ h7 hv k 0 _ (by omega) (cn_XZ h7 p)
    have hz2 := cn_runZ h7 hv 1 k _ (by omega) hz
    refine br_f (nI_ge (by omega) (by omega)) (cx_putOrder h7 (by omega) hf ?_)
    dsimp only
    refine cx_run_numbers h7 hc hv 0 k k (by omega) (by omega) _ ?_
    dsimp only
    rw [nI_1 k]
    refine cx_run_numbers h7 hc hv k 1 (k + 1) (by omega) (by omega) _ ?_
    dsimp only
    simp only [cn_cnt] at hp
    have ex : cn_exc lo hi 1 k (cn_run lo hi k 0 (cn_ar (cn_X n p))) = cn_E lo hi k (cn_run lo hi k 0 (cn_ar (cn_X n p))) := rfl
    rw [ex]
    rcases cn_E01 lo hi k (cn_run lo hi k 0 (cn_ar (cn_X n p))) with h | h
    · have q : ¬ cn_qw lo hi k (cn_X n p) = true := by rw [cn_qw, h]; decide
      simp only [if_neg q, Nat.zero_add] at hp
      rw [h]
      exact nm_r (nI_add e 0) (nm_r (nI_1 p) (ih (p + 1) e _ (by omega) hz2 hp))
    · have q : cn_qw lo hi k (cn_X n p) = true := by rw [cn_qw, h]; decide
      simp only [if_pos q, ← Nat.add_assoc] at hp
      rw [h]
      exact nm_r (nI_add e 1) (nm_r (nI_1 p) (ih (p + 1) (e + 1) _ (by omega) hz2 hp))
theorem cx_cbt2 {post : Int32 → SX → Prop} (h7 : n ≤ 7) (hc : c ≤ 24) (hv : cn_V n c lo hi) {k : Nat} (hk : k < c) : ∀ (d p : Nat) (f f' : Nat → Int32), p + d = cn_fac n → cn_Z n f → cn_Z n f' → (∀ f f', cn_Z n f → cn_Z n f' → post (if (List.range' p d).all (fun i => cn_qi n c lo hi k (cn_X n i)) = true then 1 else 0) (nI n, nI (cn_fac n), nI c, lo, hi, g, f, f', f3)) → wX_canBeTakenOut_2 post (nI k) (d + 1) (nI p) (nI n) (nI (cn_fac n)) (nI c) lo hi g f f' f3 := by
  have hN := cn_facLe h7
  intro d
  induction d with
  | zero => intro p f f' hk hf hf' hp; exact br_t (nI_le (by omega) (by omega)) (hp f f' hf hf')
  | succ d ih =>
    intro p f f' hpd hf hf' hp
    have hz := cn_runZ h7 hv k 0 _ (by omega) (cn_XZ h7 p)
    have hz2 := cn_runZ h7 hv (c - k) k _ (by omega) hz
    have hz3 := cn_runZ h7 hv (c - (k + 1)) (k + 1) _ (by omega) hz
    have hj : cn_run lo hi (c - k) k (cn_run lo hi k 0 (cn_ar (cn_X n p))) = cn_run lo hi c 0 (cn_ar (cn_X n p)) := by
      have := cn_run_add lo hi k (c - k) 0 (cn_ar (cn_X n p))
      rw [Nat.zero_add, show k + (c - k) = c by omega] at this
      exact this.symm
    refine br_f (nI_ge (by omega) (by omega)) (cx_putOrder h7 (by omega) hf ?_)
    dsimp only
    refine cx_run_numbers h7 hc hv 0 k k (by omega) (by omega) _ ?_
    dsimp only
    refine cx_copy_numbers_otherNumbers h7 _ hz hf' ?_
    dsimp only
    refine cx_run_numbers h7 hc hv k (c - k) c (by omega) (by omega) _ ?_
    dsimp only
    rw [nI_1 k]
    refine cx_run_otherNumbers h7 hc hv (k + 1) (c - (k + 1)) c (by omega) (by omega) _ ?_
    dsimp only
    refine cx_isSame h7 ?_
    rw [hj] at hz2 ⊢
    simp only [List.range'_succ, List.all_cons] at hp
    by_cases h : cn_qi n c lo hi k (cn_X n p) = true
    · simp only [h, Bool.true_and] at hp
      rw [if_pos (show cn_same n 0 (cn_run lo hi c 0 (cn_ar (cn_X n p))) (cn_run lo hi (c - (k + 1)) (k + 1) (cn_run lo hi k 0 (cn_ar (cn_X n p)))) = true from h)]
      exact br_f (by decide) (nm_r (nI_1 p) (ih (p + 1) _ _ (by omega) hz2 hz3 hp))
    · rw [if_neg (show ¬ cn_same n 0 (cn_run lo hi c 0 (cn_ar (cn_X n p))) (cn_run lo hi (c - (k + 1)) (k + 1) (cn_run lo hi k 0 (cn_ar (cn_X n p)))) = true from h)]
      rw [Bool.not_eq_true] at h
      simp only [h, Bool.false_and] at hp
      exact br_t rfl (hp _ _ hz2 hz3)
theorem cx_cbt {post : Int32 → SX → Prop} (h7 : n ≤ 7) (hc : c ≤ 24) (hv : cn_V n c lo hi) {k : Nat} (hk : k < c) (hf : cn_Z n f1) (hf2 : cn_Z n f2) (hp : ∀ f f', cn_Z n f → cn_Z n f' → post (if (List.range' 0 (cn_fac n)).all (fun i => cn_qi n c lo hi k (cn_X n i)) = true then 1 else 0) (nI n, nI (cn_fac n), nI c, lo, hi, g, f, f', f3)) : wpX_canBeTakenOut post (nI n, nI (cn_fac n), nI c, lo, hi, g, f1, f2, f3) (nI k) :=
  ⟨cn_fac n + 1, cx_cbt2 h7 hc hv hk (cn_fac n) 0 f1 f2 (by omega) hf hf2 hp⟩
theorem cx_idle4 {post : Int32 → SX → Prop} (h7 : n ≤ 7) (hc : c ≤ 24) (hv : cn_V n c lo hi) : ∀ (d k e : Nat) (f f' : Nat → Int32), k + d = c → cn_Z n f → cn_Z n f' → (∀ f f', cn_Z n f → cn_Z n f' → post (nI (e + (List.range' k d).countP (fun k => (List.range' 0 (cn_fac n)).all (fun i => cn_qi n c lo hi k (cn_X n i))))) (nI n, nI (cn_fac n), nI c, lo, hi, g, f, f', f3)) → wX_idle_4 post (d + 1) (nI e) (nI k) (nI n) (nI (cn_fac n)) (nI c) lo hi g f f' f3 := by
  intro d
  induction d with
  | zero => intro k e f f' hk hf hf' hp; exact br_t (nI_le (by omega) (by omega)) (hp f f' hf hf')
  | succ d ih =>
    intro k e f f' hk hf hf' hp
    refine br_f (nI_ge (by omega) (by omega)) (cx_cbt h7 hc hv (by omega) hf hf' ?_)
    intro h1 h2 z1 z2
    dsimp only
    simp only [cn_cnt] at hp
    by_cases h : (List.range' 0 (cn_fac n)).all (fun i => cn_qi n c lo hi k (cn_X n i)) = true
    · simp only [if_pos h, ← Nat.add_assoc] at hp
      rw [if_pos h]
      exact br_f (by decide) (nm_r (nI_1 e) (nm_r (nI_1 k) (ih (k + 1) (e + 1) _ _ (by omega) z1 z2 hp)))
    · simp only [if_neg h, Nat.zero_add] at hp
      rw [if_neg h]
      exact br_t rfl (nm_r (nI_1 k) (ih (k + 1) e _ _ (by omega) z1 z2 hp))
end
