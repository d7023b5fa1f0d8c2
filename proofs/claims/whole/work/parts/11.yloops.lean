section
variable {n c : Nat} {lo hi g t1 t2 t3 t4 : Nat → Int32}
theorem cy_sorted8 {post : Int32 → SY → Prop} (h2 : 2 ≤ n) (h7 : n ≤ 7) (hc : c ≤ 24) (hv : cn_V n c lo hi) : ∀ (d i e : Nat) (f : Nat → Int32), i + (d + 1) = cn_fac n → cn_Z n f → (∀ o f', cn_Z n o → cn_Z n f' → post (nI (e + (List.range' i (d + 1)).countP (fun i => cn_qs n c lo hi (cn_Y n i)))) (nI n, nI c, lo, hi, g, o, f', t3, t4)) → wY_sorted_8 post (d + 2) (nI e) 1 (nI n) (nI c) lo hi g (cn_ar (cn_Y n i)) f t3 t4 := by
  intro d
  induction d with
  | zero =>
    intro i e f hd hf hp
    have hi0 := cn_YZ h2 h7 (i := i) (by omega)
    have hz := cn_runZ h7 hv c 0 _ (by omega) hi0
    refine br_f (by decide) (cy_pass h7 hc hv hi0 hf ?_)
    dsimp only
    refine cy_isSorted h7 ?_
    simp only [cn_cnt] at hp
    by_cases h : cn_qs n c lo hi (cn_Y n i) = true
    · simp only [if_pos h] at hp
      rw [if_pos (show cn_srt n 0 (cn_run lo hi c 0 (cn_ar (cn_Y n i))) = true from h)]
      refine br_f (by decide) (nm_r (nI_1 e) (cy_nextE h2 h7 hd ?_))
      exact br_t rfl (hp _ _ hi0 hz)
    · simp only [if_neg h] at hp
      rw [if_neg (show ¬ cn_srt n 0 (cn_run lo hi c 0 (cn_ar (cn_Y n i))) = true from h)]
      refine br_t rfl (cy_nextE h2 h7 hd ?_)
      exact br_t rfl (hp _ _ hi0 hz)
  | succ d ih =>
    intro i e f hd hf hp
    have hi0 := cn_YZ h2 h7 (i := i) (by omega)
    have hz := cn_runZ h7 hv c 0 _ (by omega) hi0
    refine br_f (by decide) (cy_pass h7 hc hv hi0 hf ?_)
    dsimp only
    refine cy_isSorted h7 ?_
    rw [cn_cnt] at hp
    by_cases h : cn_qs n c lo hi (cn_Y n i) = true
    · simp only [if_pos h, ← Nat.add_assoc] at hp
      rw [if_pos (show cn_srt n 0 (cn_run lo hi c 0 (cn_ar (cn_Y n i))) = true from h)]
      refine br_f (by decide) (nm_r (nI_1 e) (cy_nextS h2 h7 (by omega) ?_))
      exact ih (i + 1) (e + 1) _ (by omega) hz hp
    · simp only [if_neg h, Nat.zero_add] at hp
      rw [if_neg (show ¬ cn_srt n 0 (cn_run lo hi c 0 (cn_ar (cn_Y n i))) = true from h)]
      refine br_t rfl (cy_nextS h2 h7 (by omega) ?_)
      exact ih (i + 1) e _ (by omega) hz hp
theorem cy_sorted {post : Int32 → SY → Prop} (h2 : 2 ≤ n) (h7 : n ≤ 7) (hc : c ≤ 24) (hv : cn_V n c lo hi) (h1 : cn_Z n t1) (hf : cn_Z n t2) (hp : ∀ o f', cn_Z n o → cn_Z n f' → post (nI ((List.range' 0 (cn_fac n)).countP (fun i => cn_qs n c lo hi (cn_Y n i)))) (nI n, nI c, lo, hi, g, o, f', t3, t4)) : wpY_sorted post (nI n, nI c, lo, hi, g, t1, t2, t3, t4) := by
  have hN := cn_facPos n
  obtain ⟨d, ed⟩ : ∃ d, cn_fac n = d + 1 := ⟨cn_fac n - 1, by omega⟩
  unfold wpY_sorted
  dsimp only
  refine cy_first h2 h7 h1 ?_
  dsimp only
  refine ⟨d + 2, cy_sorted8 h2 h7 hc hv d 0 0 t2 (by omega) hf ?_⟩
  rw [← ed]
  simpa only [Nat.zero_add] using hp
theorem cy_ranks32 {post : Int32 → SY → Prop} (h2 : 2 ≤ n) (h7 : n ≤ 7) (hc : c ≤ 24) (hv : cn_V n c lo hi) {w : Nat} (hw : w < n) (r : Int32) : ∀ (d i e : Nat) (f : Nat → Int32), i + (d + 1) = cn_fac n → cn_Z n f → (∀ o f', cn_Z n o → cn_Z n f' → post (nI (e + (List.range' i (d + 1)).countP (fun i => cn_qr c lo hi w r (cn_Y n i)))) (nI n, nI c, lo, hi, g, o, f', t3, t4)) → wY_ranks_32 post (nI w) r (d + 2) (nI e) 1 (nI n) (nI c) lo hi g (cn_ar (cn_Y n i)) f t3 t4 := by
  have cw := cn_cl hw h7
  have iw : vp_in (nI w) 7 := vp_in_nI (by omega) (by omega)
  intro d
  induction d with
  | zero =>
    intro i e f hd hf hp
    have hi0 := cn_YZ h2 h7 (i := i) (by omega)
    have hz := cn_runZ h7 hv c 0 _ (by omega) hi0
    refine br_f (by decide) (cy_pass h7 hc hv hi0 hf ?_)
    dsimp only
    refine ⟨iw, ?_⟩
    simp only [cn_cnt] at hp
    by_cases h : cn_run lo hi c 0 (cn_ar (cn_Y n i)) w = r
    · have q : cn_qr c lo hi w r (cn_Y n i) = true := decide_eq_true h
      simp only [if_pos q] at hp
      refine br_t (by rw [cw]; exact h) (nm_r (nI_1 e) (cy_nextE h2 h7 hd ?_))
      exact br_t rfl (hp _ _ hi0 hz)
    · have q : ¬ cn_qr c lo hi w r (cn_Y n i) = true := by rw [cn_qr, decide_eq_false h]; decide
      simp only [if_neg q] at hp
      refine br_f (by rw [cw]; exact h) (cy_nextE h2 h7 hd ?_)
      exact br_t rfl (hp _ _ hi0 hz)
  | succ d ih =>
    intro i e f hd hf hp
    have hi0 := cn_YZ h2 h7 (i := i) (by omega)
    have hz := cn_runZ h7 hv c 0 _ (by omega) hi0
    refine br_f (by decide) (cy_pass h7 hc hv hi0 hf ?_)
    dsimp only
    refine ⟨iw, ?_⟩
    rw [cn_cnt] at hp
    by_cases h : cn_run lo hi c 0 (cn_ar (cn_Y n i)) w = r
    · have q : cn_qr c lo hi w r (cn_Y n i) = true := decide_eq_true h
      simp only [if_pos q, ← Nat.add_assoc] at hp
      refine br_t (by rw [cw]; exact h) (nm_r (nI_1 e) (cy_nextS h2 h7 (by omega) ?_))
      exact ih (i + 1) (e + 1) _ (by omega) hz hp
    · have q : ¬ cn_qr c lo hi w r (cn_Y n i) = true := by rw [cn_qr, decide_eq_false h]; decide
      simp only [if_neg q, Nat.zero_add] at hp
      refine br_f (by rw [cw]; exact h) (cy_nextS h2 h7 (by omega) ?_)
      exact ih (i + 1) e _ (by omega) hz hp
theorem cy_below27 {post : Int32 → SY → Prop} (h2 : 2 ≤ n) (h7 : n ≤ 7) (hc : c ≤ 24) (hv : cn_V n c lo hi) {v w : Nat} (hvn : v < n) (hw : w < n) : ∀ (d i e : Nat) (f : Nat → Int32), i + (d + 1) = cn_fac n → cn_Z n f → (∀ o f', cn_Z n o → cn_Z n f' → post (nI (e + (List.range' i (d + 1)).countP (fun i => cn_qb c lo hi v w (cn_Y n i)))) (nI n, nI c, lo, hi, g, o, f', t3, t4)) → wY_below_27 post (nI v) (nI w) (d + 2) (nI e) 1 (nI n) (nI c) lo hi g (cn_ar (cn_Y n i)) f t3 t4 := by
  have cw := cn_cl hw h7
  have cv := cn_cl hvn h7
  have iw : vp_in (nI w) 7 := vp_in_nI (by omega) (by omega)
  have iv : vp_in (nI v) 7 := vp_in_nI (by omega) (by omega)
  intro d
  induction d with
  | zero =>
    intro i e f hd hf hp
    have hi0 := cn_YZ h2 h7 (i := i) (by omega)
    have hz := cn_runZ h7 hv c 0 _ (by omega) hi0
    refine br_f (by decide) (cy_pass h7 hc hv hi0 hf ?_)
    dsimp only
    refine ⟨iv, iw, ?_⟩
    simp only [cn_cnt] at hp
    by_cases h : cn_run lo hi c 0 (cn_ar (cn_Y n i)) w ≤ cn_run lo hi c 0 (cn_ar (cn_Y n i)) v
    · have q : ¬ cn_qb c lo hi v w (cn_Y n i) = true := by rw [cn_qb, decide_eq_false (not_not_intro h)]; decide
      simp only [if_neg q] at hp
      refine br_t (by rw [cw, cv]; exact h) (cy_nextE h2 h7 hd ?_)
      exact br_t rfl (hp _ _ hi0 hz)
    · have q : cn_qb c lo hi v w (cn_Y n i) = true := decide_eq_true h
      simp only [if_pos q] at hp
      refine br_f (by rw [cw, cv]; exact h) (nm_r (nI_1 e) (cy_nextE h2 h7 hd ?_))
      exact br_t rfl (hp _ _ hi0 hz)
  | succ d ih =>
    intro i e f hd hf hp
    have hi0 := cn_YZ h2 h7 (i := i) (by omega)
    have hz := cn_runZ h7 hv c 0 _ (by omega) hi0
    refine br_f (by decide) (cy_pass h7 hc hv hi0 hf ?_)
    dsimp only
    refine ⟨iv, iw, ?_⟩
    rw [cn_cnt] at hp
    by_cases h : cn_run lo hi c 0 (cn_ar (cn_Y n i)) w ≤ cn_run lo hi c 0 (cn_ar (cn_Y n i)) v
    · have q : ¬ cn_qb c lo hi v w (cn_Y n i) = true := by rw [cn_qb, decide_eq_false (not_not_intro h)]; decide
      simp only [if_neg q, Nat.zero_add] at hp
      refine br_t (by rw [cw, cv]; exact h) (cy_nextS h2 h7 (by omega) ?_)
      exact ih (i + 1) e _ (by omega) hz hp
    · have q : cn_qb c lo hi v w (cn_Y n i) = true := decide_eq_true h
      simp only [if_pos q, ← Nat.add_assoc] at hp
      refine br_f (by rw [cw, cv]; exact h) (nm_r (nI_1 e) (cy_nextS h2 h7 (by omega) ?_))
      exact ih (i + 1) (e + 1) _ (by omega) hz hp
theorem cy_works61 {post : Int32 → SY → Prop} {J : Int32 → Int32 → Int32 → Int32 → (Nat → Int32) → (Nat → Int32) → (Nat → Int32) → (Nat → Int32) → (Nat → Int32) → (Nat → Int32) → (Nat → Int32) → Prop} (h7 : n ≤ 7) (hc : c ≤ 24) (hv : cn_V n c lo hi) {k e : Nat} (hk : k < c) : ∀ (d m : Nat) (f : Nat → Int32) (z : Int32), m + (d + 1) = k + 1 → wY_works_89 post J (nI k) (nI (e + cn_E lo hi k (cn_run lo hi d m f))) (nI n) (nI c) lo hi g t1 (cn_run lo hi (d + 1) m f) t3 t4 → wY_works_61 post J (nI k) (nI e) (d + 2) z (nI m) (nI n) (nI c) lo hi g t1 f t3 t4 := by
  intro d
  induction d with
  | zero =>
    intro m f z hm hp
    have em : m = k := by omega
    subst em
    refine br_f (nI_nlt (by omega) (by omega)) (cy_compare h7 hc hv hk ?_)
    dsimp only
    refine nm_r (nI_1 m) (br_t (nI_lt (by omega) (by omega)) ?_)
    have hq : wY_works_89 post J (nI m) (nI (e + cn_E lo hi m f)) (nI n) (nI c) lo hi g t1 (cn_S lo hi m f) t3 t4 := hp
    rcases cn_E01 lo hi m f with h | h
    · rw [h] at hq ⊢
      exact br_t rfl hq
    · rw [h] at hq ⊢
      exact br_f (by decide) (nm_r (nI_1 e) hq)
  | succ d ih =>
    intro m f z hm hp
    refine br_f (nI_nlt (by omega) (by omega)) (cy_compare h7 hc hv (by omega) ?_)
    dsimp only
    exact nm_r (nI_1 m) (ih (m + 1) _ _ (by omega) hp)
theorem cy_works19 {post : Int32 → SY → Prop} (h2 : 2 ≤ n) (h7 : n ≤ 7) (hc : c ≤ 24) (hv : cn_V n c lo hi) {k : Nat} (hk : k < c) : ∀ (d i e : Nat) (f : Nat → Int32), i + (d + 1) = cn_fac n → cn_Z n f → (∀ o f', cn_Z n o → cn_Z n f' → post (nI (e + (List.range' i (d + 1)).countP (fun i => cn_qw lo hi k (cn_Y n i)))) (nI n, nI c, lo, hi, g, o, f', t3, t4)) → wY_works_19 post (nI k) (d + 2) (nI e) 1 (nI n) (nI c) lo hi g (cn_ar (cn_Y n i)) f t3 t4 := by
  have hq : ∀ l, (if cn_qw lo hi k l = true then 1 else 0) = cn_E lo hi k (cn_run lo hi k 0 (cn_ar l)) := by
    intro l
    rw [cn_qw]
    rcases cn_E01 lo hi k (cn_run lo hi k 0 (cn_ar l)) with h | h
    · rw [h]; rfl
    · rw [h]; rfl
  intro d
  induction d with
  | zero =>
    intro i e f hd hf hp
    have hi0 := cn_YZ h2 h7 (i := i) (by omega)
    have hz := cn_runZ h7 hv (k + 1) 0 _ (by omega) hi0
    simp only [cn_cnt, hq] at hp
    refine br_f (by decide) (cy_copy_works h7 f hi0 hf ⟨k + 2, cy_works61 h7 hc hv hk k 0 _ 0 (by omega) ?_⟩)
    refine cy_nextE h2 h7 hd ?_
    exact br_t rfl (hp _ _ hi0 hz)
  | succ d ih =>
    intro i e f hd hf hp
    have hi0 := cn_YZ h2 h7 (i := i) (by omega)
    have hz := cn_runZ h7 hv (k + 1) 0 _ (by omega) hi0
    rw [cn_cnt] at hp
    simp only [hq, ← Nat.add_assoc] at hp
    refine br_f (by decide) (cy_copy_works h7 f hi0 hf ⟨k + 2, cy_works61 h7 hc hv hk k 0 _ 0 (by omega) ?_⟩)
    refine cy_nextS h2 h7 (by omega) ?_
    exact ih (i + 1) _ _ (by omega) hz hp
theorem cy_idle21 {post : Int32 → SY → Prop} {J : Int32 → Int32 → Int32 → Int32 → (Nat → Int32) → (Nat → Int32) → (Nat → Int32) → (Nat → Int32) → (Nat → Int32) → (Nat → Int32) → (Nat → Int32) → Prop} (h2 : 2 ≤ n) (h7 : n ≤ 7) (hc : c ≤ 24) (hv : cn_V n c lo hi) {k : Nat} (hk : k < c) {x1 : Int32} : ∀ (d i : Nat) (f f' : Nat → Int32), i + (d + 1) = cn_fac n → cn_Z n f → cn_Z n f' → (∀ o f f', cn_Z n o → cn_Z n f → cn_Z n f' → wY_idle_45 post J x1 (nI k) (if (List.range' i (d + 1)).all (fun i => cn_qi n c lo hi k (cn_Y n i)) = true then 1 else 0) (nI n) (nI c) lo hi g o f f' t4) → wY_idle_21 post J x1 (nI k) (d + 2) 1 1 (nI n) (nI c) lo hi g (cn_ar (cn_Y n i)) f f' t4 := by
  intro d
  induction d with
  | zero =>
    intro i f f' hd hf hf' hp
    have hi0 := cn_YZ h2 h7 (i := i) (by omega)
    have hz := cn_runZ h7 hv c 0 _ (by omega) hi0
    have hz2 := cn_runZ h7 hv (c - (k + 1)) (k + 1) _ (by omega) (cn_runZ h7 hv k 0 _ (by omega) hi0)
    refine br_f (by decide) (br_f (by decide) (cy_same h7 hc hv hi0 hf hf' hk ?_))
    dsimp only
    refine cy_nextE h2 h7 hd ?_
    have hq : (List.range' i 1).all (fun i => cn_qi n c lo hi k (cn_Y n i)) = cn_qi n c lo hi k (cn_Y n i) := by
      rw [List.range'_succ, List.all_cons]
      exact Bool.and_true _
    rw [hq] at hp
    exact br_t rfl (hp _ _ _ hi0 hz2 hz)
  | succ d ih =>
    intro i f f' hd hf hf' hp
    have hi0 := cn_YZ h2 h7 (i := i) (by omega)
    have hi1 := cn_YZ h2 h7 (i := i + 1) (by omega)
    have hz := cn_runZ h7 hv c 0 _ (by omega) hi0
    have hz2 := cn_runZ h7 hv (c - (k + 1)) (k + 1) _ (by omega) (cn_runZ h7 hv k 0 _ (by omega) hi0)
    refine br_f (by decide) (br_f (by decide) (cy_same h7 hc hv hi0 hf hf' hk ?_))
    dsimp only
    refine cy_nextS h2 h7 (by omega) ?_
    rw [List.range'_succ, List.all_cons] at hp
    by_cases h : cn_qi n c lo hi k (cn_Y n i) = true
    · rw [if_pos (show cn_same n 0 (cn_run lo hi c 0 (cn_ar (cn_Y n i))) (cn_run lo hi (c - (k + 1)) (k + 1) (cn_run lo hi k 0 (cn_ar (cn_Y n i)))) = true from h)]
      simp only [h, Bool.true_and] at hp
      exact ih (i + 1) _ _ (by omega) hz2 hz hp
    · rw [if_neg (show ¬ cn_same n 0 (cn_run lo hi c 0 (cn_ar (cn_Y n i))) (cn_run lo hi (c - (k + 1)) (k + 1) (cn_run lo hi k 0 (cn_ar (cn_Y n i)))) = true from h)]
      rw [Bool.not_eq_true] at h
      simp only [h, Bool.false_and] at hp
      exact br_f (by decide) (br_t rfl (hp _ _ _ hi1 hz2 hz))
theorem cy_idle4 {post : Int32 → SY → Prop} (h2 : 2 ≤ n) (h7 : n ≤ 7) (hc : c ≤ 24) (hv : cn_V n c lo hi) : ∀ (d k e : Nat) (o f f' : Nat → Int32), k + d = c → cn_Z n o → cn_Z n f → cn_Z n f' → (∀ o f f', cn_Z n o → cn_Z n f → cn_Z n f' → post (nI (e + (List.range' k d).countP (fun k => (List.range' 0 (cn_fac n)).all (fun i => cn_qi n c lo hi k (cn_Y n i))))) (nI n, nI c, lo, hi, g, o, f, f', t4)) → wY_idle_4 post (d + 1) (nI e) (nI k) (nI n) (nI c) lo hi g o f f' t4 := by
  have hN := cn_facPos n
  obtain ⟨N, eN⟩ : ∃ N, cn_fac n = N + 1 := ⟨cn_fac n - 1, by omega⟩
  intro d
  induction d with
  | zero => intro k e o f f' hk ho hf hf' hp; exact br_t (nI_le (by omega) (by omega)) (hp o f f' ho hf hf')
  | succ d ih =>
    intro k e o f f' hk ho hf hf' hp
    refine br_f (nI_ge (by omega) (by omega)) (cy_first h2 h7 ho ?_)
    dsimp only
    refine ⟨N + 2, cy_idle21 h2 h7 hc hv (by omega) N 0 f f' (by omega) hf hf' ?_⟩
    rw [← eN]
    intro o' p p' z1 z2 z3
    simp only [cn_cnt] at hp
    by_cases h : (List.range' 0 (cn_fac n)).all (fun i => cn_qi n c lo hi k (cn_Y n i)) = true
    · simp only [if_pos h, ← Nat.add_assoc] at hp
      rw [if_pos h]
      exact br_f (by decide) (nm_r (nI_1 e) (nm_r (nI_1 k) (ih (k + 1) (e + 1) _ _ _ (by omega) z1 z2 z3 hp)))
    · simp only [if_neg h, Nat.zero_add] at hp
      rw [if_neg h]
      exact br_t rfl (nm_r (nI_1 k) (ih (k + 1) e _ _ _ (by omega) z1 z2 z3 hp))
theorem cy_mx {m r : Int32} : cn_mx m r = if r ≤ m then m else r := by
  unfold cn_mx
  by_cases h : m ≤ r
  · rw [if_pos h]
    by_cases h' : r ≤ m
    · rw [if_pos h']; exact Int32.le_antisymm h' h
    · rw [if_neg h']
  · rw [if_neg h, if_pos (Int32.le_of_lt (Int32.not_le.mp h))]
theorem cy_rounds27 {post : Int32 → SY → Prop} (h7 : n ≤ 7) (hc : c ≤ 24) (hv : cn_V n c lo hi) : ∀ (d k : Nat) (f : Nat → Int32) (m : Int32), k + d = c → cn_Z n f → (∀ f', cn_Z n f' → post (cn_rd lo hi d k f m) (nI n, nI c, lo, hi, g, t1, t2, t3, f')) → wY_rounds_27 post (nI n) (nI c) (d + 1) m (nI k) lo hi g t1 t2 t3 f := by
  intro d
  induction d with
  | zero => intro k f m hk hf hp; exact br_t (nI_le (by omega) (by omega)) (hp f hf)
  | succ d ih =>
    intro k f m hk hf hp
    obtain ⟨a, b, ha, hb, ea, eb⟩ := hv k (by omega)
    have ca := cn_cl ha h7
    have cb := cn_cl hb h7
    have ck : (nI k).toNatClampNeg = k := nI_clamp (by omega)
    have ik : vp_in (nI k) 24 := vp_in_nI (by omega) (by omega)
    have ia : vp_in (nI a) 7 := vp_in_nI (by omega) (by omega)
    have ib : vp_in (nI b) 7 := vp_in_nI (by omega) (by omega)
    have hq : ∀ f', cn_Z n f' → post (cn_rd lo hi d (k + 1) (upd (upd f (lo k).toNatClampNeg (1 + cn_mx (f (lo k).toNatClampNeg) (f (hi k).toNatClampNeg))) (hi k).toNatClampNeg (1 + cn_mx (f (lo k).toNatClampNeg) (f (hi k).toNatClampNeg))) (cn_mx m (1 + cn_mx (f (lo k).toNatClampNeg) (f (hi k).toNatClampNeg)))) (nI n, nI c, lo, hi, g, t1, t2, t3, f') := hp
    rw [ea, eb, ca, cb] at hq
    have fin : ∀ r : Int32, r = 1 + cn_mx (f a) (f b) → wY_rounds_86 post (wY_rounds_27 post (nI n) (nI c) (d + 1)) m (nI k) (nI a) (nI b) r (nI n) (nI c) lo hi g t1 t2 t3 f := by
      intro r er
      rw [← er, cy_mx (m := m)] at hq
      have hz : cn_Z n (upd (upd f a r) b r) := cn_updZ (cn_updZ hf ha) hb
      refine ⟨ia, nm_r (e' := upd f a r) (by rw [ca]) ⟨ib, nm_r (e' := upd (upd f a r) b r) (by rw [cb]) ?_⟩⟩
      by_cases h : r ≤ m
      · rw [if_pos h] at hq
        exact br_t h (nm_r (nI_1 k) (ih (k + 1) _ _ (by omega) hz hq))
      · rw [if_neg h] at hq
        exact br_f h (nm_r (nI_1 k) (ih (k + 1) _ _ (by omega) hz hq))
    refine br_f (nI_ge (by omega) (by omega)) ⟨ik, nm_r (e' := nI a) (by rw [ck]; exact ea) ⟨ik, nm_r (e' := nI b) (by rw [ck]; exact eb) ⟨ia, ib, ?_⟩⟩⟩
    rw [ca, cb]
    by_cases h : f a ≤ f b
    · exact br_t h ⟨ib, fin _ (by rw [cn_mx, if_pos h, Int32.add_comm])⟩
    · exact br_f h ⟨ia, fin _ (by rw [cn_mx, if_neg h, Int32.add_comm])⟩
theorem cy_rounds2 {post : Int32 → SY → Prop} (h7 : n ≤ 7) (hc : c ≤ 24) (hv : cn_V n c lo hi) (hp : ∀ f', cn_Z n f' → post (cn_rd lo hi c 0 (fun _ => 0) 0) (nI n, nI c, lo, hi, g, t1, t2, t3, f')) : ∀ (d k : Nat) (f : Nat → Int32), k + d = n → (∀ j, j < k → f j = 0) → cn_Z n f → wY_rounds_2 post (nI n) (nI c) (d + 1) (nI k) lo hi g t1 t2 t3 f := by
  intro d
  induction d with
  | zero =>
    intro k f hk h1 h2
    have e : f = (fun _ => 0) := by
      funext j
      by_cases hj : j < k
      · exact h1 j hj
      · exact h2 j (by omega)
    subst e
    exact br_t (nI_le (by omega) (by omega)) ⟨c + 1, cy_rounds27 h7 hc hv c 0 _ 0 (by omega) h2 hp⟩
  | succ d ih =>
    intro k f hk h1 h2
    have ck : (nI k).toNatClampNeg = k := nI_clamp (by omega)
    have ik : vp_in (nI k) 7 := vp_in_nI (by omega) (by omega)
    refine br_f (nI_ge (by omega) (by omega)) ⟨ik, nm_r (e' := upd f k 0) (by rw [ck]) (nm_r (nI_1 k) (ih (k + 1) _ (by omega) ?_ (cn_updZ h2 (by omega))))⟩
    intro j hj
    by_cases e : j = k
    · rw [e, pk_us]
    · rw [pk_un e]; exact h1 j (by omega)
end
