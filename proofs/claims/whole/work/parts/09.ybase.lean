section
variable {n c : Nat} {fn fs : Int32} {lo hi g t1 t2 t3 t4 : Nat → Int32}
theorem cy_noW0 {post : Int32 → Prop} {j : Nat} (hj : j < n) (h7 : n ≤ 7) (h : post 0) : wpY_noWire post (nI n, fs, lo, hi, g, t1, t2, t3, t4) (nI j) := br_f (nI_pos (by omega)) (br_t (nI_lt hj (by omega)) h)
theorem cy_noW1 {post : Int32 → Prop} {w : Int32} (hw : w < 0 ∨ nI n ≤ w) (h : post 1) : wpY_noWire post (nI n, fs, lo, hi, g, t1, t2, t3, t4) w := br_c (fun _ => h) (fun z => hw.elim (fun a => absurd a z) (fun b => br_f (Int32.not_lt.mpr b) h))
theorem cy_is1 {post : Int32 → Prop} {j : Nat} (hj : j < c) (hc : c ≤ 24) (h : post 1) : wpY_is post (fn, nI c, lo, hi, g, t1, t2, t3, t4) (nI j) := br_f (nI_pos (by omega)) (br_f (nI_ge hj (by omega)) h)
theorem cy_is0 {post : Int32 → Prop} {w : Int32} (hw : w < 0 ∨ nI c ≤ w) (h : post 0) : wpY_is post (fn, nI c, lo, hi, g, t1, t2, t3, t4) w := br_c (fun _ => h) (fun z => hw.elim (fun a => absurd a z) (fun b => br_t b h))
theorem cy_compare {post : Int32 → SY → Prop} (h7 : n ≤ 7) (hc : c ≤ 24) (hv : cn_V n c lo hi) {k : Nat} (hk : k < c) (hp : post (nI (cn_E lo hi k t2)) (fn, fs, lo, hi, g, t1, cn_S lo hi k t2, t3, t4)) : wpY_compare post (fn, fs, lo, hi, g, t1, t2, t3, t4) (nI k) := by
  obtain ⟨a, b, ha, hb, ea, eb⟩ := hv k hk
  have ca := cn_cl ha h7
  have cb := cn_cl hb h7
  have ck : (nI k).toNatClampNeg = k := nI_clamp (by omega)
  have ik : vp_in (nI k) 24 := vp_in_nI (by omega) (by omega)
  have ia : vp_in (nI a) 7 := vp_in_nI (by omega) (by omega)
  have ib : vp_in (nI b) 7 := vp_in_nI (by omega) (by omega)
  have hS : cn_S lo hi k t2 = cn_s a b t2 := by unfold cn_S; rw [ea, eb, ca, cb]
  have hE : cn_E lo hi k t2 = cn_e a b t2 := by unfold cn_E; rw [ea, eb, ca, cb]
  rw [hS, hE] at hp
  refine ⟨ik, nm_r (e' := nI a) (by rw [ck]; exact ea) ⟨ik, nm_r (e' := nI b) (by rw [ck]; exact eb) ⟨ia, ib, ?_⟩⟩⟩
  rw [ca, cb]
  by_cases hle : t2 a ≤ t2 b
  · have s0 : cn_s a b t2 = t2 := if_pos hle
    have e0 : cn_e a b t2 = 0 := if_pos hle
    rw [s0, e0] at hp
    exact br_f (Int32.not_lt.mpr hle) hp
  · have s1 : cn_s a b t2 = upd (upd t2 a (t2 b)) b (t2 a) := if_neg hle
    have e1 : cn_e a b t2 = 1 := if_neg hle
    rw [s1, e1] at hp
    exact br_t (Int32.not_le.mp hle) ⟨ia, nm_e ⟨ib, ia, nm_e ⟨ib, nm_e hp⟩⟩⟩
theorem cy_cp_output {post : Int32 → SY → Prop} {x1 : Int32} (h7 : n ≤ 7) (hp : ∃ m : Nat, wY_output_40 post x1 m 0 (nI n) fs lo hi g t1 g t3 t4) : ∀ (d k : Nat) (f : Nat → Int32), k + d = n → (∀ j, j < k → f j = g j) → (∀ j, n ≤ j → f j = g j) → wY_output_12 post x1 (nI n) fs (d + 1) (nI k) lo hi g t1 f t3 t4 := by
  intro d
  induction d with
  | zero =>
    intro k f hk h1 h2
    have e : f = g := by
      funext j
      by_cases hj : j < k
      · exact h1 j hj
      · exact h2 j (by omega)
    subst e
    exact br_t (nI_le (by omega) (by omega)) hp
  | succ d ih =>
    intro k f hk h1 h2
    have ck : (nI k).toNatClampNeg = k := nI_clamp (by omega)
    have ik : vp_in (nI k) 7 := vp_in_nI (by omega) (by omega)
    refine br_f (nI_ge (by omega) (by omega)) ⟨ik, ik, nm_r (e' := upd f k (g k)) (by rw [ck]) (nm_r (nI_1 k) (ih (k + 1) _ (by omega) ?_ ?_))⟩
    · intro j hj
      by_cases e : j = k
      · rw [e, pk_us]
      · rw [pk_un e]; exact h1 j (by omega)
    · intro j hj
      rw [pk_un (by omega)]; exact h2 j hj
theorem cy_copy_output {post : Int32 → SY → Prop} {x1 : Int32} (h7 : n ≤ 7) (f : Nat → Int32) (hz : cn_Z n g) (hf : cn_Z n f) (hp : ∃ m : Nat, wY_output_40 post x1 m 0 (nI n) fs lo hi g t1 g t3 t4) : ∃ m : Nat, wY_output_12 post x1 (nI n) fs m 0 lo hi g t1 f t3 t4 :=
  ⟨n + 1, cy_cp_output h7 hp n 0 f (by omega) (fun j hj => absurd hj (by omega)) (fun j hj => by rw [hf j hj, hz j hj])⟩
theorem cy_cp_exchanges {post : Int32 → SY → Prop} (h7 : n ≤ 7) (hp : ∃ m : Nat, wY_exchanges_32 post m 0 0 (nI n) fs lo hi g t1 g t3 t4) : ∀ (d k : Nat) (f : Nat → Int32), k + d = n → (∀ j, j < k → f j = g j) → (∀ j, n ≤ j → f j = g j) → wY_exchanges_2 post (nI n) fs (d + 1) (nI k) lo hi g t1 f t3 t4 := by
  intro d
  induction d with
  | zero =>
    intro k f hk h1 h2
    have e : f = g := by
      funext j
      by_cases hj : j < k
      · exact h1 j hj
      · exact h2 j (by omega)
    subst e
    exact br_t (nI_le (by omega) (by omega)) hp
  | succ d ih =>
    intro k f hk h1 h2
    have ck : (nI k).toNatClampNeg = k := nI_clamp (by omega)
    have ik : vp_in (nI k) 7 := vp_in_nI (by omega) (by omega)
    refine br_f (nI_ge (by omega) (by omega)) ⟨ik, ik, nm_r (e' := upd f k (g k)) (by rw [ck]) (nm_r (nI_1 k) (ih (k + 1) _ (by omega) ?_ ?_))⟩
    · intro j hj
      by_cases e : j = k
      · rw [e, pk_us]
      · rw [pk_un e]; exact h1 j (by omega)
    · intro j hj
      rw [pk_un (by omega)]; exact h2 j hj
theorem cy_copy_exchanges {post : Int32 → SY → Prop} (h7 : n ≤ 7) (f : Nat → Int32) (hz : cn_Z n g) (hf : cn_Z n f) (hp : ∃ m : Nat, wY_exchanges_32 post m 0 0 (nI n) fs lo hi g t1 g t3 t4) : ∃ m : Nat, wY_exchanges_2 post (nI n) fs m 0 lo hi g t1 f t3 t4 :=
  ⟨n + 1, cy_cp_exchanges h7 hp n 0 f (by omega) (fun j hj => absurd hj (by omega)) (fun j hj => by rw [hf j hj, hz j hj])⟩
theorem cy_cp_pass {post : SY → Prop} {x1 : Int32} (h7 : n ≤ 7) (hp : ∃ m : Nat, wY_pass_30 post x1 m 0 (nI n) fs lo hi g t1 t1 t3 t4) : ∀ (d k : Nat) (f : Nat → Int32), k + d = n → (∀ j, j < k → f j = t1 j) → (∀ j, n ≤ j → f j = t1 j) → wY_pass_2 post x1 (nI n) fs (d + 1) (nI k) lo hi g t1 f t3 t4 := by
  intro d
  induction d with
  | zero =>
    intro k f hk h1 h2
    have e : f = t1 := by
      funext j
      by_cases hj : j < k
      · exact h1 j hj
      · exact h2 j (by omega)
    subst e
    exact br_t (nI_le (by omega) (by omega)) hp
  | succ d ih =>
    intro k f hk h1 h2
    have ck : (nI k).toNatClampNeg = k := nI_clamp (by omega)
    have ik : vp_in (nI k) 7 := vp_in_nI (by omega) (by omega)
    refine br_f (nI_ge (by omega) (by omega)) ⟨ik, ik, nm_r (e' := upd f k (t1 k)) (by rw [ck]) (nm_r (nI_1 k) (ih (k + 1) _ (by omega) ?_ ?_))⟩
    · intro j hj
      by_cases e : j = k
      · rw [e, pk_us]
      · rw [pk_un e]; exact h1 j (by omega)
    · intro j hj
      rw [pk_un (by omega)]; exact h2 j hj
theorem cy_copy_pass {post : SY → Prop} {x1 : Int32} (h7 : n ≤ 7) (f : Nat → Int32) (hz : cn_Z n t1) (hf : cn_Z n f) (hp : ∃ m : Nat, wY_pass_30 post x1 m 0 (nI n) fs lo hi g t1 t1 t3 t4) : ∃ m : Nat, wY_pass_2 post x1 (nI n) fs m 0 lo hi g t1 f t3 t4 :=
  ⟨n + 1, cy_cp_pass h7 hp n 0 f (by omega) (fun j hj => absurd hj (by omega)) (fun j hj => by rw [hf j hj, hz j hj])⟩
theorem cy_cp_works {post : Int32 → SY → Prop} {J : Int32 → Int32 → Int32 → Int32 → (Nat → Int32) → (Nat → Int32) → (Nat → Int32) → (Nat → Int32) → (Nat → Int32) → (Nat → Int32) → (Nat → Int32) → Prop} {x1 x2 : Int32} (h7 : n ≤ 7) (hp : ∃ m : Nat, wY_works_61 post J x1 x2 m 0 0 (nI n) fs lo hi g t1 t1 t3 t4) : ∀ (d k : Nat) (f : Nat → Int32), k + d = n → (∀ j, j < k → f j = t1 j) → (∀ j, n ≤ j → f j = t1 j) → wY_works_26 post J x1 x2 (nI n) fs (d + 1) (nI k) lo hi g t1 f t3 t4 := by
  intro d
  induction d with
  | zero =>
    intro k f hk h1 h2
    have e : f = t1 := by
      funext j
      by_cases hj : j < k
      · exact h1 j hj
      · exact h2 j (by omega)
    subst e
    exact br_t (nI_le (by omega) (by omega)) hp
  | succ d ih =>
    intro k f hk h1 h2
    have ck : (nI k).toNatClampNeg = k := nI_clamp (by omega)
    have ik : vp_in (nI k) 7 := vp_in_nI (by omega) (by omega)
    refine br_f (nI_ge (by omega) (by omega)) ⟨ik, ik, nm_r (e' := upd f k (t1 k)) (by rw [ck]) (nm_r (nI_1 k) (ih (k + 1) _ (by omega) ?_ ?_))⟩
    · intro j hj
      by_cases e : j = k
      · rw [e, pk_us]
      · rw [pk_un e]; exact h1 j (by omega)
    · intro j hj
      rw [pk_un (by omega)]; exact h2 j hj
theorem cy_copy_works {post : Int32 → SY → Prop} {J : Int32 → Int32 → Int32 → Int32 → (Nat → Int32) → (Nat → Int32) → (Nat → Int32) → (Nat → Int32) → (Nat → Int32) → (Nat → Int32) → (Nat → Int32) → Prop} {x1 x2 : Int32} (h7 : n ≤ 7) (f : Nat → Int32) (hz : cn_Z n t1) (hf : cn_Z n f) (hp : ∃ m : Nat, wY_works_61 post J x1 x2 m 0 0 (nI n) fs lo hi g t1 t1 t3 t4) : ∃ m : Nat, wY_works_26 post J x1 x2 (nI n) fs m 0 lo hi g t1 f t3 t4 :=
  ⟨n + 1, cy_cp_works h7 hp n 0 f (by omega) (fun j hj => absurd hj (by omega)) (fun j hj => by rw [hf j hj, hz j hj])⟩
theorem cy_cp_same {post : Int32 → SY → Prop} {x1 : Int32} (h7 : n ≤ 7) (hp : wpY_pass (fun u => match u with | (a1, a2, a3, a4, a5, a6, a7, a8, a9) => (∃ m : Nat, wY_same_40 post a1 a2 a3 a4 a5 a6 a7 a8 a9 m 0)) (nI n, fs, lo, hi, g, t1, t2, t2, t4) x1) : ∀ (d k : Nat) (f : Nat → Int32), k + d = n → (∀ j, j < k → f j = t2 j) → (∀ j, n ≤ j → f j = t2 j) → wY_same_7 post x1 (nI n) fs (d + 1) (nI k) lo hi g t1 t2 f t4 := by
  intro d
  induction d with
  | zero =>
    intro k f hk h1 h2
    have e : f = t2 := by
      funext j
      by_cases hj : j < k
      · exact h1 j hj
      · exact h2 j (by omega)
    subst e
    exact br_t (nI_le (by omega) (by omega)) hp
  | succ d ih =>
    intro k f hk h1 h2
    have ck : (nI k).toNatClampNeg = k := nI_clamp (by omega)
    have ik : vp_in (nI k) 7 := vp_in_nI (by omega) (by omega)
    refine br_f (nI_ge (by omega) (by omega)) ⟨ik, ik, nm_r (e' := upd f k (t2 k)) (by rw [ck]) (nm_r (nI_1 k) (ih (k + 1) _ (by omega) ?_ ?_))⟩
    · intro j hj
      by_cases e : j = k
      · rw [e, pk_us]
      · rw [pk_un e]; exact h1 j (by omega)
    · intro j hj
      rw [pk_un (by omega)]; exact h2 j hj
theorem cy_copy_same {post : Int32 → SY → Prop} {x1 : Int32} (h7 : n ≤ 7) (f : Nat → Int32) (hz : cn_Z n t2) (hf : cn_Z n f) (hp : wpY_pass (fun u => match u with | (a1, a2, a3, a4, a5, a6, a7, a8, a9) => (∃ m : Nat, wY_same_40 post a1 a2 a3 a4 a5 a6 a7 a8 a9 m 0)) (nI n, fs, lo, hi, g, t1, t2, t2, t4) x1) : ∃ m : Nat, wY_same_7 post x1 (nI n) fs m 0 lo hi g t1 t2 f t4 :=
  ⟨n + 1, cy_cp_same h7 hp n 0 f (by omega) (fun j hj => absurd hj (by omega)) (fun j hj => by rw [hf j hj, hz j hj])⟩
theorem cy_out40 {post : Int32 → SY → Prop} (h7 : n ≤ 7) (hc : c ≤ 24) (hv : cn_V n c lo hi) {w : Nat} (hw : w < n) : ∀ (d k : Nat) (f : Nat → Int32), k + d = c → post (cn_run lo hi d k f w) (nI n, nI c, lo, hi, g, t1, cn_run lo hi d k f, t3, t4) → wY_output_40 post (nI w) (d + 1) (nI k) (nI n) (nI c) lo hi g t1 f t3 t4 := by
  have cw := cn_cl hw h7
  intro d
  induction d with
  | zero => intro k f hk hp; exact br_t (nI_le (by omega) (by omega)) ⟨vp_in_nI (by omega) (by omega), by rw [cw]; exact hp⟩
  | succ d ih =>
    intro k f hk hp
    refine br_f (nI_ge (by omega) (by omega)) (cy_compare h7 hc hv (by omega) ?_)
    dsimp only
    exact nm_r (nI_1 k) (ih (k + 1) _ (by omega) hp)
theorem cy_exc32 {post : Int32 → SY → Prop} (h7 : n ≤ 7) (hc : c ≤ 24) (hv : cn_V n c lo hi) : ∀ (d k e : Nat) (f : Nat → Int32), k + d = c → post (nI (e + cn_exc lo hi d k f)) (nI n, nI c, lo, hi, g, t1, cn_run lo hi d k f, t3, t4) → wY_exchanges_32 post (d + 1) (nI e) (nI k) (nI n) (nI c) lo hi g t1 f t3 t4 := by
  intro d
  induction d with
  | zero => intro k e f hk hp; exact br_t (nI_le (by omega) (by omega)) hp
  | succ d ih =>
    intro k e f hk hp
    have hq : post (nI (e + (cn_E lo hi k f + cn_exc lo hi d (k + 1) (cn_S lo hi k f)))) (nI n, nI c, lo, hi, g, t1, cn_run lo hi d (k + 1) (cn_S lo hi k f), t3, t4) := hp
    refine br_f (nI_ge (by omega) (by omega)) (cy_compare h7 hc hv (by omega) ?_)
    dsimp only
    rcases cn_E01 lo hi k f with h | h
    · rw [h, Nat.zero_add] at hq
      rw [h]
      exact br_t rfl (nm_r (nI_1 k) (ih (k + 1) e _ (by omega) hq))
    · rw [h, ← Nat.add_assoc] at hq
      rw [h]
      exact br_f (by decide) (nm_r (nI_1 e) (nm_r (nI_1 k) (ih (k + 1) (e + 1) _ (by omega) hq)))
theorem cy_pass30 {post : SY → Prop} (h7 : n ≤ 7) (hc : c ≤ 24) (hv : cn_V n c lo hi) {x : Int32} : ∀ (d k : Nat) (f : Nat → Int32), k + d = c → (∀ j, k ≤ j → j < c → ¬ nI j = x) → post (nI n, nI c, lo, hi, g, t1, cn_run lo hi d k f, t3, t4) → wY_pass_30 post x (d + 1) (nI k) (nI n) (nI c) lo hi g t1 f t3 t4 := by
  intro d
  induction d with
  | zero => intro k f hk hx hp; exact br_t (nI_le (by omega) (by omega)) hp
  | succ d ih =>
    intro k f hk hx hp
    refine br_f (nI_ge (by omega) (by omega)) (br_f (hx k (by omega) (by omega)) (cy_compare h7 hc hv (by omega) ?_))
    dsimp only
    exact nm_r (nI_1 k) (ih (k + 1) _ (by omega) (fun j h1 h2 => hx j (by omega) h2) hp)
theorem cy_pass30w {post : SY → Prop} (h7 : n ≤ 7) (hc : c ≤ 24) (hv : cn_V n c lo hi) {w : Nat} (hw : w < c) : ∀ (d k : Nat) (f : Nat → Int32), k + d = w → post (nI n, nI c, lo, hi, g, t1, cn_run lo hi (c - (w + 1)) (w + 1) (cn_run lo hi d k f), t3, t4) → wY_pass_30 post (nI w) (d + 1 + (c - (w + 1) + 1)) (nI k) (nI n) (nI c) lo hi g t1 f t3 t4 := by
  intro d
  induction d with
  | zero =>
    intro k f hk hp
    have e : k = w := by omega
    subst e
    rw [show 0 + 1 + (c - (k + 1) + 1) = (c - (k + 1) + 1) + 1 by omega]
    refine br_f (nI_ge (by omega) (by omega)) (br_t rfl (nm_r (nI_1 k) (cy_pass30 h7 hc hv (c - (k + 1)) (k + 1) f (by omega) ?_ hp)))
    intro j h1 h2
    rw [nI_eq (by omega) (by omega)]
    omega
  | succ d ih =>
    intro k f hk hp
    rw [show d + 1 + 1 + (c - (w + 1) + 1) = (d + 1 + (c - (w + 1) + 1)) + 1 by omega]
    refine br_f (nI_ge (by omega) (by omega)) (br_f (by rw [nI_eq (by omega) (by omega)]; omega) (cy_compare h7 hc hv (by omega) ?_))
    dsimp only
    exact nm_r (nI_1 k) (ih (k + 1) _ (by omega) hp)
theorem cy_m1 {j : Nat} (h : j < 24) : ¬ nI j = -1 := by
  intro e
  have : nI j < 0 := by rw [e]; decide
  exact nI_pos (by omega) this
theorem cy_pass {post : SY → Prop} (h7 : n ≤ 7) (hc : c ≤ 24) (hv : cn_V n c lo hi) (h1 : cn_Z n t1) (h2 : cn_Z n t2) (hp : post (nI n, nI c, lo, hi, g, t1, cn_run lo hi c 0 t1, t3, t4)) : wpY_pass post (nI n, nI c, lo, hi, g, t1, t2, t3, t4) (-1) :=
  cy_copy_pass h7 t2 h1 h2 ⟨c + 1, cy_pass30 h7 hc hv c 0 t1 (by omega) (fun j _ h => cy_m1 (by omega)) hp⟩
theorem cy_passw {post : SY → Prop} (h7 : n ≤ 7) (hc : c ≤ 24) (hv : cn_V n c lo hi) (h1 : cn_Z n t1) (h2 : cn_Z n t2) {w : Nat} (hw : w < c) (hp : post (nI n, nI c, lo, hi, g, t1, cn_run lo hi (c - (w + 1)) (w + 1) (cn_run lo hi w 0 t1), t3, t4)) : wpY_pass post (nI n, nI c, lo, hi, g, t1, t2, t3, t4) (nI w) :=
  cy_copy_pass h7 t2 h1 h2 ⟨w + 1 + (c - (w + 1) + 1), cy_pass30w h7 hc hv hw w 0 t1 (by omega) hp⟩
theorem cy_srt {post : Int32 → Prop} (h7 : n ≤ 7) : ∀ (d k : Nat), k + d = n → post (if cn_srt d k t2 = true then 1 else 0) → wY_isSorted_2 post (nI n) fs lo hi g t1 t2 t3 t4 (d + 1) (nI k) := by
  intro d
  induction d with
  | zero => intro k hk hp; exact br_t (nI_le (by omega) (by omega)) hp
  | succ d ih =>
    intro k hk hp
    have ck : (nI k).toNatClampNeg = k := nI_clamp (by omega)
    have ik : vp_in (nI k) 7 := vp_in_nI (by omega) (by omega)
    rw [cn_srt] at hp
    refine br_f (nI_ge (by omega) (by omega)) ⟨ik, ?_⟩
    by_cases h : t2 k = nI (k + 1)
    · rw [if_pos h] at hp
      exact br_t (by rw [ck, nI_1]; exact h) (nm_r (nI_1 k) (ih (k + 1) (by omega) hp))
    · rw [if_neg h] at hp
      exact br_f (by rw [ck, nI_1]; exact h) hp
theorem cy_isSorted {post : Int32 → Prop} (h7 : n ≤ 7) (hp : post (if cn_srt n 0 t2 = true then 1 else 0)) : wpY_isSorted post (nI n, fs, lo, hi, g, t1, t2, t3, t4) := ⟨n + 1, cy_srt h7 n 0 (by omega) hp⟩
theorem cy_same40 {post : Int32 → SY → Prop} (h7 : n ≤ 7) : ∀ (d k : Nat), k + d = n → post (if cn_same d k t3 t2 = true then 1 else 0) (nI n, fs, lo, hi, g, t1, t2, t3, t4) → wY_same_40 post (nI n) fs lo hi g t1 t2 t3 t4 (d + 1) (nI k) := by
  intro d
  induction d with
  | zero => intro k hk hp; exact br_t (nI_le (by omega) (by omega)) hp
  | succ d ih =>
    intro k hk hp
    have ck : (nI k).toNatClampNeg = k := nI_clamp (by omega)
    have ik : vp_in (nI k) 7 := vp_in_nI (by omega) (by omega)
    rw [cn_same] at hp
    refine br_f (nI_ge (by omega) (by omega)) ⟨ik, ik, ?_⟩
    by_cases h : t3 k = t2 k
    · rw [if_pos h] at hp
      exact br_t (by rw [ck]; exact h) (nm_r (nI_1 k) (ih (k + 1) (by omega) hp))
    · rw [if_neg h] at hp
      exact br_f (by rw [ck]; exact h) hp
theorem cy_same {post : Int32 → SY → Prop} (h7 : n ≤ 7) (hc : c ≤ 24) (hv : cn_V n c lo hi) (h1 : cn_Z n t1) (h2 : cn_Z n t2) (h3 : cn_Z n t3) {w : Nat} (hw : w < c) (hp : post (if cn_same n 0 (cn_run lo hi c 0 t1) (cn_run lo hi (c - (w + 1)) (w + 1) (cn_run lo hi w 0 t1)) = true then 1 else 0) (nI n, nI c, lo, hi, g, t1, cn_run lo hi (c - (w + 1)) (w + 1) (cn_run lo hi w 0 t1), cn_run lo hi c 0 t1, t4)) : wpY_same post (nI n, nI c, lo, hi, g, t1, t2, t3, t4) (nI w) := by
  have hz : cn_Z n (cn_run lo hi c 0 t1) := cn_runZ h7 hv c 0 _ (by omega) h1
  unfold wpY_same
  dsimp only
  refine cy_pass h7 hc hv h1 h2 ?_
  dsimp only
  refine cy_copy_same h7 t3 hz h3 ?_
  refine cy_passw h7 hc hv h1 hz hw ?_
  exact ⟨n + 1, cy_same40 h7 n 0 (by omega) hp⟩
theorem cy_turn2 {post : Int32 → SY → Prop} (hc : c ≤ 24) : ∀ (d k : Nat) (lo hi : Nat → Int32), k + d = c → post (nI c) (nI n, nI c, (cn_tn n d k lo hi).1, (cn_tn n d k lo hi).2, g, t1, t2, t3, t4) → wY_turn_2 post (nI n) (nI c) (d + 1) (nI k) lo hi g t1 t2 t3 t4 := by
  intro d
  induction d with
  | zero => intro k lo hi hk hp; exact br_t (nI_le (by omega) (by omega)) hp
  | succ d ih =>
    intro k lo hi hk hp
    have ck : (nI k).toNatClampNeg = k := nI_clamp (by omega)
    have ik : vp_in (nI k) 24 := vp_in_nI (by omega) (by omega)
    exact br_f (nI_ge (by omega) (by omega)) ⟨ik, nm_r (e' := lo k) (by rw [ck]) ⟨ik, ik, nm_r (e' := upd lo k (nI n - 1 - hi k)) (by rw [ck]) ⟨ik, nm_r (e' := upd hi k (nI n - 1 - lo k)) (by rw [ck]) (nm_r (nI_1 k) (ih (k + 1) _ _ (by omega) hp))⟩⟩⟩
theorem cy_drop23 {post : Int32 → SY → Prop} (hc : c + 1 ≤ 24) : ∀ (d k : Nat) (lo hi : Nat → Int32), k + d = c → post (nI c) (nI n, nI c, (cn_dp d k lo hi).1, (cn_dp d k lo hi).2, g, t1, t2, t3, t4) → wY_drop_23 post (nI n) (nI c) (d + 1) (nI k) lo hi g t1 t2 t3 t4 := by
  intro d
  induction d with
  | zero => intro k lo hi hk hp; exact br_t (nI_le (by omega) (by omega)) hp
  | succ d ih =>
    intro k lo hi hk hp
    have ck : (nI k).toNatClampNeg = k := nI_clamp (by omega)
    have ck1 : (nI k + 1).toNatClampNeg = k + 1 := by rw [nI_1]; exact nI_clamp (by omega)
    have ik : vp_in (nI k) 24 := vp_in_nI (by omega) (by omega)
    have ik1 : vp_in (nI k + 1) 24 := by rw [nI_1]; exact vp_in_nI (by omega) (by omega)
    exact br_f (nI_ge (by omega) (by omega)) ⟨ik1, ik, nm_r (e' := upd lo k (lo (k + 1))) (by rw [ck, ck1]) ⟨ik1, ik, nm_r (e' := upd hi k (hi (k + 1))) (by rw [ck, ck1]) (nm_r (nI_1 k) (ih (k + 1) _ _ (by omega) hp))⟩⟩
theorem cy_all4 {post : Int32 → Prop} (h7 : n ≤ 7) (hp : post (nI (cn_fac n))) : ∀ (d q : Nat), q + d = n → wY_all_4 post (nI n) fs lo hi g t1 t2 t3 t4 (d + 1) (nI (cn_fac q)) (nI (q + 1)) := by
  intro d
  induction d with
  | zero =>
    intro q hq
    have e : q = n := by omega
    subst e
    exact br_t (nI_lt (by omega) (by omega)) hp
  | succ d ih =>
    intro q hq
    refine br_f (nI_nlt (by omega) (by omega)) (nm_r (e' := nI (cn_fac (q + 1))) ?_ (nm_r (nI_1 (q + 1)) (ih (q + 1) (by omega))))
    rw [pk_mul, Nat.mul_comm]
    rfl
theorem cy_all {post : Int32 → Prop} (h2 : 2 ≤ n) (h7 : n ≤ 7) (hp : post (nI (cn_fac n))) : wpY_all post (nI n, fs, lo, hi, g, t1, t2, t3, t4) := ⟨(n - 1) + 1, cy_all4 h7 hp (n - 1) 1 (by omega)⟩
end
