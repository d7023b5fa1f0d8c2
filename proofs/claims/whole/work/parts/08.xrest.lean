def cn_tn (n : Nat) : Nat → Nat → (Nat → Int32) → (Nat → Int32) → (Nat → Int32) × (Nat → Int32)
  | 0, _, lo, hi => (lo, hi)
  | d + 1, k, lo, hi => cn_tn n d (k + 1) (upd lo k (nI n - 1 - hi k)) (upd hi k (nI n - 1 - lo k))
def cn_dp : Nat → Nat → (Nat → Int32) → (Nat → Int32) → (Nat → Int32) × (Nat → Int32)
  | 0, _, lo, hi => (lo, hi)
  | d + 1, k, lo, hi => cn_dp d (k + 1) (upd lo k (lo (k + 1))) (upd hi k (hi (k + 1)))
def cn_mx (a b : Int32) : Int32 := if a ≤ b then b else a
def cn_rd (lo hi : Nat → Int32) : Nat → Nat → (Nat → Int32) → Int32 → Int32
  | 0, _, _, m => m
  | d + 1, k, f, m => cn_rd lo hi d (k + 1) (upd (upd f (lo k).toNatClampNeg (1 + cn_mx (f (lo k).toNatClampNeg) (f (hi k).toNatClampNeg))) (hi k).toNatClampNeg (1 + cn_mx (f (lo k).toNatClampNeg) (f (hi k).toNatClampNeg))) (cn_mx m (1 + cn_mx (f (lo k).toNatClampNeg) (f (hi k).toNatClampNeg)))
theorem cn_Vput {n c k a b : Nat} {lo hi : Nat → Int32} (hv : cn_V n c lo hi) (ha : a < n) (hb : b < n) : cn_V n c (upd lo k (nI a)) (upd hi k (nI b)) := by
  intro j hj
  by_cases e : j = k
  · exact ⟨a, b, ha, hb, by rw [e, pk_us], by rw [e, pk_us]⟩
  · obtain ⟨a', b', h1, h2, h3, h4⟩ := hv j hj
    exact ⟨a', b', h1, h2, by rw [pk_un e, h3], by rw [pk_un e, h4]⟩
theorem cn_turn1 {n b : Nat} (hb : b < n) : nI n - 1 - nI b = nI (n - 1 - b) := by
  obtain ⟨m, rfl⟩ : ∃ m, n = m + 1 := ⟨n - 1, by omega⟩
  rw [nI_pred, pk_sub (by omega)]
  rfl
theorem cn_tnV {n c : Nat} : ∀ (d k : Nat) (lo hi : Nat → Int32), k + d ≤ c → cn_V n c lo hi → cn_V n c (cn_tn n d k lo hi).1 (cn_tn n d k lo hi).2 := by
  intro d
  induction d with
  | zero => intro k lo hi _ h; exact h
  | succ d ih =>
    intro k lo hi hk h
    obtain ⟨a, b, ha, hb, ea, eb⟩ := h k (by omega)
    refine ih (k + 1) _ _ (by omega) ?_
    rw [ea, eb, cn_turn1 ha, cn_turn1 hb]
    exact cn_Vput h (by omega) (by omega)
theorem cn_dpV {n c : Nat} : ∀ (d k : Nat) (lo hi : Nat → Int32), k + d < c → cn_V n c lo hi → cn_V n c (cn_dp d k lo hi).1 (cn_dp d k lo hi).2 := by
  intro d
  induction d with
  | zero => intro k lo hi _ h; exact h
  | succ d ih =>
    intro k lo hi hk h
    obtain ⟨a, b, ha, hb, ea, eb⟩ := h (k + 1) (by omega)
    refine ih (k + 1) _ _ (by omega) ?_
    rw [ea, eb]
    exact cn_Vput h ha hb
section
variable {n c : Nat} {fo fc : Int32} {lo hi g f1 f2 f3 : Nat → Int32}
theorem cx_fac4 {post : Int32 → Prop} (h7 : n ≤ 7) (hp : post (nI (cn_fac n))) : ∀ (d q : Nat), q + d = n → wX_factorial_4 post (nI n) (d + 1) (nI (cn_fac q)) (nI (q + 1)) := by
  intro d
  induction d with
  | zero =>
    intro q hq
    have e : q = n := by omega
    subst e
    exact br_t (nI_lt (by omega) (by omega)) hp
  | succ d ih =>
    intro q hq
    refine br_f (nI_nlt (by omega) (by omega)) (nm_r (e' := nI (cn_fac (q + 1))) ?_ (nm_r (nI_1 (q + 1)) (ih (q + 1) (by omega))))
    rw [pk_mul, Nat.mul_comm]
    rfl
theorem cx_factorial {post : Int32 → Prop} (h2 : 2 ≤ n) (h7 : n ≤ 7) (hp : post (nI (cn_fac n))) : wpX_factorial post (nI n) := ⟨(n - 1) + 1, cx_fac4 h7 hp (n - 1) 1 (by omega)⟩
theorem cx_turn2 {post : Int32 → SX → Prop} (hc : c ≤ 24) : ∀ (d k : Nat) (lo hi : Nat → Int32), k + d = c → post (nI c) (nI n, fo, nI c, (cn_tn n d k lo hi).1, (cn_tn n d k lo hi).2, g, f1, f2, f3) → wX_turn_2 post (nI n) fo (nI c) (d + 1) (nI k) lo hi g f1 f2 f3 := by
  intro d
  induction d with
  | zero => intro k lo hi hk hp; exact br_t (nI_le (by omega) (by omega)) hp
  | succ d ih =>
    intro k lo hi hk hp
    have ck : (nI k).toNatClampNeg = k := nI_clamp (by omega)
    have ik : vp_in (nI k) 24 := vp_in_nI (by omega) (by omega)
    exact br_f (nI_ge (by omega) (by omega)) ⟨ik, nm_r (e' := lo k) (by rw [ck]) ⟨ik, ik, nm_r (e' := upd lo k (nI n - 1 - hi k)) (by rw [ck]) ⟨ik, nm_r (e' := upd hi k (nI n - 1 - lo k)) (by rw [ck]) (nm_r (nI_1 k) (ih (k + 1) _ _ (by omega) hp))⟩⟩⟩
theorem cx_drop13 {post : Int32 → SX → Prop} (hc : c + 1 ≤ 24) : ∀ (d k : Nat) (lo hi : Nat → Int32), k + d = c → post (nI c) (nI n, fo, nI c, (cn_dp d k lo hi).1, (cn_dp d k lo hi).2, g, f1, f2, f3) → wX_drop_13 post (nI n) fo (nI (c + 1)) (d + 1) (nI k) lo hi g f1 f2 f3 := by
  intro d
  induction d with
  | zero => intro k lo hi hk hp; exact br_t (by rw [nI_pred]; exact nI_le (by omega) (by omega)) (nm_r (nI_pred c) hp)
  | succ d ih =>
    intro k lo hi hk hp
    have ck : (nI k).toNatClampNeg = k := nI_clamp (by omega)
    have ck1 : (nI k + 1).toNatClampNeg = k + 1 := by rw [nI_1]; exact nI_clamp (by omega)
    have ik : vp_in (nI k) 24 := vp_in_nI (by omega) (by omega)
    have ik1 : vp_in (nI k + 1) 24 := by rw [nI_1]; exact vp_in_nI (by omega) (by omega)
    exact br_f (by rw [nI_pred]; exact nI_ge (by omega) (by omega)) ⟨ik1, ik, nm_r (e' := upd lo k (lo (k + 1))) (by rw [ck, ck1]) ⟨ik1, ik, nm_r (e' := upd hi k (hi (k + 1))) (by rw [ck, ck1]) (nm_r (nI_1 k) (ih (k + 1) _ _ (by omega) hp))⟩⟩
theorem cx_greater {post : Int32 → Prop} {p q : Int32} (hp : post (cn_mx p q)) : wpX_greater post p q := by
  unfold cn_mx at hp
  by_cases h : p ≤ q
  · rw [if_pos h] at hp; exact br_t h hp
  · rw [if_neg h] at hp; exact br_f h hp
theorem cx_rounds27 {post : Int32 → SX → Prop} (h7 : n ≤ 7) (hc : c ≤ 24) (hv : cn_V n c lo hi) : ∀ (d k : Nat) (f : Nat → Int32) (m : Int32), k + d = c → cn_Z n f → (∀ f', cn_Z n f' → post (cn_rd lo hi d k f m) (nI n, fo, nI c, lo, hi, g, f1, f2, f')) → wX_rounds_27 post (nI n) fo (nI c) (d + 1) m (nI k) lo hi g f1 f2 f := by
  intro d
  induction d with
  | zero => intro k f m hk hf hp; exact br_t (nI_le (by omega) (by omega)) (hp f hf)
  | succ d ih =>
    intro k f m hk hf hp
    obtain ⟨a, b, ha, hb, ea, eb⟩ := hv k (by omega)
    have ca := cn_cl ha h7
    have cb := cn_cl hb h7
    have ck : (nI k).toNatClampNeg = k := nI_clamp (by omega)
    have ik : vp_in (nI k) 24 := vp_in_nI (by omega) (by omega)
    have ia : vp_in (nI a) 7 := vp_in_nI (by omega) (by omega)
    have ib : vp_in (nI b) 7 := vp_in_nI (by omega) (by omega)
    have hq : ∀ f', cn_Z n f' → post (cn_rd lo hi d (k + 1) (upd (upd f (lo k).toNatClampNeg (1 + cn_mx (f (lo k).toNatClampNeg) (f (hi k).toNatClampNeg))) (hi k).toNatClampNeg (1 + cn_mx (f (lo k).toNatClampNeg) (f (hi k).toNatClampNeg))) (cn_mx m (1 + cn_mx (f (lo k).toNatClampNeg) (f (hi k).toNatClampNeg)))) (nI n, fo, nI c, lo, hi, g, f1, f2, f') := hp
    rw [ea, eb, ca, cb] at hq
    refine br_f (nI_ge (by omega) (by omega)) ⟨ik, nm_r (e' := nI a) (by rw [ck]; exact ea) ⟨ik, nm_r (e' := nI b) (by rw [ck]; exact eb) ⟨ia, ib, ?_⟩⟩⟩
    rw [ca, cb]
    refine cx_greater (nm_e ⟨ia, nm_e ⟨ib, nm_e (cx_greater (nm_r (nI_1 k) ?_))⟩⟩)
    exact ih (k + 1) _ _ (by omega) (cn_updZ (cn_updZ hf ha) hb) hq
theorem cx_rounds2 {post : Int32 → SX → Prop} (h7 : n ≤ 7) (hc : c ≤ 24) (hv : cn_V n c lo hi) (hp : ∀ f', cn_Z n f' → post (cn_rd lo hi c 0 (fun _ => 0) 0) (nI n, fo, nI c, lo, hi, g, f1, f2, f')) : ∀ (d k : Nat) (f : Nat → Int32), k + d = n → (∀ j, j < k → f j = 0) → cn_Z n f → wX_rounds_2 post (nI n) fo (nI c) (d + 1) (nI k) lo hi g f1 f2 f := by
  intro d
  induction d with
  | zero =>
    intro k f hk h1 h2
    have e : f = (fun _ => 0) := by
      funext j
      by_cases hj : j < k
      · exact h1 j hj
      · exact h2 j (by omega)
    subst e
    exact br_t (nI_le (by omega) (by omega)) ⟨c + 1, cx_rounds27 h7 hc hv c 0 _ 0 (by omega) h2 hp⟩
  | succ d ih =>
    intro k f hk h1 h2
    have ck : (nI k).toNatClampNeg = k := nI_clamp (by omega)
    have ik : vp_in (nI k) 7 := vp_in_nI (by omega) (by omega)
    refine br_f (nI_ge (by omega) (by omega)) ⟨ik, nm_r (e' := upd f k 0) (by rw [ck]) (nm_r (nI_1 k) (ih (k + 1) _ (by omega) ?_ (cn_updZ h2 (by omega))))⟩
    intro j hj
    by_cases e : j = k
    · rw [e, pk_us]
    · rw [pk_un e]; exact h1 j (by omega)
end
