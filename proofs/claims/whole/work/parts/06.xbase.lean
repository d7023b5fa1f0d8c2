theorem cn_xoLen : ∀ (d m r : Nat) (l : List Nat), (cn_xo d m r l).length = l.length + d := by
  intro d
  induction d with
  | zero => intro m r l; rfl
  | succ d ih => intro m r l; rw [cn_xo, ih]; simp; omega
theorem cn_XZ {n : Nat} (_ : n ≤ 7) (p : Nat) : cn_Z n (cn_ar (cn_X n p)) := cn_arZ (by rw [cn_X, cn_xoLen]; simp)
section
variable {n c : Nat} {fo fc : Int32} {lo hi g f1 f2 f3 : Nat → Int32}
theorem cx_isW1 {post : Int32 → Prop} {j : Nat} (hj : j < n) (h7 : n ≤ 7) (h : post 1) : wpX_isWire post (nI n, fo, fc, lo, hi, g, f1, f2, f3) (nI j) := br_f (nI_pos (by omega)) (br_f (nI_ge hj (by omega)) h)
theorem cx_isW0 {post : Int32 → Prop} {w : Int32} (hw : w < 0 ∨ nI n ≤ w) (h : post 0) : wpX_isWire post (nI n, fo, fc, lo, hi, g, f1, f2, f3) w := br_c (fun _ => h) (fun z => hw.elim (fun a => absurd a z) (fun b => br_t b h))
theorem cx_isC1 {post : Int32 → Prop} {j : Nat} (hj : j < c) (hc : c ≤ 24) (h : post 1) : wpX_isComparator post (fo, fc, nI c, lo, hi, g, f1, f2, f3) (nI j) := br_f (nI_pos (by omega)) (br_f (nI_ge hj (by omega)) h)
theorem cx_isC0 {post : Int32 → Prop} {w : Int32} (hw : w < 0 ∨ nI c ≤ w) (h : post 0) : wpX_isComparator post (fo, fc, nI c, lo, hi, g, f1, f2, f3) w := br_c (fun _ => h) (fun z => hw.elim (fun a => absurd a z) (fun b => br_t b h))
theorem cx_rt_numbers {post : Int32 → SX → Prop} (h7 : n ≤ 7) (hc : c ≤ 24) (hv : cn_V n c lo hi) : ∀ (d k e : Nat) (f : Nat → Int32), k + d ≤ c → post (nI (e + cn_exc lo hi d k f)) (nI n, fo, nI c, lo, hi, g, cn_run lo hi d k f, f2, f3) → wX_runThrough__numbers_6 post (nI (k + d)) (nI n) fo (nI c) (d + 1) (nI e) (nI k) lo hi g f f2 f3 := by
  intro d
  induction d with
  | zero => intro k e f hk hp; exact br_t (nI_le (by omega) (by omega)) hp
  | succ d ih =>
    intro k e f hk hp
    obtain ⟨a, b, ha, hb, ea, eb⟩ := hv k (by omega)
    have ca := cn_cl ha h7
    have cb := cn_cl hb h7
    have ck : (nI k).toNatClampNeg = k := nI_clamp (by omega)
    have ik : vp_in (nI k) 24 := vp_in_nI (by omega) (by omega)
    have ia : vp_in (nI a) 7 := vp_in_nI (by omega) (by omega)
    have ib : vp_in (nI b) 7 := vp_in_nI (by omega) (by omega)
    have hS : cn_S lo hi k f = cn_s a b f := by unfold cn_S; rw [ea, eb, ca, cb]
    have hE : cn_E lo hi k f = cn_e a b f := by unfold cn_E; rw [ea, eb, ca, cb]
    have hq : post (nI (e + (cn_E lo hi k f + cn_exc lo hi d (k + 1) (cn_S lo hi k f)))) (nI n, fo, nI c, lo, hi, g, cn_run lo hi d (k + 1) (cn_S lo hi k f), f2, f3) := hp
    rw [hS, hE] at hq
    rw [show k + (d + 1) = k + 1 + d by omega]
    refine br_f (nI_ge (by omega) (by omega)) ⟨ik, nm_r (e' := nI a) (by rw [ck]; exact ea) ⟨ik, nm_r (e' := nI b) (by rw [ck]; exact eb) ⟨ia, nm_r (e' := f a) (by rw [ca]) ⟨ib, ?_⟩⟩⟩⟩
    rw [ca, cb]
    by_cases hle : f a ≤ f b
    · have s0 : cn_s a b f = f := if_pos hle
      have e0 : cn_e a b f = 0 := if_pos hle
      rw [s0, e0, Nat.zero_add] at hq
      exact br_t hle (nm_r (nI_1 k) (ih (k + 1) e f (by omega) hq))
    · have s1 : cn_s a b f = upd (upd f a (f b)) b (f a) := if_neg hle
      have e1 : cn_e a b f = 1 := if_neg hle
      rw [s1, e1, ← Nat.add_assoc] at hq
      exact br_f hle ⟨ib, ia, nm_e ⟨ib, nm_e (nm_r (nI_1 e) (nm_r (nI_1 k) (ih (k + 1) (e + 1) _ (by omega) hq)))⟩⟩
theorem cx_run_numbers {post : Int32 → SX → Prop} (h7 : n ≤ 7) (hc : c ≤ 24) (hv : cn_V n c lo hi) (k d t : Nat) (ht : k + d = t) (htc : t ≤ c) (f : Nat → Int32) (hp : post (nI (cn_exc lo hi d k f)) (nI n, fo, nI c, lo, hi, g, cn_run lo hi d k f, f2, f3)) : wpX_runThrough__numbers post (nI n, fo, nI c, lo, hi, g, f, f2, f3) (nI k) (nI t) := by
  subst ht
  exact ⟨d + 1, cx_rt_numbers h7 hc hv d k 0 f htc (by rw [Nat.zero_add]; exact hp)⟩
theorem cx_rt_otherNumbers {post : Int32 → SX → Prop} (h7 : n ≤ 7) (hc : c ≤ 24) (hv : cn_V n c lo hi) : ∀ (d k e : Nat) (f : Nat → Int32), k + d ≤ c → post (nI (e + cn_exc lo hi d k f)) (nI n, fo, nI c, lo, hi, g, f1, cn_run lo hi d k f, f3) → wX_runThrough__otherNumbers_6 post (nI (k + d)) (nI n) fo (nI c) (d + 1) (nI e) (nI k) lo hi g f1 f f3 := by
  intro d
  induction d with
  | zero => intro k e f hk hp; exact br_t (nI_le (by omega) (by omega)) hp
  | succ d ih =>
    intro k e f hk hp
    obtain ⟨a, b, ha, hb, ea, eb⟩ := hv k (by omega)
    have ca := cn_cl ha h7
    have cb := cn_cl hb h7
    have ck : (nI k).toNatClampNeg = k := nI_clamp (by omega)
    have ik : vp_in (nI k) 24 := vp_in_nI (by omega) (by omega)
    have ia : vp_in (nI a) 7 := vp_in_nI (by omega) (by omega)
    have ib : vp_in (nI b) 7 := vp_in_nI (by omega) (by omega)
    have hS : cn_S lo hi k f = cn_s a b f := by unfold cn_S; rw [ea, eb, ca, cb]
    have hE : cn_E lo hi k f = cn_e a b f := by unfold cn_E; rw [ea, eb, ca, cb]
    have hq : post (nI (e + (cn_E lo hi k f + cn_exc lo hi d (k + 1) (cn_S lo hi k f)))) (nI n, fo, nI c, lo, hi, g, f1, cn_run lo hi d (k + 1) (cn_S lo hi k f), f3) := hp
    rw [hS, hE] at hq
    rw [show k + (d + 1) = k + 1 + d by omega]
    refine br_f (nI_ge (by omega) (by omega)) ⟨ik, nm_r (e' := nI a) (by rw [ck]; exact ea) ⟨ik, nm_r (e' := nI b) (by rw [ck]; exact eb) ⟨ia, nm_r (e' := f a) (by rw [ca]) ⟨ib, ?_⟩⟩⟩⟩
    rw [ca, cb]
    by_cases hle : f a ≤ f b
    · have s0 : cn_s a b f = f := if_pos hle
      have e0 : cn_e a b f = 0 := if_pos hle
      rw [s0, e0, Nat.zero_add] at hq
      exact br_t hle (nm_r (nI_1 k) (ih (k + 1) e f (by omega) hq))
    · have s1 : cn_s a b f = upd (upd f a (f b)) b (f a) := if_neg hle
      have e1 : cn_e a b f = 1 := if_neg hle
      rw [s1, e1, ← Nat.add_assoc] at hq
      exact br_f hle ⟨ib, ia, nm_e ⟨ib, nm_e (nm_r (nI_1 e) (nm_r (nI_1 k) (ih (k + 1) (e + 1) _ (by omega) hq)))⟩⟩
theorem cx_run_otherNumbers {post : Int32 → SX → Prop} (h7 : n ≤ 7) (hc : c ≤ 24) (hv : cn_V n c lo hi) (k d t : Nat) (ht : k + d = t) (htc : t ≤ c) (f : Nat → Int32) (hp : post (nI (cn_exc lo hi d k f)) (nI n, fo, nI c, lo, hi, g, f1, cn_run lo hi d k f, f3)) : wpX_runThrough__otherNumbers post (nI n, fo, nI c, lo, hi, g, f1, f, f3) (nI k) (nI t) := by
  subst ht
  exact ⟨d + 1, cx_rt_otherNumbers h7 hc hv d k 0 f htc (by rw [Nat.zero_add]; exact hp)⟩
theorem cx_cp_inputs_numbers {post : SX → Prop} (h7 : n ≤ 7) : ∀ (d k : Nat) (f : Nat → Int32), k + d = n → (∀ j, j < k → f j = g j) → (∀ j, n ≤ j → f j = g j) → post (nI n, fo, fc, lo, hi, g, g, f2, f3) → wX_copyRow__inputs_numbers_2 post (nI n) fo fc (d + 1) (nI k) lo hi g f f2 f3 := by
  intro d
  induction d with
  | zero =>
    intro k f hk h1 h2 hp
    have e : f = g := by
      funext j
      by_cases hj : j < k
      · exact h1 j hj
      · exact h2 j (by omega)
    subst e
    exact br_t (nI_le (by omega) (by omega)) hp
  | succ d ih =>
    intro k f hk h1 h2 hp
    have ck : (nI k).toNatClampNeg = k := nI_clamp (by omega)
    have ik : vp_in (nI k) 7 := vp_in_nI (by omega) (by omega)
    refine br_f (nI_ge (by omega) (by omega)) ⟨ik, ik, nm_r (e' := upd f k (g k)) (by rw [ck]) (nm_r (nI_1 k) (ih (k + 1) _ (by omega) ?_ ?_ hp))⟩
    · intro j hj
      by_cases e : j = k
      · rw [e, pk_us]
      · rw [pk_un e]; exact h1 j (by omega)
    · intro j hj
      rw [pk_un (by omega)]; exact h2 j hj
theorem cx_copy_inputs_numbers {post : SX → Prop} (h7 : n ≤ 7) (f : Nat → Int32) (hz : cn_Z n g) (hf : cn_Z n f) (hp : post (nI n, fo, fc, lo, hi, g, g, f2, f3)) : wpX_copyRow__inputs_numbers post (nI n, fo, fc, lo, hi, g, f, f2, f3) :=
  ⟨n + 1, cx_cp_inputs_numbers h7 n 0 f (by omega) (fun j hj => absurd hj (by omega)) (fun j hj => by rw [hf j hj, hz j hj]) hp⟩
theorem cx_cp_numbers_otherNumbers {post : SX → Prop} (h7 : n ≤ 7) : ∀ (d k : Nat) (f : Nat → Int32), k + d = n → (∀ j, j < k → f j = f1 j) → (∀ j, n ≤ j → f j = f1 j) → post (nI n, fo, fc, lo, hi, g, f1, f1, f3) → wX_copyRow__numbers_otherNumbers_2 post (nI n) fo fc (d + 1) (nI k) lo hi g f1 f f3 := by
  intro d
  induction d with
  | zero =>
    intro k f hk h1 h2 hp
    have e : f = f1 := by
      funext j
      by_cases hj : j < k
      · exact h1 j hj
      · exact h2 j (by omega)
    subst e
    exact br_t (nI_le (by omega) (by omega)) hp
  | succ d ih =>
    intro k f hk h1 h2 hp
    have ck : (nI k).toNatClampNeg = k := nI_clamp (by omega)
    have ik : vp_in (nI k) 7 := vp_in_nI (by omega) (by omega)
    refine br_f (nI_ge (by omega) (by omega)) ⟨ik, ik, nm_r (e' := upd f k (f1 k)) (by rw [ck]) (nm_r (nI_1 k) (ih (k + 1) _ (by omega) ?_ ?_ hp))⟩
    · intro j hj
      by_cases e : j = k
      · rw [e, pk_us]
      · rw [pk_un e]; exact h1 j (by omega)
    · intro j hj
      rw [pk_un (by omega)]; exact h2 j hj
theorem cx_copy_numbers_otherNumbers {post : SX → Prop} (h7 : n ≤ 7) (f : Nat → Int32) (hz : cn_Z n f1) (hf : cn_Z n f) (hp : post (nI n, fo, fc, lo, hi, g, f1, f1, f3)) : wpX_copyRow__numbers_otherNumbers post (nI n, fo, fc, lo, hi, g, f1, f, f3) :=
  ⟨n + 1, cx_cp_numbers_otherNumbers h7 n 0 f (by omega) (fun j hj => absurd hj (by omega)) (fun j hj => by rw [hf j hj, hz j hj]) hp⟩
theorem cx_po {post : SX → Prop} (h7 : n ≤ 7) : ∀ (d r : Nat) (l : List Nat) (f : Nat → Int32), l.length + d = n → r < 2 ^ 31 → (∀ j, j < l.length → f j = cn_ar l j) → cn_Z n f → post (nI n, fo, fc, lo, hi, g, cn_ar (cn_xo d (l.length + 1) r l), f2, f3) → wX_putOrder_4 post (nI n) fo fc (d + 1) (nI r) (nI (l.length + 1)) lo hi g f f2 f3 := by
  intro d
  induction d with
  | zero =>
    intro r l f hl hr h1 h2 hp
    have e : f = cn_ar l := by
      funext j
      by_cases hj : j < l.length
      · exact h1 j hj
      · rw [h2 j (by omega), cn_arZ (n := n) (by omega) j (by omega)]
    subst e
    exact br_t (nI_lt (by omega) (by omega)) hp
  | succ d ih =>
    intro r l f hl hr h1 h2 hp
    have hm : r % (l.length + 1) < l.length + 1 := Nat.mod_lt _ (by omega)
    have hp' : post (nI n, fo, fc, lo, hi, g, cn_ar (cn_xo d (l.length + 1 + 1) (r / (l.length + 1)) ((l ++ [l.getD (r % (l.length + 1)) 0]).set (r % (l.length + 1)) (l.length + 1))), f2, f3) := hp
    generalize hpl : r % (l.length + 1) = pl at hm hp'
    have hlen : ((l ++ [l.getD pl 0]).set pl (l.length + 1)).length = l.length + 1 := by simp
    have hle : pl < (l ++ [l.getD pl 0]).length := by simp; omega
    have cp : (nI pl).toNatClampNeg = pl := nI_clamp (by omega)
    have cl : (nI l.length).toNatClampNeg = l.length := nI_clamp (by omega)
    have ip : vp_in (nI pl) 7 := vp_in_nI (by omega) (by omega)
    have il : vp_in (nI (l.length + 1) - 1) 7 := by rw [nI_pred]; exact vp_in_nI (by omega) (by omega)
    have n0 : ¬ nI (l.length + 1) = 0 := nI_ne0 (by omega) (by omega)
    refine br_f (nI_nlt (by omega) (by omega)) ⟨n0, nm_r (e' := nI pl) (by rw [pk_rem hr (by omega) (by omega), hpl]) ⟨n0, nm_r (e' := nI (r / (l.length + 1))) (pk_div hr (by omega) (by omega)) ⟨ip, il, nm_r (e' := upd f l.length (f pl)) (by rw [nI_pred, cl, cp]) ⟨ip, nm_r (e' := upd (upd f l.length (f pl)) pl (nI (l.length + 1))) (by rw [cp]) (nm_r (nI_1 (l.length + 1)) ?_)⟩⟩⟩⟩
    have key := ih (r / (l.length + 1)) ((l ++ [l.getD pl 0]).set pl (l.length + 1)) (upd (upd f l.length (f pl)) pl (nI (l.length + 1)))
    rw [hlen] at key
    refine key (by omega) (Nat.lt_of_le_of_lt (Nat.div_le_self _ _) hr) ?_ (cn_updZ (cn_updZ h2 (by omega)) (by omega)) hp'
    intro j hj
    rw [cn_arset hle]
    by_cases e : j = pl
    · rw [e, pk_us, pk_us]
    · rw [pk_un e, pk_un e]
      show _ = nI ((l ++ [l.getD pl 0]).getD j 0)
      rw [cn_getapp]
      by_cases e2 : j = l.length
      · rw [if_pos e2, e2, pk_us]
        exact h1 pl (by omega)
      · rw [if_neg e2, pk_un e2]
        exact h1 j (by omega)
theorem cx_putOrder {post : SX → Prop} (h7 : n ≤ 7) {p : Nat} (hp31 : p < 2 ^ 31) (hf : cn_Z n f1) (hp : post (nI n, fo, fc, lo, hi, g, cn_ar (cn_X n p), f2, f3)) : wpX_putOrder post (nI n, fo, fc, lo, hi, g, f1, f2, f3) (nI p) :=
  ⟨n + 1, cx_po h7 n p [] f1 (by simp) hp31 (fun j hj => absurd hj (by simp)) hf hp⟩
theorem cx_runOrder {post : SX → Prop} (h7 : n ≤ 7) (hc : c ≤ 24) (hv : cn_V n c lo hi) {p : Nat} (hp31 : p < 2 ^ 31) (hf : cn_Z n f1) (hp : post (nI n, fo, nI c, lo, hi, g, cn_run lo hi c 0 (cn_ar (cn_X n p)), f2, f3)) : wpX_runOrder post (nI n, fo, nI c, lo, hi, g, f1, f2, f3) (nI p) := by
  unfold wpX_runOrder
  dsimp only
  refine cx_putOrder h7 hp31 hf ?_
  dsimp only
  exact cx_run_numbers h7 hc hv 0 c c (by omega) (by omega) _ hp
theorem cx_srt {post : Int32 → Prop} (h7 : n ≤ 7) : ∀ (d k : Nat), k + d = n → post (if cn_srt d k f1 = true then 1 else 0) → wX_isSortedRow__numbers_2 post (nI n) fo fc lo hi g f1 f2 f3 (d + 1) (nI k) := by
  intro d
  induction d with
  | zero => intro k hk hp; exact br_t (nI_le (by omega) (by omega)) hp
  | succ d ih =>
    intro k hk hp
    have ck : (nI k).toNatClampNeg = k := nI_clamp (by omega)
    have ik : vp_in (nI k) 7 := vp_in_nI (by omega) (by omega)
    rw [cn_srt] at hp
    refine br_f (nI_ge (by omega) (by omega)) ⟨ik, ?_⟩
    by_cases h : f1 k = nI (k + 1)
    · rw [if_pos h] at hp
      exact br_t (by rw [ck, nI_1]; exact h) (nm_r (nI_1 k) (ih (k + 1) (by omega) hp))
    · rw [if_neg h] at hp
      exact br_f (by rw [ck, nI_1]; exact h) hp
theorem cx_isSorted {post : Int32 → Prop} (h7 : n ≤ 7) (hp : post (if cn_srt n 0 f1 = true then 1 else 0)) : wpX_isSortedRow__numbers post (nI n, fo, fc, lo, hi, g, f1, f2, f3) := ⟨n + 1, cx_srt h7 n 0 (by omega) hp⟩
theorem cx_sm {post : Int32 → Prop} (h7 : n ≤ 7) : ∀ (d k : Nat), k + d = n → post (if cn_same d k f1 f2 = true then 1 else 0) → wX_isSameRow__numbers_otherNumbers_2 post (nI n) fo fc lo hi g f1 f2 f3 (d + 1) (nI k) := by
  intro d
  induction d with
  | zero => intro k hk hp; exact br_t (nI_le (by omega) (by omega)) hp
  | succ d ih =>
    intro k hk hp
    have ck : (nI k).toNatClampNeg = k := nI_clamp (by omega)
    have ik : vp_in (nI k) 7 := vp_in_nI (by omega) (by omega)
    rw [cn_same] at hp
    refine br_f (nI_ge (by omega) (by omega)) ⟨ik, ik, ?_⟩
    by_cases h : f1 k = f2 k
    · rw [if_pos h] at hp
      exact br_t (by rw [ck]; exact h) (nm_r (nI_1 k) (ih (k + 1) (by omega) hp))
    · rw [if_neg h] at hp
      exact br_f (by rw [ck]; exact h) hp
theorem cx_isSame {post : Int32 → Prop} (h7 : n ≤ 7) (hp : post (if cn_same n 0 f1 f2 = true then 1 else 0)) : wpX_isSameRow__numbers_otherNumbers post (nI n, fo, fc, lo, hi, g, f1, f2, f3) := ⟨n + 1, cx_sm h7 n 0 (by omega) hp⟩
end
