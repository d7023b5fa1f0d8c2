theorem cn_Y0 : ∀ n, n < 8 → ∀ j, j < n → (cn_Y n 0).getD j 0 = j + 1 := by decide +kernel
theorem cn_YZ {n : Nat} (h2 : 2 ≤ n) (h7 : n ≤ 7) {i : Nat} (hi : i < cn_fac n) : cn_Z n (cn_ar (cn_Y n i)) := cn_arZ (by rw [cn_ok_len (cn_Yok h2 h7 hi)]; exact Nat.le_refl _)
theorem cn_arLe {l : List Nat} (h8 : ∀ j, l.getD j 0 < 8) (a b : Nat) : cn_ar l a ≤ cn_ar l b ↔ l.getD a 0 ≤ l.getD b 0 := by
  have ha := h8 a
  have hb := h8 b
  exact nI_leI (by omega) (by omega)
theorem cn_ble {a b : Nat} (h : a ≤ b) : Nat.ble a b = true := Nat.ble_eq_true_of_le h
theorem cn_nble {a b : Nat} (h : ¬ a ≤ b) : Nat.ble a b = false := by
  cases e : Nat.ble a b with
  | false => rfl
  | true => exact absurd (Nat.le_of_ble_eq_true e) h
theorem cn_toLe (l : List Nat) (x : Nat) : ∀ t, cn_to l x t ≤ t := by
  intro t
  induction t with
  | zero => exact Nat.le_refl _
  | succ t ih =>
    rw [cn_to]
    cases Nat.ble x (l.getD (t + 1) 0)
    · exact Nat.le_succ_of_le ih
    · exact Nat.le_refl _
theorem cn_atLt (l : List Nat) : ∀ q a, cn_at l q = some a → a < q := by
  intro q
  induction q with
  | zero => intro a h; exact absurd h (by simp [cn_at])
  | succ q ih =>
    intro a h
    rw [cn_at] at h
    cases e : Nat.ble (l.getD q 0) (l.getD (q + 1) 0) with
    | true => rw [e] at h; have := Option.some.inj (show some q = some a from h); omega
    | false => rw [e] at h; have := ih a h; omega
section
variable {n c : Nat} {fs : Int32} {lo hi g t1 t2 t3 t4 : Nat → Int32}
theorem cy_first2 {post : SY → Prop} (h2 : 2 ≤ n) (h7 : n ≤ 7) (hp : post (nI n, fs, lo, hi, g, cn_ar (cn_Y n 0), t2, t3, t4)) : ∀ (d k : Nat) (f : Nat → Int32), k + d = n → (∀ j, j < k → f j = nI (j + 1)) → cn_Z n f → wY_firstOrder_2 post (nI n) fs (d + 1) (nI k) lo hi g f t2 t3 t4 := by
  intro d
  induction d with
  | zero =>
    intro k f hk h1 hz
    have e : f = cn_ar (cn_Y n 0) := by
      funext j
      by_cases hj : j < k
      · rw [h1 j hj]
        exact congrArg nI (cn_Y0 n (by omega) j (by omega)).symm
      · rw [hz j (by omega), cn_YZ h2 h7 (cn_facPos n) j (by omega)]
    subst e
    exact br_t (nI_le (by omega) (by omega)) hp
  | succ d ih =>
    intro k f hk h1 hz
    have ck : (nI k).toNatClampNeg = k := nI_clamp (by omega)
    have ik : vp_in (nI k) 7 := vp_in_nI (by omega) (by omega)
    refine br_f (nI_ge (by omega) (by omega)) ⟨ik, nm_r (e' := upd f k (nI (k + 1))) (by rw [ck, nI_1]) (nm_r (nI_1 k) (ih (k + 1) _ (by omega) ?_ (cn_updZ hz (by omega))))⟩
    intro j hj
    by_cases e : j = k
    · rw [e, pk_us]
    · rw [pk_un e]; exact h1 j (by omega)
theorem cy_first {post : SY → Prop} (h2 : 2 ≤ n) (h7 : n ≤ 7) (h1 : cn_Z n t1) (hp : post (nI n, fs, lo, hi, g, cn_ar (cn_Y n 0), t2, t3, t4)) : wpY_firstOrder post (nI n, fs, lo, hi, g, t1, t2, t3, t4) :=
  ⟨n + 1, cy_first2 h2 h7 hp n 0 t1 (by omega) (fun j hj => absurd hj (by omega)) h1⟩
theorem cy_no97 {post : Int32 → SY → Prop} (h7 : n ≤ 7) {a : Nat} (ha : a < n) : ∀ (d x : Nat) (l : List Nat), l.length = n → x ≤ n → 1 ≤ x → n ≤ a + 2 * x + 2 * d → post 1 (nI n, fs, lo, hi, g, cn_ar (cn_rv n a d x l), t2, t3, t4) → wY_nextOrder_97 post (nI a) (nI n) fs (d + 1) (nI x) lo hi g (cn_ar l) t2 t3 t4 := by
  intro d
  induction d with
  | zero =>
    intro x l hl hx hx1 hd hp
    exact br_t (by rw [pk_sub hx, nI_add]; exact nI_le (by omega) (by omega)) hp
  | succ d ih =>
    intro x l hl hx hx1 hd hp
    rw [cn_rv] at hp
    by_cases h : a + x < n - x
    · rw [show Nat.blt (a + x) (n - x) = true from cn_ble h] at hp
      have e1 : nI a + nI x = nI (a + x) := nI_add a x
      have e2 : nI n - nI x = nI (n - x) := pk_sub hx
      have c1 : (nI (a + x)).toNatClampNeg = a + x := nI_clamp (by omega)
      have c2 : (nI (n - x)).toNatClampNeg = n - x := nI_clamp (by omega)
      have i1 : vp_in (nI (a + x)) 7 := vp_in_nI (by omega) (by omega)
      have i2 : vp_in (nI (n - x)) 7 := vp_in_nI (by omega) (by omega)
      refine br_f (by rw [e1, e2]; exact nI_ge (by omega) (by omega)) ?_
      rw [e1, e2]
      refine ⟨i1, nm_r (e' := cn_ar l (a + x)) (by rw [c1]) ⟨i2, i1, nm_r (e' := cn_ar (l.set (a + x) (l.getD (n - x) 0))) ?_ ⟨i2, nm_r (e' := cn_ar ((l.set (a + x) (l.getD (n - x) 0)).set (n - x) (l.getD (a + x) 0))) ?_ (nm_r (nI_1 x) (ih (x + 1) _ ?_ (by omega) (by omega) (by omega) hp))⟩⟩⟩
      · rw [c1, c2, cn_arset (by omega)]; rfl
      · rw [c2]; exact (cn_arset (l := l.set (a + x) (l.getD (n - x) 0)) (by rw [List.length_set]; omega)).symm
      · simp [hl]
    · rw [show Nat.blt (a + x) (n - x) = false from cn_nble h] at hp
      exact br_t (by rw [pk_sub hx, nI_add]; exact nI_le (by omega) (by omega)) hp
theorem cy_no47 {post : Int32 → SY → Prop} (h7 : n ≤ 7) {a : Nat} {l : List Nat} (hl : l.length = n) (h8 : ∀ j, l.getD j 0 < 8) (ha : a < n) : ∀ t, a ≤ t → t < n → post 1 (nI n, fs, lo, hi, g, cn_ar (cn_rv n a 4 1 (cn_sw l a (cn_to l (l.getD a 0) t))), t2, t3, t4) → wY_nextOrder_47 post (nI a) (nI n) fs lo hi g (cn_ar l) t2 t3 t4 (t + 1) (nI t) := by
  have ca : (nI a).toNatClampNeg = a := nI_clamp (by omega)
  have ia : vp_in (nI a) 7 := vp_in_nI (by omega) (by omega)
  have ex : ∀ (t : Nat), t < n → cn_ar l a ≤ cn_ar l t → post 1 (nI n, fs, lo, hi, g, cn_ar (cn_rv n a 4 1 (cn_sw l a t)), t2, t3, t4) → wY_nextOrder_47 post (nI a) (nI n) fs lo hi g (cn_ar l) t2 t3 t4 (t + 1) (nI t) := by
    intro t ht hle hp
    have ct : (nI t).toNatClampNeg = t := nI_clamp (by omega)
    have it : vp_in (nI t) 7 := vp_in_nI (by omega) (by omega)
    refine ⟨it, ia, br_t (by rw [ca, ct]; exact hle) ⟨ia, nm_r (e' := cn_ar l a) (by rw [ca]) ⟨it, ia, nm_r (e' := cn_ar (l.set a (l.getD t 0))) (by rw [ca, ct, cn_arset (by omega)]; rfl) ⟨it, nm_r (e' := cn_ar (cn_sw l a t)) ?_ ⟨5, ?_⟩⟩⟩⟩⟩
    · rw [ct]; exact (cn_arset (l := l.set a (l.getD t 0)) (by rw [List.length_set]; omega)).symm
    · exact cy_no97 h7 ha 4 1 (cn_sw l a t) (by simp [cn_sw, hl]) (by omega) (by omega) (by omega) hp
  intro t
  induction t with
  | zero =>
    intro hat ht hp
    have e : a = 0 := by omega
    subst e
    exact ex 0 ht ((cn_arLe h8 0 0).mpr (Nat.le_refl _)) hp
  | succ t ih =>
    intro hat ht hp
    rw [cn_to] at hp
    by_cases h : l.getD a 0 ≤ l.getD (t + 1) 0
    · rw [cn_ble h] at hp
      exact ex (t + 1) ht ((cn_arLe h8 a (t + 1)).mpr h) hp
    · rw [cn_nble h] at hp
      have hne : a ≠ t + 1 := by
        intro e
        rw [← e] at h
        exact h (Nat.le_refl _)
      have ct : (nI (t + 1)).toNatClampNeg = t + 1 := nI_clamp (by omega)
      have it : vp_in (nI (t + 1)) 7 := vp_in_nI (by omega) (by omega)
      exact ⟨it, ia, br_f (by rw [ca, ct, cn_arLe h8]; exact h) (nm_r (pk_m1 t) (ih (by omega) (by omega) hp))⟩
theorem cy_no7 {post : Int32 → SY → Prop} (h7 : n ≤ 7) {l : List Nat} (h8 : ∀ j, l.getD j 0 < 8) : ∀ q, q + 1 ≤ n → (∀ a, cn_at l q = some a → wY_nextOrder_34 post (nI a) (nI n) fs lo hi g (cn_ar l) t2 t3 t4) → (cn_at l q = none → wY_nextOrder_34 post (nI 0 + (-1)) (nI n) fs lo hi g (cn_ar l) t2 t3 t4) → wY_nextOrder_7 post (nI n) fs lo hi g (cn_ar l) t2 t3 t4 (q + 1) (nI q + (-1)) := by
  intro q
  induction q with
  | zero => intro hq hs hn; exact br_t (by decide) (hn rfl)
  | succ a ih =>
    intro hq hs hn
    have ca : (nI a).toNatClampNeg = a := nI_clamp (by omega)
    have ca1 : (nI (a + 1)).toNatClampNeg = a + 1 := nI_clamp (by omega)
    rw [cn_at] at hs hn
    rw [pk_m1]
    refine br_f (nI_pos (by omega)) ⟨vp_in_nI (by omega) (by omega), by rw [nI_1]; exact vp_in_nI (by omega) (by omega), ?_⟩
    by_cases h : l.getD a 0 ≤ l.getD (a + 1) 0
    · rw [cn_ble h] at hs
      exact br_t (by rw [nI_1 a, ca, ca1, cn_arLe h8]; exact h) (hs a rfl)
    · rw [cn_nble h] at hs hn
      exact br_f (by rw [nI_1 a, ca, ca1, cn_arLe h8]; exact h) (nm_e (ih (by omega) hs hn))
/-- the reference's next order -/
theorem cy_next {post : Int32 → SY → Prop} (h2 : 2 ≤ n) (h7 : n ≤ 7) {l : List Nat} (hl : l.length = n) (h8 : ∀ j, l.getD j 0 < 8) (hs : ∀ l', cn_nx n l = some l' → post 1 (nI n, fs, lo, hi, g, cn_ar l', t2, t3, t4)) (hn : cn_nx n l = none → post 0 (nI n, fs, lo, hi, g, cn_ar l, t2, t3, t4)) : wpY_nextOrder post (nI n, fs, lo, hi, g, cn_ar l, t2, t3, t4) := by
  obtain ⟨m, rfl⟩ : ∃ m, n = m + 1 := ⟨n - 1, by omega⟩
  have e0 : nI (m + 1) - 2 = nI m + (-1) := by
    rw [← nI_1 m, Int32.sub_eq_add_neg, Int32.add_assoc]
    rfl
  refine nm_r e0 ⟨m + 1, cy_no7 h7 h8 m (by omega) ?_ ?_⟩
  · intro a ea
    have hlt := cn_atLt l m a ea
    have ex : cn_nx (m + 1) l = some (cn_rv (m + 1) a 4 1 (cn_sw l a (cn_to l (l.getD a 0) m))) := by
      unfold cn_nx
      rw [Nat.add_sub_cancel, ea]
    refine br_t (nI_pos' (by omega)) (nm_r (nI_pred m) ⟨m + 1, ?_⟩)
    exact cy_no47 h7 hl h8 (by omega) m (by omega) (by omega) (hs _ ex)
  · intro ea
    have ex : cn_nx (m + 1) l = none := by
      unfold cn_nx
      rw [Nat.add_sub_cancel, ea]
    exact br_f (by decide) (hn ex)
theorem cy_nextS {post : Int32 → SY → Prop} (h2 : 2 ≤ n) (h7 : n ≤ 7) {i : Nat} (hi' : i + 1 < cn_fac n) (hp : post 1 (nI n, fs, lo, hi, g, cn_ar (cn_Y n (i + 1)), t2, t3, t4)) : wpY_nextOrder post (nI n, fs, lo, hi, g, cn_ar (cn_Y n i), t2, t3, t4) := by
  have ok := cn_Yok h2 h7 (i := i) (by omega)
  refine cy_next h2 h7 (cn_ok_len ok) (cn_ok_lt ok) ?_ ?_
  · intro l' e
    rw [cn_Ynx h2 h7 hi'] at e
    rw [← Option.some.inj e]
    exact hp
  · intro e
    rw [cn_Ynx h2 h7 hi'] at e
    exact absurd e (by simp)
theorem cy_nextE {post : Int32 → SY → Prop} (h2 : 2 ≤ n) (h7 : n ≤ 7) {i : Nat} (hi' : i + 1 = cn_fac n) (hp : post 0 (nI n, fs, lo, hi, g, cn_ar (cn_Y n i), t2, t3, t4)) : wpY_nextOrder post (nI n, fs, lo, hi, g, cn_ar (cn_Y n i), t2, t3, t4) := by
  have ok := cn_Yok h2 h7 (i := i) (by omega)
  refine cy_next h2 h7 (cn_ok_len ok) (cn_ok_lt ok) ?_ ?_
  · intro l' e
    rw [cn_Yend h2 h7 hi'] at e
    exact absurd e (by simp)
  · intro _
    exact hp
end
