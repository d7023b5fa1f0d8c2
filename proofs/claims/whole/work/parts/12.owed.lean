/-- the same wires, comparators and inputs on both sides; of the scratch rows only that nothing stands beyond the wires -/
def i_Rel (k : Nat) (u : SX) (v : SY) : Prop := ∃ (n c : Nat) (lo hi g f1 f2 f3 t1 t2 t3 t4 : Nat → Int32), 2 ≤ n ∧ n ≤ 7 ∧ c ≤ 24 ∧ cn_V n c lo hi ∧ cn_Z n g ∧ cn_Z n f1 ∧ cn_Z n f2 ∧ cn_Z n f3 ∧ cn_Z n t1 ∧ cn_Z n t2 ∧ cn_Z n t3 ∧ cn_Z n t4 ∧ u = (nI n, nI (cn_fac n), nI c, lo, hi, g, f1, f2, f3) ∧ v = (nI n, nI c, lo, hi, g, t1, t2, t3, t4)
theorem cn_R {k n c : Nat} {lo hi g f1 f2 f3 t1 t2 t3 t4 : Nat → Int32} (h2 : 2 ≤ n) (h7 : n ≤ 7) (hc : c ≤ 24) (hv : cn_V n c lo hi) (hg : cn_Z n g) (z1 : cn_Z n f1) (z2 : cn_Z n f2) (z3 : cn_Z n f3) (z4 : cn_Z n t1) (z5 : cn_Z n t2) (z6 : cn_Z n t3) (z7 : cn_Z n t4) : i_Rel k (nI n, nI (cn_fac n), nI c, lo, hi, g, f1, f2, f3) (nI n, nI c, lo, hi, g, t1, t2, t3, t4) := ⟨n, c, lo, hi, g, f1, f2, f3, t1, t2, t3, t4, h2, h7, hc, hv, hg, z1, z2, z3, z4, z5, z6, z7, rfl, rfl⟩
theorem cn_wx (x : Int32) {n : Nat} (hn : n < 2 ^ 31) : (x < 0 ∨ nI n ≤ x) ∨ ∃ j : Nat, j < n ∧ x = nI j := by
  rcases pk_ix x hn with h | h | h
  · exact Or.inl (Or.inl h)
  · exact Or.inl (Or.inr h)
  · exact Or.inr h
theorem cn_Vadd {n c a b : Nat} {lo hi : Nat → Int32} (hv : cn_V n c lo hi) (ha : a < n) (hb : b < n) : cn_V n (c + 1) (upd lo c (nI a)) (upd hi c (nI b)) := by
  intro j hj
  by_cases e : j = c
  · exact ⟨a, b, ha, hb, by rw [e, pk_us], by rw [e, pk_us]⟩
  · obtain ⟨a', b', h1, h2, h3, h4⟩ := hv j (by omega)
    exact ⟨a', b', h1, h2, by rw [pk_un e, h3], by rw [pk_un e, h4]⟩
theorem cn_start {n : Nat} (h2 : 2 ≤ n) (h7 : n ≤ 7) : i_Rel 1 (nI n, nI (cn_fac n), 0, (fun _ => 0), (fun _ => 0), (fun _ => 0), (fun _ => 0), (fun _ => 0), (fun _ => 0)) (nI n, 0, (fun _ => 0), (fun _ => 0), (fun _ => 0), (fun _ => 0), (fun _ => 0), (fun _ => 0), (fun _ => 0)) :=
  cn_R (c := 0) h2 h7 (by omega) (fun k hk => absurd hk (by omega)) (fun _ _ => rfl) (fun _ _ => rfl) (fun _ _ => rfl) (fun _ _ => rfl) (fun _ _ => rfl) (fun _ _ => rfl) (fun _ _ => rfl) (fun _ _ => rfl)
theorem i_up {k : Nat} {u : SX} {v : SY} (h : i_Rel k u v) : i_Rel (k + 3) u v := h
theorem i_vc0 (k0 : Int32) : wpX_init (fun u => wpY_init (fun v => i_Rel 1 u v) k0) k0 := by
  by_cases a : 2 ≤ k0
  · by_cases b : k0 ≤ 7
    · have h0 : ¬ k0 < 0 := fun z => absurd (Int32.lt_of_le_of_lt a z) (by decide)
      obtain ⟨n, hn, rfl⟩ := nI_of2 (M := 7) (n := 7) (by decide) h0 b
      have h2 : 2 ≤ n := (nI_leI (a := 2) (b := n) (by omega) (by omega)).mp a
      exact br_t a (br_t b (cx_factorial h2 hn (br_t a (br_t b (cn_start h2 hn)))))
    · exact br_t a (br_f b (cx_factorial (n := 7) (by omega) (by omega) (br_t a (br_f b (cn_start (n := 7) (by omega) (by omega))))))
  · exact br_f a (br_t (by decide) (cx_factorial (n := 2) (by omega) (by omega) (br_f a (cn_start (n := 2) (by omega) (by omega)))))
theorem i_vc_add {k : Nat} {u : SX} {v : SY} (I : i_Rel k u v) (hk : k + 3 ≤ 1537) (v1 : Int32) (v2 : Int32) : wpX_add (fun r u' => wpY_add (fun r' v' => r' = r ∧ i_Rel (k + 3) u' v') v v1 v2) u v1 v2 := by
  obtain ⟨n, c, lo, hi, g, f1, f2, f3, t1, t2, t3, t4, h2, h7, hc, hv, hg, z1, z2, z3, z4, z5, z6, z7, rfl, rfl⟩ := I
  have R : i_Rel (k + 3) (nI n, nI (cn_fac n), nI c, lo, hi, g, f1, f2, f3) (nI n, nI c, lo, hi, g, t1, t2, t3, t4) := cn_R h2 h7 hc hv hg z1 z2 z3 z4 z5 z6 z7
  unfold wpX_add
  dsimp only
  rcases cn_wx v1 (n := n) (by omega) with b | ⟨i, hi', rfl⟩
  · refine cx_isW0 b (br_t rfl ?_)
    unfold wpY_add
    dsimp only
    exact cy_noW1 b (br_f (by decide) ⟨rfl, R⟩)
  · rcases cn_wx v2 (n := n) (by omega) with b | ⟨j, hj', rfl⟩
    · refine cx_isW1 hi' h7 (br_f (by decide) (cx_isW0 b (br_t rfl ?_)))
      unfold wpY_add
      dsimp only
      exact cy_noW0 hi' h7 (br_t rfl (cy_noW1 b (br_f (by decide) ⟨rfl, R⟩)))
    · refine cx_isW1 hi' h7 (br_f (by decide) (cx_isW1 hj' h7 (br_f (by decide) ?_)))
      by_cases e : nI i = nI j
      · refine br_t e ?_
        unfold wpY_add
        dsimp only
        exact cy_noW0 hi' h7 (br_t rfl (cy_noW0 hj' h7 (br_t rfl (br_t e ⟨rfl, R⟩))))
      · by_cases hc' : c < 24
        · have cc : (nI c).toNatClampNeg = c := nI_clamp (by omega)
          have ic : vp_in (nI c) 24 := vp_in_nI hc' (by omega)
          have n24 : ¬ nI c = 24 := fun z => absurd ((nI_eq (a := c) (b := 24) (by omega) (by omega)).mp z) (by omega)
          have R' : i_Rel (k + 3) (nI n, nI (cn_fac n), nI (c + 1), upd lo c (nI i), upd hi c (nI j), g, f1, f2, f3) (nI n, nI (c + 1), upd lo c (nI i), upd hi c (nI j), g, t1, t2, t3, t4) := cn_R h2 h7 (by omega) (cn_Vadd hv hi' hj') hg z1 z2 z3 z4 z5 z6 z7
          refine br_f e (br_t (nI_lt (b := 24) hc' (by omega)) ⟨ic, nm_r (e' := upd lo c (nI i)) (by rw [cc]) ⟨ic, nm_r (e' := upd hi c (nI j)) (by rw [cc]) (nm_r (nI_1 c) ?_)⟩⟩)
          unfold wpY_add
          dsimp only
          exact cy_noW0 hi' h7 (br_t rfl (cy_noW0 hj' h7 (br_t rfl (br_f e (br_f n24 ⟨ic, nm_r (e' := upd lo c (nI i)) (by rw [cc]) ⟨ic, nm_r (e' := upd hi c (nI j)) (by rw [cc]) (nm_r (nI_1 c) ⟨rfl, R'⟩)⟩⟩)))))
        · have e24 : c = 24 := by omega
          subst e24
          refine br_f e (br_f (by decide) ?_)
          unfold wpY_add
          dsimp only
          exact cy_noW0 hi' h7 (br_t rfl (cy_noW0 hj' h7 (br_t rfl (br_f e (br_t (by decide) ⟨rfl, R⟩)))))
theorem i_vc_drop {k : Nat} {u : SX} {v : SY} (I : i_Rel k u v) (hk : k + 3 ≤ 1537) (v1 : Int32) : wpX_drop (fun r u' => wpY_drop (fun r' v' => r' = r ∧ i_Rel (k + 3) u' v') v v1) u v1 := by
  obtain ⟨n, c, lo, hi, g, f1, f2, f3, t1, t2, t3, t4, h2, h7, hc, hv, hg, z1, z2, z3, z4, z5, z6, z7, rfl, rfl⟩ := I
  have R : i_Rel (k + 3) (nI n, nI (cn_fac n), nI c, lo, hi, g, f1, f2, f3) (nI n, nI c, lo, hi, g, t1, t2, t3, t4) := cn_R h2 h7 hc hv hg z1 z2 z3 z4 z5 z6 z7
  unfold wpX_drop
  dsimp only
  rcases cn_wx v1 (n := c) (by omega) with b | ⟨j, hj, rfl⟩
  · refine cx_isC0 b (br_t rfl ?_)
    unfold wpY_drop
    dsimp only
    exact cy_is0 b (br_t rfl ⟨rfl, R⟩)
  · obtain ⟨m, rfl⟩ : ∃ m, c = m + 1 := ⟨c - 1, by omega⟩
    have hV : cn_V n m (cn_dp (m - j) j lo hi).1 (cn_dp (m - j) j lo hi).2 := fun q hq => cn_dpV (m - j) j lo hi (by omega) hv q (by omega)
    refine cx_isC1 hj hc (br_f (by decide) ⟨m - j + 1, cx_drop13 hc (m - j) j lo hi (by omega) ?_⟩)
    unfold wpY_drop
    dsimp only
    exact cy_is1 hj hc (br_f (by decide) (nm_r (nI_pred m) ⟨m - j + 1, cy_drop23 hc (m - j) j lo hi (by omega) ⟨rfl, cn_R h2 h7 (by omega) hV hg z1 z2 z3 z4 z5 z6 z7⟩⟩))
theorem i_vc_swap {k : Nat} {u : SX} {v : SY} (I : i_Rel k u v) (hk : k + 3 ≤ 1537) (v1 : Int32) : wpX_swap (fun r u' => wpY_swap (fun r' v' => r' = r ∧ i_Rel (k + 3) u' v') v v1) u v1 := by
  obtain ⟨n, c, lo, hi, g, f1, f2, f3, t1, t2, t3, t4, h2, h7, hc, hv, hg, z1, z2, z3, z4, z5, z6, z7, rfl, rfl⟩ := I
  have R : i_Rel (k + 3) (nI n, nI (cn_fac n), nI c, lo, hi, g, f1, f2, f3) (nI n, nI c, lo, hi, g, t1, t2, t3, t4) := cn_R h2 h7 hc hv hg z1 z2 z3 z4 z5 z6 z7
  by_cases h0 : v1 < 0
  · exact br_t h0 (br_t h0 ⟨rfl, R⟩)
  · obtain ⟨j, hj, rfl⟩ := nI_of h0
    have hlt : nI j < nI c - 1 ↔ j + 1 < c := by
      cases c with
      | zero =>
        refine ⟨fun z => ?_, fun z => absurd z (by omega)⟩
        have := Int32.lt_iff_toInt_lt.mp z
        rw [nI_toInt hj, show (nI 0 - 1).toInt = -1 by decide] at this
        omega
      | succ m =>
        rw [nI_pred, nI_ltI hj (by omega)]
        omega
    by_cases hb : j + 1 < c
    · have cj : (nI j).toNatClampNeg = j := nI_clamp hj
      have cj1 : (nI j + 1).toNatClampNeg = j + 1 := by rw [nI_1]; exact nI_clamp (by omega)
      have ij : vp_in (nI j) 24 := vp_in_nI (by omega) (by omega)
      have ij1 : vp_in (nI j + 1) 24 := by rw [nI_1]; exact vp_in_nI (by omega) (by omega)
      obtain ⟨a, b, ha, hb1, ea, eb⟩ := hv j (by omega)
      obtain ⟨a', b', ha', hb', ea', eb'⟩ := hv (j + 1) hb
      have hV : cn_V n c (upd (upd lo j (lo (j + 1))) (j + 1) (lo j)) (upd (upd hi j (hi (j + 1))) (j + 1) (hi j)) := by
        rw [ea, eb, ea', eb']
        exact cn_Vput (cn_Vput hv ha' hb') ha hb1
      have R' : i_Rel (k + 3) (nI n, nI (cn_fac n), nI c, upd (upd lo j (lo (j + 1))) (j + 1) (lo j), upd (upd hi j (hi (j + 1))) (j + 1) (hi j), g, f1, f2, f3) (nI n, nI c, upd (upd lo j (lo (j + 1))) (j + 1) (lo j), upd (upd hi j (hi (j + 1))) (j + 1) (hi j), g, t1, t2, t3, t4) := cn_R h2 h7 hc hV hg z1 z2 z3 z4 z5 z6 z7
      exact br_f h0 (br_t (hlt.mpr hb) ⟨ij, nm_r (e' := lo j) (by rw [cj]) ⟨ij, nm_r (e' := hi j) (by rw [cj]) ⟨ij1, ij, nm_r (e' := upd lo j (lo (j + 1))) (by rw [cj, cj1]) ⟨ij1, ij, nm_r (e' := upd hi j (hi (j + 1))) (by rw [cj, cj1]) ⟨ij1, nm_r (e' := upd (upd lo j (lo (j + 1))) (j + 1) (lo j)) (by rw [cj1]) ⟨ij1, nm_r (e' := upd (upd hi j (hi (j + 1))) (j + 1) (hi j)) (by rw [cj1]) (br_f h0 (br_t (hlt.mpr hb) ⟨ij, nm_r (e' := lo j) (by rw [cj]) ⟨ij, nm_r (e' := hi j) (by rw [cj]) ⟨ij1, ij, nm_r (e' := upd lo j (lo (j + 1))) (by rw [cj, cj1]) ⟨ij1, ij, nm_r (e' := upd hi j (hi (j + 1))) (by rw [cj, cj1]) ⟨ij1, nm_r (e' := upd (upd lo j (lo (j + 1))) (j + 1) (lo j)) (by rw [cj1]) ⟨ij1, nm_r (e' := upd (upd hi j (hi (j + 1))) (j + 1) (hi j)) (by rw [cj1]) ⟨rfl, R'⟩⟩⟩⟩⟩⟩⟩))⟩⟩⟩⟩⟩⟩)
    · have hn : ¬ nI j < nI c - 1 := fun z => hb (hlt.mp z)
      exact br_f h0 (br_f hn (br_f h0 (br_f hn ⟨rfl, R⟩)))
theorem i_vc_turn {k : Nat} {u : SX} {v : SY} (I : i_Rel k u v) (hk : k + 3 ≤ 1537) : wpX_turn (fun r u' => wpY_turn (fun r' v' => r' = r ∧ i_Rel (k + 3) u' v') v) u := by
  obtain ⟨n, c, lo, hi, g, f1, f2, f3, t1, t2, t3, t4, h2, h7, hc, hv, hg, z1, z2, z3, z4, z5, z6, z7, rfl, rfl⟩ := I
  exact ⟨c + 1, cx_turn2 hc c 0 lo hi (by omega) ⟨c + 1, cy_turn2 hc c 0 lo hi (by omega) ⟨rfl, cn_R h2 h7 hc (cn_tnV c 0 lo hi (by omega) hv) hg z1 z2 z3 z4 z5 z6 z7⟩⟩⟩
theorem i_vc_size {k : Nat} {u : SX} {v : SY} (I : i_Rel k u v) (hk : k + 3 ≤ 1537) : wpX_size (fun r => wpY_size (fun r' => r' = r ∧ i_Rel (k + 3) u v) v) u := by
  obtain ⟨n, c, lo, hi, g, f1, f2, f3, t1, t2, t3, t4, h2, h7, hc, hv, hg, z1, z2, z3, z4, z5, z6, z7, rfl, rfl⟩ := I
  have R : i_Rel (k + 3) (nI n, nI (cn_fac n), nI c, lo, hi, g, f1, f2, f3) (nI n, nI c, lo, hi, g, t1, t2, t3, t4) := cn_R h2 h7 hc hv hg z1 z2 z3 z4 z5 z6 z7
  exact ⟨rfl, R⟩
theorem i_vc_input {k : Nat} {u : SX} {v : SY} (I : i_Rel k u v) (hk : k + 3 ≤ 1537) (v1 : Int32) (v2 : Int32) : wpX_input (fun r u' => wpY_input (fun r' v' => r' = r ∧ i_Rel (k + 3) u' v') v v1 v2) u v1 v2 := by
  obtain ⟨n, c, lo, hi, g, f1, f2, f3, t1, t2, t3, t4, h2, h7, hc, hv, hg, z1, z2, z3, z4, z5, z6, z7, rfl, rfl⟩ := I
  have R : i_Rel (k + 3) (nI n, nI (cn_fac n), nI c, lo, hi, g, f1, f2, f3) (nI n, nI c, lo, hi, g, t1, t2, t3, t4) := cn_R h2 h7 hc hv hg z1 z2 z3 z4 z5 z6 z7
  unfold wpX_input
  dsimp only
  rcases cn_wx v1 (n := n) (by omega) with b | ⟨i, hi', rfl⟩
  · refine cx_isW0 b (br_t rfl ?_)
    unfold wpY_input
    dsimp only
    exact cy_noW1 b (br_f (by decide) ⟨rfl, R⟩)
  · have ci := cn_cl hi' h7
    have ii : vp_in (nI i) 7 := vp_in_nI (by omega) (by omega)
    refine cx_isW1 hi' h7 (br_f (by decide) ⟨ii, nm_r (e' := upd g i v2) (by rw [ci]) ?_⟩)
    unfold wpY_input
    dsimp only
    exact cy_noW0 hi' h7 (br_t rfl ⟨ii, nm_r (e' := upd g i v2) (by rw [ci]) ⟨rfl, cn_R h2 h7 hc hv (cn_updZ hg hi') z1 z2 z3 z4 z5 z6 z7⟩⟩)
theorem i_vc_output {k : Nat} {u : SX} {v : SY} (I : i_Rel k u v) (hk : k + 3 ≤ 1537) (v1 : Int32) : wpX_output (fun r u' => wpY_output (fun r' v' => r' = r ∧ i_Rel (k + 3) u' v') v v1) u v1 := by
  obtain ⟨n, c, lo, hi, g, f1, f2, f3, t1, t2, t3, t4, h2, h7, hc, hv, hg, z1, z2, z3, z4, z5, z6, z7, rfl, rfl⟩ := I
  have R : i_Rel (k + 3) (nI n, nI (cn_fac n), nI c, lo, hi, g, f1, f2, f3) (nI n, nI c, lo, hi, g, t1, t2, t3, t4) := cn_R h2 h7 hc hv hg z1 z2 z3 z4 z5 z6 z7
  have hz := cn_runZ h7 hv c 0 _ (by omega) hg
  unfold wpX_output
  dsimp only
  rcases cn_wx v1 (n := n) (by omega) with b | ⟨w, hw, rfl⟩
  · refine cx_isW0 b (br_t rfl ?_)
    unfold wpY_output
    dsimp only
    exact cy_noW1 b (br_f (by decide) ⟨rfl, R⟩)
  · have cw := cn_cl hw h7
    refine cx_isW1 hw h7 (br_f (by decide) (cx_copy_inputs_numbers h7 f1 hg z1 ?_))
    dsimp only
    refine cx_run_numbers h7 hc hv 0 c c (by omega) (by omega) _ ?_
    dsimp only
    refine ⟨vp_in_nI (by omega) (by omega), ?_⟩
    rw [cw]
    unfold wpY_output
    dsimp only
    exact cy_noW0 hw h7 (br_t rfl (cy_copy_output h7 t2 hg z5 ⟨c + 1, cy_out40 h7 hc hv hw c 0 g (by omega) ⟨rfl, cn_R h2 h7 hc hv hg hz z2 z3 z4 hz z6 z7⟩⟩))
theorem i_vc_exchanges {k : Nat} {u : SX} {v : SY} (I : i_Rel k u v) (hk : k + 3 ≤ 1537) : wpX_exchanges (fun r u' => wpY_exchanges (fun r' v' => r' = r ∧ i_Rel (k + 3) u' v') v) u := by
  obtain ⟨n, c, lo, hi, g, f1, f2, f3, t1, t2, t3, t4, h2, h7, hc, hv, hg, z1, z2, z3, z4, z5, z6, z7, rfl, rfl⟩ := I
  have hz := cn_runZ h7 hv c 0 _ (by omega) hg
  unfold wpX_exchanges
  dsimp only
  refine cx_copy_inputs_numbers h7 f1 hg z1 ?_
  dsimp only
  refine cx_run_numbers h7 hc hv 0 c c (by omega) (by omega) _ ?_
  dsimp only
  refine cy_copy_exchanges h7 t2 hg z5 ⟨c + 1, cy_exc32 h7 hc hv c 0 0 g (by omega) ⟨?_, cn_R h2 h7 hc hv hg hz z2 z3 z4 hz z6 z7⟩⟩
  rw [Nat.zero_add]
theorem i_vc_sorts {k : Nat} {u : SX} {v : SY} (I : i_Rel k u v) (hk : k + 3 ≤ 1537) : wpX_sorts (fun r u' => wpY_sorts (fun r' v' => r' = r ∧ i_Rel (k + 3) u' v') v) u := by
  obtain ⟨n, c, lo, hi, g, f1, f2, f3, t1, t2, t3, t4, h2, h7, hc, hv, hg, z1, z2, z3, z4, z5, z6, z7, rfl, rfl⟩ := I
  have hN := cn_count h2 h7 (cn_qs n c lo hi)
  unfold wpX_sorts
  dsimp only
  refine cx_sorted h7 hc hv z1 ?_
  intro f' hf'
  dsimp only
  by_cases e : nI ((List.range' 0 (cn_fac n)).countP (fun i => cn_qs n c lo hi (cn_X n i))) = nI (cn_fac n)
  · refine br_t e ?_
    unfold wpY_sorts
    dsimp only
    refine cy_all h2 h7 (cy_sorted h2 h7 hc hv z4 z5 ?_)
    intro o p zo zp
    dsimp only
    rw [hN]
    exact br_t e ⟨rfl, cn_R h2 h7 hc hv hg hf' z2 z3 zo zp z6 z7⟩
  · refine br_f e ?_
    unfold wpY_sorts
    dsimp only
    refine cy_all h2 h7 (cy_sorted h2 h7 hc hv z4 z5 ?_)
    intro o p zo zp
    dsimp only
    rw [hN]
    exact br_f e ⟨rfl, cn_R h2 h7 hc hv hg hf' z2 z3 zo zp z6 z7⟩
theorem i_vc_sorted {k : Nat} {u : SX} {v : SY} (I : i_Rel k u v) (hk : k + 3 ≤ 1537) : wpX_sorted (fun r u' => wpY_sorted (fun r' v' => r' = r ∧ i_Rel (k + 3) u' v') v) u := by
  obtain ⟨n, c, lo, hi, g, f1, f2, f3, t1, t2, t3, t4, h2, h7, hc, hv, hg, z1, z2, z3, z4, z5, z6, z7, rfl, rfl⟩ := I
  have hN := cn_count h2 h7 (cn_qs n c lo hi)
  refine cx_sorted h7 hc hv z1 ?_
  intro f' hf'
  refine cy_sorted h2 h7 hc hv z4 z5 ?_
  intro o p zo zp
  rw [hN]
  exact ⟨rfl, cn_R h2 h7 hc hv hg hf' z2 z3 zo zp z6 z7⟩
theorem i_vc_ranks {k : Nat} {u : SX} {v : SY} (I : i_Rel k u v) (hk : k + 3 ≤ 1537) (v1 : Int32) (v2 : Int32) : wpX_ranks (fun r u' => wpY_ranks (fun r' v' => r' = r ∧ i_Rel (k + 3) u' v') v v1 v2) u v1 v2 := by
  obtain ⟨n, c, lo, hi, g, f1, f2, f3, t1, t2, t3, t4, h2, h7, hc, hv, hg, z1, z2, z3, z4, z5, z6, z7, rfl, rfl⟩ := I
  have R : i_Rel (k + 3) (nI n, nI (cn_fac n), nI c, lo, hi, g, f1, f2, f3) (nI n, nI c, lo, hi, g, t1, t2, t3, t4) := cn_R h2 h7 hc hv hg z1 z2 z3 z4 z5 z6 z7
  unfold wpX_ranks
  dsimp only
  rcases cn_wx v1 (n := n) (by omega) with b | ⟨w, hw, rfl⟩
  · refine cx_isW0 b (br_t rfl ?_)
    unfold wpY_ranks
    dsimp only
    exact cy_noW1 b (br_f (by decide) ⟨rfl, R⟩)
  · refine cx_isW1 hw h7 (br_f (by decide) ?_)
    by_cases e1 : v2 < 1
    · refine br_t e1 ?_
      unfold wpY_ranks
      dsimp only
      exact cy_noW0 hw h7 (br_t rfl (br_t e1 ⟨rfl, R⟩))
    · by_cases e2 : v2 ≤ nI n
      · have hN := cn_count h2 h7 (cn_qr c lo hi w v2)
        refine br_f e1 (br_t e2 ⟨cn_fac n + 1, cx_ranks28 h7 hc hv hw v2 (cn_fac n) 0 0 f1 (by omega) z1 ?_⟩)
        intro f' hf'
        unfold wpY_ranks
        dsimp only
        refine cy_noW0 hw h7 (br_t rfl (br_f e1 (br_t e2 (cy_first h2 h7 z4 ?_))))
        obtain ⟨d, ed⟩ : ∃ d, cn_fac n = d + 1 := ⟨cn_fac n - 1, by have := cn_facPos n; omega⟩
        refine ⟨d + 2, cy_ranks32 h2 h7 hc hv hw v2 d 0 0 t2 (by omega) z5 ?_⟩
        intro o p zo zp
        rw [← ed, hN]
        exact ⟨rfl, cn_R h2 h7 hc hv hg hf' z2 z3 zo zp z6 z7⟩
      · refine br_f e1 (br_f e2 ?_)
        unfold wpY_ranks
        dsimp only
        exact cy_noW0 hw h7 (br_t rfl (br_f e1 (br_f e2 ⟨rfl, R⟩)))
theorem i_vc_works {k : Nat} {u : SX} {v : SY} (I : i_Rel k u v) (hk : k + 3 ≤ 1537) (v1 : Int32) : wpX_works (fun r u' => wpY_works (fun r' v' => r' = r ∧ i_Rel (k + 3) u' v') v v1) u v1 := by
  obtain ⟨n, c, lo, hi, g, f1, f2, f3, t1, t2, t3, t4, h2, h7, hc, hv, hg, z1, z2, z3, z4, z5, z6, z7, rfl, rfl⟩ := I
  have R : i_Rel (k + 3) (nI n, nI (cn_fac n), nI c, lo, hi, g, f1, f2, f3) (nI n, nI c, lo, hi, g, t1, t2, t3, t4) := cn_R h2 h7 hc hv hg z1 z2 z3 z4 z5 z6 z7
  unfold wpX_works
  dsimp only
  rcases cn_wx v1 (n := c) (by omega) with b | ⟨j, hj, rfl⟩
  · refine cx_isC0 b (br_t rfl ?_)
    unfold wpY_works
    dsimp only
    exact cy_is0 b (br_t rfl ⟨rfl, R⟩)
  · have hN := cn_count h2 h7 (cn_qw lo hi j)
    refine cx_isC1 hj hc (br_f (by decide) ⟨cn_fac n + 1, cx_works15 h7 hc hv hj (cn_fac n) 0 0 f1 (by omega) z1 ?_⟩)
    intro f' hf'
    unfold wpY_works
    dsimp only
    refine cy_is1 hj hc (br_f (by decide) (cy_first h2 h7 z4 ?_))
    obtain ⟨d, ed⟩ : ∃ d, cn_fac n = d + 1 := ⟨cn_fac n - 1, by have := cn_facPos n; omega⟩
    refine ⟨d + 2, cy_works19 h2 h7 hc hv hj d 0 0 t2 (by omega) z5 ?_⟩
    intro o p zo zp
    rw [← ed, hN]
    exact ⟨rfl, cn_R h2 h7 hc hv hg hf' z2 z3 zo zp z6 z7⟩
theorem i_vc_below {k : Nat} {u : SX} {v : SY} (I : i_Rel k u v) (hk : k + 3 ≤ 1537) (v1 : Int32) (v2 : Int32) : wpX_below (fun r u' => wpY_below (fun r' v' => r' = r ∧ i_Rel (k + 3) u' v') v v1 v2) u v1 v2 := by
  obtain ⟨n, c, lo, hi, g, f1, f2, f3, t1, t2, t3, t4, h2, h7, hc, hv, hg, z1, z2, z3, z4, z5, z6, z7, rfl, rfl⟩ := I
  have R : i_Rel (k + 3) (nI n, nI (cn_fac n), nI c, lo, hi, g, f1, f2, f3) (nI n, nI c, lo, hi, g, t1, t2, t3, t4) := cn_R h2 h7 hc hv hg z1 z2 z3 z4 z5 z6 z7
  unfold wpX_below
  dsimp only
  rcases cn_wx v1 (n := n) (by omega) with b | ⟨i, hi', rfl⟩
  · refine cx_isW0 b (br_t rfl ?_)
    unfold wpY_below
    dsimp only
    exact cy_noW1 b (br_f (by decide) ⟨rfl, R⟩)
  · rcases cn_wx v2 (n := n) (by omega) with b | ⟨j, hj', rfl⟩
    · refine cx_isW1 hi' h7 (br_f (by decide) (cx_isW0 b (br_t rfl ?_)))
      unfold wpY_below
      dsimp only
      exact cy_noW0 hi' h7 (br_t rfl (cy_noW1 b (br_f (by decide) ⟨rfl, R⟩)))
    · have hN := cn_count h2 h7 (cn_qb c lo hi i j)
      refine cx_isW1 hi' h7 (br_f (by decide) (cx_isW1 hj' h7 (br_f (by decide) ⟨cn_fac n + 1, cx_below23 h7 hc hv hi' hj' (cn_fac n) 0 0 f1 (by omega) z1 ?_⟩)))
      intro f' hf'
      unfold wpY_below
      dsimp only
      refine cy_noW0 hi' h7 (br_t rfl (cy_noW0 hj' h7 (br_t rfl (cy_first h2 h7 z4 ?_))))
      obtain ⟨d, ed⟩ : ∃ d, cn_fac n = d + 1 := ⟨cn_fac n - 1, by have := cn_facPos n; omega⟩
      refine ⟨d + 2, cy_below27 h2 h7 hc hv hi' hj' d 0 0 t2 (by omega) z5 ?_⟩
      intro o p zo zp
      rw [← ed, hN]
      exact ⟨rfl, cn_R h2 h7 hc hv hg hf' z2 z3 zo zp z6 z7⟩
theorem i_vc_idle {k : Nat} {u : SX} {v : SY} (I : i_Rel k u v) (hk : k + 3 ≤ 1537) : wpX_idle (fun r u' => wpY_idle (fun r' v' => r' = r ∧ i_Rel (k + 3) u' v') v) u := by
  obtain ⟨n, c, lo, hi, g, f1, f2, f3, t1, t2, t3, t4, h2, h7, hc, hv, hg, z1, z2, z3, z4, z5, z6, z7, rfl, rfl⟩ := I
  have hN : ∀ q, (List.range' 0 (cn_fac n)).all (fun i => cn_qi n c lo hi q (cn_Y n i)) = (List.range' 0 (cn_fac n)).all (fun i => cn_qi n c lo hi q (cn_X n i)) := fun q => cn_every h2 h7 (cn_qi n c lo hi q)
  refine ⟨c + 1, cx_idle4 h7 hc hv c 0 0 f1 f2 (by omega) z1 z2 ?_⟩
  intro p p' zp zp'
  refine ⟨c + 1, cy_idle4 h2 h7 hc hv c 0 0 t1 t2 t3 (by omega) z4 z5 z6 ?_⟩
  intro o q q' zo zq zq'
  simp only [hN]
  exact ⟨trivial, cn_R h2 h7 hc hv hg zp zp' z3 zo zq zq' z7⟩
theorem i_vc_rounds {k : Nat} {u : SX} {v : SY} (I : i_Rel k u v) (hk : k + 3 ≤ 1537) : wpX_rounds (fun r u' => wpY_rounds (fun r' v' => r' = r ∧ i_Rel (k + 3) u' v') v) u := by
  obtain ⟨n, c, lo, hi, g, f1, f2, f3, t1, t2, t3, t4, h2, h7, hc, hv, hg, z1, z2, z3, z4, z5, z6, z7, rfl, rfl⟩ := I
  refine ⟨n + 1, cx_rounds2 h7 hc hv ?_ n 0 f3 (by omega) (fun j hj => absurd hj (by omega)) z3⟩
  intro f' hf'
  refine ⟨n + 1, cy_rounds2 h7 hc hv ?_ n 0 t4 (by omega) (fun j hj => absurd hj (by omega)) z7⟩
  intro q hq
  exact ⟨rfl, cn_R h2 h7 hc hv hg z1 z2 hf' z4 z5 z6 hq⟩
