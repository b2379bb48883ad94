/-! Branches read as integers; the small tests of both sides -/
theorem zq_lt {x y : Int32} {p q : Int} {A B : Prop} (hx : x.toInt = p) (hy : y.toInt = q) (f : p < q → A) (g : q ≤ p → B) : (x < y → A) ∧ (¬ x < y → B) := by
  rw [Int32.lt_iff_toInt_lt, hx, hy]
  exact ⟨f, fun z => g (by omega)⟩
theorem zq_le {x y : Int32} {p q : Int} {A B : Prop} (hx : x.toInt = p) (hy : y.toInt = q) (f : p ≤ q → A) (g : q < p → B) : (x ≤ y → A) ∧ (¬ x ≤ y → B) := by
  rw [Int32.le_iff_toInt_le, hx, hy]
  exact ⟨f, fun z => g (by omega)⟩
theorem zq_0 : (0 : Int32).toInt = 0 := by decide
theorem zq_1 : (1 : Int32).toInt = 1 := by decide
theorem zq_3 : (3 : Int32).toInt = 3 := by decide
theorem zq_4 : (4 : Int32).toInt = 4 := by decide
theorem zq_5 : (5 : Int32).toInt = 5 := by decide
theorem zq_7 : (7 : Int32).toInt = 7 := by decide
theorem zq_8 : (8 : Int32).toInt = 8 := by decide
theorem zq_15 : (15 : Int32).toInt = 15 := by decide
theorem zq_16 : (16 : Int32).toInt = 16 := by decide
theorem zq_32 : (32 : Int32).toInt = 32 := by decide
theorem zq_k : (1000 : Int32).toInt = 1000 := by decide
theorem zq_mk : (-1000 : Int32).toInt = -1000 := by decide
theorem zq_m1 : (-1 : Int32).toInt = -1 := by decide
theorem zq_in {x : Int32} {n : Nat} (h0 : 0 ≤ x.toInt) (h1 : x.toInt < n) : vp_in x n := vp_in_iff.mpr ⟨h0, h1⟩
/-- a number between 0 and k is a natural's -/
theorem zq_n {x : Int32} {k : Nat} (h0 : 0 ≤ x.toInt) (h1 : x.toInt ≤ k) : ∃ j : Nat, j ≤ k ∧ x = nI j ∧ x.toInt = j := by
  have h : ¬ x < 0 := by rw [Int32.lt_iff_toInt_lt, zq_0]; omega
  obtain ⟨j, hj, rfl⟩ := nI_of h
  rw [nI_toInt hj] at h1
  exact ⟨j, by omega, rfl, nI_toInt hj⟩
theorem zq_pm (n : Nat) : nI (n + 1) + (-1) = nI n := by
  rw [← nI_1, Int32.add_assoc, show (1 : Int32) + (-1) = 0 from rfl, Int32.add_zero]
def zS (x : Int32) : Prop := 0 ≤ x.toInt ∧ x.toInt ≤ 3
section
variable {post : Int32 → Prop} {p : Int32}
theorem sx_sv (h1 : zS p → post 1) (h0 : ¬ zS p → post 0) : wpX_isSizeVariable post p :=
  zq_lt rfl zq_0 (fun h => h0 (fun z => by have := z.1; omega)) (fun h => zq_le zq_4 rfl (fun g => h0 (fun z => by have := z.2; omega)) (fun g => h1 ⟨h, by omega⟩))
theorem sx_ar (h1 : zS p → post 1) (h0 : ¬ zS p → post 0) : wpX_isArray post p :=
  zq_lt rfl zq_0 (fun h => h0 (fun z => by have := z.1; omega)) (fun h => zq_le zq_4 rfl (fun g => h0 (fun z => by have := z.2; omega)) (fun g => h1 ⟨h, by omega⟩))
theorem sx_k (h1 : ns_K p → post 1) (h0 : ¬ ns_K p → post 0) : wpX_isConstant post p :=
  zq_lt rfl zq_mk (fun h => h0 (fun z => by have := z.1; omega)) (fun h => zq_lt zq_k rfl (fun g => h0 (fun z => by have := z.2; omega)) (fun g => h1 ⟨h, g⟩))
theorem sx_ci (h1 : 0 ≤ p.toInt ∧ p.toInt ≤ 15 → post 1) (h0 : ¬ (0 ≤ p.toInt ∧ p.toInt ≤ 15) → post 0) : wpX_isCellIndex post p :=
  zq_lt rfl zq_0 (fun h => h0 (by omega)) (fun h => zq_le zq_16 rfl (fun g => h0 (by omega)) (fun g => h1 (by omega)))
theorem sx_lv (h1 : 4 ≤ p.toInt ∧ p.toInt ≤ 7 → post 1) (h0 : ¬ (4 ≤ p.toInt ∧ p.toInt ≤ 7) → post 0) : wpX_isLoopVariable post p :=
  zq_lt rfl zq_4 (fun h => h0 (by omega)) (fun h => zq_le zq_8 rfl (fun g => h0 (by omega)) (fun g => h1 (by omega)))
theorem sx_ac (h1 : p = 5 ∨ p = 6 ∨ p = 7 → post 1) (h0 : ¬ (p = 5 ∨ p = 6 ∨ p = 7) → post 0) : wpX_isAccess post p :=
  br_c (fun h => h1 (Or.inl h)) (fun h => br_c (fun g => h1 (Or.inr (Or.inl g))) (fun g => br_c (fun k => h1 (Or.inr (Or.inr k))) (fun k => h0 (fun z => z.elim h (fun z => z.elim g k)))))
variable {K1 K2 fn fp fa ft fe : Int32} {ro ra rv rc px py pc lv lc vy ce ex ey ew ds hi : Nat → Int32}
theorem sy_bc (h0 : ns_K p → post 0) (h1 : ¬ ns_K p → post 1) : wpY_badC post (K1, K2, fn, fp, fa, ft, fe, ro, ra, rv, rc, px, py, pc, lv, lc, vy, ce, ex, ey, ew, ds, hi) p :=
  zq_lt rfl zq_mk (fun h => h1 (fun z => by have := z.1; omega)) (fun h => zq_le rfl zq_k (fun g => h0 ⟨h, g⟩) (fun g => h1 (fun z => by have := z.2; omega)))
theorem sy_ib {k : Nat} (hk : k < 32) (h1 : ns_B (ro k) → post 1) (h0 : ¬ ns_B (ro k) → post 0) : wpY_isBlock post (K1, K2, fn, fp, fa, ft, fe, ro, ra, rv, rc, px, py, pc, lv, lc, vy, ce, ex, ey, ew, ds, hi) (nI k) := by
  have e : (nI k).toNatClampNeg = k := nI_clamp (by omega)
  unfold wpY_isBlock
  dsimp only
  rw [e]
  exact ⟨vp_in_nI hk (by omega), br_c (fun h => h1 (Or.inl h)) (fun h => ⟨vp_in_nI hk (by omega), br_c (fun g => h1 (Or.inr g)) (fun g => h0 (fun z => z.elim h g))⟩)⟩
/-! the reference's searches -/
theorem sy_me_l {n j : Nat} (hn : n ≤ 32) (h : post (ns_res (ns_at ro j n))) : ∀ t k d : Nat, k + t = n → j < k → ns_at ro j k = .inl d → wY_matchEnd_6 post K1 K2 (nI n) fp fa ft fe ro ra rv rc px py pc lv lc vy ce ex ey ew ds hi (t + 1) (nI d) (nI k) := by
  intro t
  induction t with
  | zero =>
    intro k d hk hj hd
    have e : k = n := by omega
    subst e
    rw [hd] at h
    exact br_t (nI_le (by omega) (by omega)) h
  | succ t ih =>
    intro k d hk hj hd
    refine br_f (nI_ge (by omega) (by omega)) (sy_ib (by omega) (fun hB => ?_) (fun hB => ?_))
    · refine br_f (by decide) (nm_r (nI_1 d) (nm_r (nI_1 k) (ih (k + 1) (d + 1) (by omega) (by omega) ?_)))
      rw [ns_s hj, hd, ns_xB d hB]
    · refine br_t rfl ⟨vp_in_nI (by omega) (by omega), ?_⟩
      rw [nI_clamp (show k < 2 ^ 31 by omega)]
      by_cases h3 : ro k = 3
      · refine br_t h3 ?_
        cases d with
        | zero =>
          refine br_t rfl ?_
          have hf : ns_at ro j (k + 1) = .inr k := by rw [ns_s hj, hd, ns_x0 h3]
          rw [ns_keep' hf (by omega)] at h
          exact h
        | succ d =>
          have hdl := ns_dl k (d + 1) hd
          refine br_f (nI_ne0 (by omega) (by omega)) (nm_r (zq_pm d) (nm_r (nI_1 k) (ih (k + 1) d (by omega) (by omega) ?_)))
          rw [ns_s hj, hd, ns_xS d h3]
      · refine br_f h3 (nm_r (nI_1 k) (ih (k + 1) d (by omega) (by omega) ?_))
        rw [ns_s hj, hd, ns_xo d hB h3]
theorem sy_me {n j : Nat} (hn : n ≤ 32) (hj : j < n) (h : post (ns_res (ns_at ro j n))) : wpY_matchEnd post (K1, K2, nI n, fp, fa, ft, fe, ro, ra, rv, rc, px, py, pc, lv, lc, vy, ce, ex, ey, ew, ds, hi) (nI j) :=
  nm_r (nI_1 j) ⟨_, sy_me_l hn h (n - (j + 1)) (j + 1) 0 (by omega) (by omega) (ns_le (by omega))⟩
theorem sy_ao_l {n : Nat} (hn : n ≤ 32) (h1 : (∃ j d, j < n ∧ ns_B (ro j) ∧ ns_at ro j n = .inl d) → post 1) (h0 : ¬ (∃ j d, j < n ∧ ns_B (ro j) ∧ ns_at ro j n = .inl d) → post 0) :
    ∀ t k : Nat, k + t = n → (∀ j d, j < k → ns_B (ro j) → ¬ ns_at ro j n = .inl d) → wY_anyOpen_2 post K1 K2 (nI n) fp fa ft fe ro ra rv rc px py pc lv lc vy ce ex ey ew ds hi (t + 1) (nI k) := by
  intro t
  induction t with
  | zero =>
    intro k hk hp
    exact br_t (nI_le (by omega) (by omega)) (h0 fun z => by obtain ⟨j, d, a, b, c⟩ := z; exact hp j d (by omega) b c)
  | succ t ih =>
    intro k hk hp
    refine br_f (nI_ge (by omega) (by omega)) (sy_ib (by omega) (fun hB => ?_) (fun hB => ?_))
    · refine br_f (by decide) (sy_me hn (by omega) ?_)
      cases q : ns_at ro k n with
      | inl d => exact br_f (show ¬ (0 : Int32) ≤ -1 by decide) (h1 ⟨k, d, by omega, hB, q⟩)
      | inr e =>
        have he := ns_fnd n q
        refine br_t (nI_pos' (by omega)) (nm_r (nI_1 k) (ih (k + 1) (by omega) ?_))
        intro j d hj hb
        by_cases z : j = k
        · subst z
          rw [q]
          intro w
          cases w
        · exact hp j d (by omega) hb
    · refine br_t rfl (nm_r (nI_1 k) (ih (k + 1) (by omega) ?_))
      intro j d hj hb
      by_cases z : j = k
      · subst z
        exact absurd hb hB
      · exact hp j d (by omega) hb
theorem sy_ao {n : Nat} (hn : n ≤ 32) (h1 : (∃ j d, j < n ∧ ns_B (ro j) ∧ ns_at ro j n = .inl d) → post 1) (h0 : ¬ (∃ j d, j < n ∧ ns_B (ro j) ∧ ns_at ro j n = .inl d) → post 0) : wpY_anyOpen post (K1, K2, nI n, fp, fa, ft, fe, ro, ra, rv, rc, px, py, pc, lv, lc, vy, ce, ex, ey, ew, ds, hi) :=
  Exists.intro _ (sy_ao_l hn h1 h0 n 0 (by omega) (fun _ _ h => absurd h (Nat.not_lt_zero _)))
theorem sy_ol_l {n : Nat} {x : Int32} (hn : n ≤ 32) (h1 : (∃ j d, j < n ∧ ro j = 1 ∧ ra j = x ∧ ns_at ro j n = .inl d) → post 1) (h0 : ¬ (∃ j d, j < n ∧ ro j = 1 ∧ ra j = x ∧ ns_at ro j n = .inl d) → post 0) :
    ∀ t k : Nat, k + t = n → (∀ j d, j < k → ro j = 1 → ra j = x → ¬ ns_at ro j n = .inl d) → wY_openLoopVar_2 post x K1 K2 (nI n) fp fa ft fe ro ra rv rc px py pc lv lc vy ce ex ey ew ds hi (t + 1) (nI k) := by
  intro t
  induction t with
  | zero =>
    intro k hk hp
    exact br_t (nI_le (by omega) (by omega)) (h0 fun z => by obtain ⟨j, d, a, b, c, e⟩ := z; exact hp j d (by omega) b c e)
  | succ t ih =>
    intro k hk hp
    have ec : (nI k).toNatClampNeg = k := nI_clamp (by omega)
    refine br_f (nI_ge (by omega) (by omega)) ⟨vp_in_nI (by omega) (by omega), ?_⟩
    rw [ec]
    have nx : (∀ d, ro k = 1 → ra k = x → ¬ ns_at ro k n = .inl d) → wY_openLoopVar_2 post x K1 K2 (nI n) fp fa ft fe ro ra rv rc px py pc lv lc vy ce ex ey ew ds hi (t + 1) (nI (k + 1)) := by
      intro hk2
      refine ih (k + 1) (by omega) ?_
      intro j d hj h3 h4
      by_cases z : j = k
      · subst z
        exact hk2 d h3 h4
      · exact hp j d (by omega) h3 h4
    by_cases g1 : ro k = 1
    · refine br_t g1 ⟨vp_in_nI (by omega) (by omega), ?_⟩
      by_cases g2 : ra k = x
      · refine br_t g2 (sy_me hn (by omega) ?_)
        cases q : ns_at ro k n with
        | inl d => exact br_f (show ¬ (0 : Int32) ≤ -1 by decide) (h1 ⟨k, d, by omega, g1, g2, q⟩)
        | inr e =>
          have he := ns_fnd n q
          refine br_t (nI_pos' (by omega)) (nm_r (nI_1 k) (nx ?_))
          intro d _ _
          rw [q]
          intro w
          cases w
      · exact br_f g2 (nm_r (nI_1 k) (nx (fun _ _ z => absurd z g2)))
    · exact br_f g1 (nm_r (nI_1 k) (nx (fun _ z => absurd z g1)))
theorem sy_ol {n : Nat} {x : Int32} (hn : n ≤ 32) (h1 : (∃ j d, j < n ∧ ro j = 1 ∧ ra j = x ∧ ns_at ro j n = .inl d) → post 1) (h0 : ¬ (∃ j d, j < n ∧ ro j = 1 ∧ ra j = x ∧ ns_at ro j n = .inl d) → post 0) : wpY_openLoopVar post (K1, K2, nI n, fp, fa, ft, fe, ro, ra, rv, rc, px, py, pc, lv, lc, vy, ce, ex, ey, ew, ds, hi) x :=
  Exists.intro _ (sy_ol_l hn h1 h0 n 0 (by omega) (fun _ _ h => absurd h (Nat.not_lt_zero _)))
theorem sy_mo_l {n j0 e : Nat} (hn : n ≤ 32) (hj0 : j0 < e) (he : e < n) (hB : ns_B (ro j0)) (hf : ns_at ro j0 n = .inr e) (hu : ∀ j, j < n → ns_B (ro j) → ns_at ro j n = .inr e → j = j0) (h : post (nI j0)) :
    ∀ t : Nat, j0 + t < e → wY_matchOpen_4 post (nI e) K1 K2 (nI n) fp fa ft fe ro ra rv rc px py pc lv lc vy ce ex ey ew ds hi (t + 1) (nI (j0 + t)) := by
  intro t
  induction t with
  | zero =>
    intro hk
    refine br_f (nI_pos (by omega)) (sy_ib (by omega) (fun _ => ?_) (fun z => absurd hB z))
    refine br_f (by decide) (sy_me hn (by omega) ?_)
    show _ ∧ _
    rw [Nat.add_zero, hf]
    exact br_t rfl h
  | succ t ih =>
    intro hk
    refine br_f (nI_pos (by omega)) (sy_ib (by omega) (fun hb => ?_) (fun hb => ?_))
    · refine br_f (by decide) (sy_me hn (by omega) ?_)
      refine br_f ?_ (nm_r (zq_pm (j0 + t)) (ih (by omega)))
      intro z
      cases q : ns_at ro (j0 + (t + 1)) n with
      | inl d =>
        rw [q] at z
        have z2 := congrArg Int32.toInt z
        rw [nI_toInt (by omega)] at z2
        rw [show (ns_res (Sum.inl d)) = -1 from rfl, zq_m1] at z2
        omega
      | inr g =>
        have hg := ns_fnd n q
        rw [q] at z
        have z2 : g = e := (nI_eq (by omega) (by omega)).mp z
        subst z2
        have := hu _ (by omega) hb q
        omega
    · exact br_t rfl (nm_r (zq_pm (j0 + t)) (ih (by omega)))
theorem sy_mo {n j0 e : Nat} (hn : n ≤ 32) (hj0 : j0 < e) (he : e < n) (hB : ns_B (ro j0)) (hf : ns_at ro j0 n = .inr e) (hu : ∀ j, j < n → ns_B (ro j) → ns_at ro j n = .inr e → j = j0) (h : post (nI j0)) : wpY_matchOpen post (K1, K2, nI n, fp, fa, ft, fe, ro, ra, rv, rc, px, py, pc, lv, lc, vy, ce, ex, ey, ew, ds, hi) (nI e) := by
  obtain ⟨t, rfl⟩ : ∃ t, e = j0 + t + 1 := ⟨e - j0 - 1, by omega⟩
  exact nm_r (nI_pred (j0 + t)) ⟨_, sy_mo_l hn hj0 he hB hf hu h t (by omega)⟩
theorem sy_bd {n : Nat} {x : Int32} (hn : n ≤ 32) (hL : ∀ j, j < n → ro j = 1 → 4 ≤ (ra j).toInt ∧ (ra j).toInt ≤ 7) (h1 : ns_Bd ro ra n x → post 1) (h0 : ¬ ns_Bd ro ra n x → post 0) : wpY_bound post (K1, K2, nI n, fp, fa, ft, fe, ro, ra, rv, rc, px, py, pc, lv, lc, vy, ce, ex, ey, ew, ds, hi) x := by
  have key : ¬ (0 ≤ x.toInt ∧ x.toInt ≤ 3) → wY_bound_11 post x K1 K2 (nI n) fp fa ft fe ro ra rv rc px py pc lv lc vy ce ex ey ew ds hi := by
    intro hs
    have no : ¬ (4 ≤ x.toInt ∧ x.toInt ≤ 7) → ¬ ns_Bd ro ra n x := by
      intro hx z
      rcases z with z | ⟨j, d, hj, h2, h3, _⟩
      · exact hs z
      · have := hL j hj h2
        rw [h3] at this
        exact hx this
    refine zq_lt rfl zq_4 (fun h => h0 (no (by omega))) (fun h => zq_lt zq_7 rfl (fun g => h0 (no (by omega))) (fun g => ?_))
    refine sy_ol hn (fun z => br_f (by decide) (h1 (Or.inr ?_))) (fun z => br_t rfl (h0 ?_))
    · exact z
    · intro w
      rcases w with w | w
      · exact hs w
      · exact z w
  exact zq_lt rfl zq_0 (fun h => key (by omega)) (fun h => zq_lt zq_3 rfl (fun g => key (by omega)) (fun g => h1 (Or.inl ⟨h, g⟩)))
end
