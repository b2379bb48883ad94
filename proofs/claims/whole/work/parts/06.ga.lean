/-! Gathering: both sides fill their arrays with the same store -/
def ed_ctx (s0 : Nat × (Nat → Int32) × (Nat → Int32) × (Nat → Int32)) (ro ra rv rc rP : Nat → Int32) (k : Nat) : Nat → Nat × (Nat → Int32) × (Nat → Int32) × (Nat → Int32)
  | 0 => s0
  | j + 1 =>
    if (ro j = 1 ∨ ro j = 2) ∧ (rP j = -1 ∨ nI k < rP j) then
      (if ro j = 1 then ed_push (ed_push (ed_ctx s0 ro ra rv rc rP k j) 0 (ra j) 0) (ra j) (rv j) (rc j - 1)
       else ed_push (ed_ctx s0 ro ra rv rc rP k j) (ra j) (rv j) (rc j))
    else ed_ctx s0 ro ra rv rc rP k j
section
variable {s0 : Nat × (Nat → Int32) × (Nat → Int32) × (Nat → Int32)} {ro ra rv rc rP : Nat → Int32} {k : Nat}
theorem ed_cn {j : Nat} (h : ¬ ((ro j = 1 ∨ ro j = 2) ∧ (rP j = -1 ∨ nI k < rP j))) : ed_ctx s0 ro ra rv rc rP k (j + 1) = ed_ctx s0 ro ra rv rc rP k j := if_neg h
theorem ed_cl {j : Nat} (h : (ro j = 1 ∨ ro j = 2) ∧ (rP j = -1 ∨ nI k < rP j)) (h1 : ro j = 1) : ed_ctx s0 ro ra rv rc rP k (j + 1) = ed_push (ed_push (ed_ctx s0 ro ra rv rc rP k j) 0 (ra j) 0) (ra j) (rv j) (rc j - 1) := by
  show (if _ then _ else _) = _
  rw [if_pos h, if_pos h1]
theorem ed_ci {j : Nat} (h : (ro j = 1 ∨ ro j = 2) ∧ (rP j = -1 ∨ nI k < rP j)) (h1 : ¬ ro j = 1) : ed_ctx s0 ro ra rv rc rP k (j + 1) = ed_push (ed_ctx s0 ro ra rv rc rP k j) (ra j) (rv j) (rc j) := by
  show (if _ then _ else _) = _
  rw [if_pos h, if_neg h1]
theorem ed_c1 : ∀ j, (ed_ctx s0 ro ra rv rc rP k j).1 ≤ s0.1 + 2 * j := by
  intro j
  induction j with
  | zero => exact Nat.le_refl _
  | succ j ih =>
    by_cases h : (ro j = 1 ∨ ro j = 2) ∧ (rP j = -1 ∨ nI k < rP j)
    · by_cases h1 : ro j = 1
      · rw [ed_cl h h1]
        show (ed_ctx s0 ro ra rv rc rP k j).1 + 1 + 1 ≤ _
        omega
      · rw [ed_ci h h1]
        show (ed_ctx s0 ro ra rv rc rP k j).1 + 1 ≤ _
        omega
    · rw [ed_cn h]
      omega
theorem zq_s1 {x : Int32} (h1 : -2000 ≤ x.toInt) (h2 : x.toInt ≤ 2000) : (x - 1).toInt = x.toInt - 1 := by
  rw [Int32.toInt_sub, zq_1]
  exact Int.bmod_eq_of_le (by omega) (by omega)
theorem ed_V0 : ed_V 0 := ⟨0, by omega, rfl⟩
theorem ed_Gc (h0 : ed_G s0) : ∀ j, (∀ i, i < j → ns_B (ro i) → ed_V (ra i) ∧ ed_V (rv i) ∧ ns_K (rc i)) → ed_G (ed_ctx s0 ro ra rv rc rP k j) := by
  intro j
  induction j with
  | zero => exact fun _ => h0
  | succ j ih =>
    intro hw
    have hg := ih (fun i hi => hw i (by omega))
    by_cases h : (ro j = 1 ∨ ro j = 2) ∧ (rP j = -1 ∨ nI k < rP j)
    · obtain ⟨w1, w2, w3⟩ := hw j (by omega) h.1
      have w4 := w3.1
      have w5 := w3.2
      by_cases h1 : ro j = 1
      · rw [ed_cl h h1]
        have hs := zq_s1 (x := rc j) (by omega) (by omega)
        exact ed_G_push (ed_G_push hg ed_V0 w1 (by decide) (by decide)) w1 w2 (by omega) (by omega)
      · rw [ed_ci h h1]
        exact ed_G_push hg w1 w2 (by omega) (by omega)
    · rw [ed_cn h]
      exact hg
end
section
variable {post : SX → Prop} {K1 K2 fn fm fp fa ft fk : Int32} {ro ra rv rc rP rS px py pc lv lc ce vx le cx cy cw cd : Nat → Int32}
theorem gx_add {k : Nat} (hk : k < 81) (x y w : Int32) (h : post (K1, K2, fn, fm, fp, fa, ft, nI (k + 1), ro, ra, rv, rc, rP, rS, px, py, pc, lv, lc, ce, vx, le, upd cx k x, upd cy k y, upd cw k w, cd)) : wpX_addConstraint post (K1, K2, fn, fm, fp, fa, ft, nI k, ro, ra, rv, rc, rP, rS, px, py, pc, lv, lc, ce, vx, le, cx, cy, cw, cd) x y w :=
  have e : (nI k).toNatClampNeg = k := nI_clamp (by omega)
  And.intro (vp_in_nI hk (by omega)) (nm_r (by rw [e]) (And.intro (vp_in_nI hk (by omega)) (nm_r (by rw [e]) (And.intro (vp_in_nI hk (by omega)) (nm_r (by rw [e]) (nm_r (nI_1 k) h))))))
theorem ed_Hp {px py pc cx cy cw : Nat → Int32} {i : Nat} (h : ed_H (i, px, py, pc) cx cy cw) : ed_H (i + 1, px, py, pc) (upd cx i (px i)) (upd cy i (py i)) (upd cw i (pc i)) := by
  intro q hq
  have hq' : q < i + 1 := hq
  by_cases z : q = i
  · rw [z, ns_us, ns_us, ns_us]
    exact ⟨rfl, rfl, rfl⟩
  · rw [ns_uo z, ns_uo z, ns_uo z]
    exact h q (show q < i by omega)
theorem gx_pre_l {np : Nat} (hnp : np ≤ 16) (h : ∀ cx cy cw : Nat → Int32, ed_H (np, px, py, pc) cx cy cw → post (K1, K2, fn, fm, nI np, fa, ft, nI np, ro, ra, rv, rc, rP, rS, px, py, pc, lv, lc, ce, vx, le, cx, cy, cw, cd)) :
    ∀ (t i : Nat) (cx cy cw : Nat → Int32), i + t = np → ed_H (i, px, py, pc) cx cy cw → wX_gatherPreconditions_7 post (t + 1) (nI i) K1 K2 fn fm (nI np) fa ft (nI i) ro ra rv rc rP rS px py pc lv lc ce vx le cx cy cw cd := by
  intro t
  induction t with
  | zero =>
    intro i cx cy cw hi hH
    have e : i = np := by omega
    subst e
    exact br_t (nI_le (Nat.le_refl _) (by omega)) (h cx cy cw hH)
  | succ t ih =>
    intro i cx cy cw hi hH
    have e : (nI i).toNatClampNeg = i := nI_clamp (by omega)
    have z := ih (i + 1) _ _ _ (by omega) (ed_Hp hH)
    refine br_f (nI_ge (by omega) (by omega)) (And.intro (vp_in_nI (by omega) (by omega)) (And.intro (vp_in_nI (by omega) (by omega)) (And.intro (vp_in_nI (by omega) (by omega)) ?_)))
    rw [e]
    exact gx_add (by omega) _ _ _ (nm_r (nI_1 i) z)
theorem gx_pre {np : Nat} (hnp : np ≤ 16) (h : ∀ cx cy cw : Nat → Int32, ed_H (np, px, py, pc) cx cy cw → post (K1, K2, fn, fm, nI np, fa, ft, nI np, ro, ra, rv, rc, rP, rS, px, py, pc, lv, lc, ce, vx, le, cx, cy, cw, cd)) : wpX_gatherPreconditions post (K1, K2, fn, fm, nI np, fa, ft, fk, ro, ra, rv, rc, rP, rS, px, py, pc, lv, lc, ce, vx, le, cx, cy, cw, cd) :=
  Exists.intro _ (gx_pre_l hnp h np 0 cx cy cw (by omega) (fun _ hq => absurd hq (Nat.not_lt_zero _)))
theorem gx_enc {P : Int32 → Prop} {j k : Nat} (hj : j < 32) (h1 : (ro j = 1 ∨ ro j = 2) ∧ (rP j = -1 ∨ nI k < rP j) → P 1) (h0 : ¬ ((ro j = 1 ∨ ro j = 2) ∧ (rP j = -1 ∨ nI k < rP j)) → P 0) : wpX_encloses P (K1, K2, fn, fm, fp, fa, ft, fk, ro, ra, rv, rc, rP, rS, px, py, pc, lv, lc, ce, vx, le, cx, cy, cw, cd) (nI j) (nI k) := by
  have e : (nI j).toNatClampNeg = j := nI_clamp (by omega)
  have hin : vp_in (nI j) 32 := vp_in_nI hj (by omega)
  have key : (ro j = 1 ∨ ro j = 2) → wX_encloses_25 P (nI j) (nI k) 1 K1 K2 fn fm fp fa ft fk ro ra rv rc rP rS px py pc lv lc ce vx le cx cy cw cd := by
    intro hb
    refine br_f (by decide) (And.intro hin ?_)
    rw [e]
    exact br_c (fun z => h1 ⟨hb, Or.inl z⟩) (fun z => And.intro hin (br_c (fun w => h0 (fun q => q.2.elim z (fun q2 => absurd w (Int32.not_le.mpr q2)))) (fun w => h1 ⟨hb, Or.inr (Int32.not_le.mp w)⟩)))
  refine And.intro hin ?_
  rw [e]
  exact br_c (fun z => key (Or.inl z)) (fun z => And.intro hin (br_c (fun w => key (Or.inr w)) (fun w => br_t rfl (h0 (fun q => q.1.elim z w)))))
theorem gx_ctx_l {k np : Nat} (hk : k ≤ 32) (hnp : np ≤ 16) (h : ∀ cx cy cw : Nat → Int32, ed_H (ed_ctx (np, px, py, pc) ro ra rv rc rP k k) cx cy cw → post (K1, K2, fn, fm, fp, fa, ft, nI (ed_ctx (np, px, py, pc) ro ra rv rc rP k k).1, ro, ra, rv, rc, rP, rS, px, py, pc, lv, lc, ce, vx, le, cx, cy, cw, cd)) :
    ∀ (t j : Nat) (cx cy cw : Nat → Int32), j + t = k → ed_H (ed_ctx (np, px, py, pc) ro ra rv rc rP k j) cx cy cw → wX_gatherContext_6 post (nI k) (t + 1) (nI j) K1 K2 fn fm fp fa ft (nI (ed_ctx (np, px, py, pc) ro ra rv rc rP k j).1) ro ra rv rc rP rS px py pc lv lc ce vx le cx cy cw cd := by
  intro t
  induction t with
  | zero =>
    intro j cx cy cw hj hH
    have e : j = k := by omega
    subst e
    exact br_t (nI_le (Nat.le_refl _) (by omega)) (h cx cy cw hH)
  | succ t ih =>
    intro j cx cy cw hj hH
    have e : (nI j).toNatClampNeg = j := nI_clamp (by omega)
    have hin : vp_in (nI j) 32 := vp_in_nI (by omega) (by omega)
    have hc := ed_c1 (s0 := (np, px, py, pc)) (ro := ro) (ra := ra) (rv := rv) (rc := rc) (rP := rP) (k := k) j
    have hc' : (ed_ctx (np, px, py, pc) ro ra rv rc rP k j).1 ≤ np + 2 * j := hc
    refine br_f (nI_ge (by omega) (by omega)) (gx_enc (by omega) (fun g => ?_) (fun g => ?_))
    · refine br_f (by decide) (And.intro hin ?_)
      rw [e]
      by_cases h1 : ro j = 1
      · have E := ed_cl (s0 := (np, px, py, pc)) (ra := ra) (rv := rv) (rc := rc) g h1
        have z := ih (j + 1) _ _ _ (by omega) (by rw [E]; exact ed_H_push (ed_H_push hH 0 (ra j) 0) (ra j) (rv j) (rc j - 1))
        rw [E] at z
        exact br_t h1 (And.intro hin (gx_add (by omega) _ _ _ (And.intro hin (And.intro hin (And.intro hin (gx_add (by omega) _ _ _ (nm_r (nI_1 j) z)))))))
      · have E := ed_ci (s0 := (np, px, py, pc)) (ra := ra) (rv := rv) (rc := rc) g h1
        have z := ih (j + 1) _ _ _ (by omega) (by rw [E]; exact ed_H_push hH (ra j) (rv j) (rc j))
        rw [E] at z
        exact br_f h1 (And.intro hin (And.intro hin (And.intro hin (gx_add (by omega) _ _ _ (nm_r (nI_1 j) z)))))
    · have E := ed_cn (s0 := (np, px, py, pc)) (ra := ra) (rv := rv) (rc := rc) g
      have z := ih (j + 1) cx cy cw (by omega) (by rw [E]; exact hH)
      rw [E] at z
      exact br_t rfl (nm_r (nI_1 j) z)
theorem gx_ctx {k np : Nat} (hk : k ≤ 32) (hnp : np ≤ 16) (h : ∀ cx cy cw : Nat → Int32, ed_H (ed_ctx (np, px, py, pc) ro ra rv rc rP k k) cx cy cw → post (K1, K2, fn, fm, nI np, fa, ft, nI (ed_ctx (np, px, py, pc) ro ra rv rc rP k k).1, ro, ra, rv, rc, rP, rS, px, py, pc, lv, lc, ce, vx, le, cx, cy, cw, cd)) : wpX_gatherContext post (K1, K2, fn, fm, nI np, fa, ft, fk, ro, ra, rv, rc, rP, rS, px, py, pc, lv, lc, ce, vx, le, cx, cy, cw, cd) (nI k) :=
  gx_pre (fk := fk) hnp (fun cx cy cw hH => Exists.intro _ (gx_ctx_l hk hnp h k 0 cx cy cw (by omega) hH))
end
section
variable {post : SY → Prop} {K1 K2 fn fp fa ft fe : Int32} {ro ra rv rc px py pc lv lc vy ce ex ey ew ds hi : Nat → Int32}
theorem gy_add {k : Nat} (hk : k < 96) (x y w : Int32) (h : post (K1, K2, fn, fp, fa, ft, nI (k + 1), ro, ra, rv, rc, px, py, pc, lv, lc, vy, ce, upd ex k x, upd ey k y, upd ew k w, ds, hi)) : wpY_addEdge post (K1, K2, fn, fp, fa, ft, nI k, ro, ra, rv, rc, px, py, pc, lv, lc, vy, ce, ex, ey, ew, ds, hi) x y w :=
  have e : (nI k).toNatClampNeg = k := nI_clamp (by omega)
  br_f (nI_ge (b := 96) hk (by decide)) (And.intro (vp_in_nI hk (by omega)) (nm_r (by rw [e]) (And.intro (vp_in_nI hk (by omega)) (nm_r (by rw [e]) (And.intro (vp_in_nI hk (by omega)) (nm_r (by rw [e]) (nm_r (nI_1 k) h)))))))
theorem gy_87 {rP : Nat → Int32} {n np k j : Nat} {J : Int32 → Int32 → Int32 → Int32 → Int32 → Int32 → Int32 → Int32 → (Nat → Int32) → (Nat → Int32) → (Nat → Int32) → (Nat → Int32) → (Nat → Int32) → (Nat → Int32) → (Nat → Int32) → (Nat → Int32) → (Nat → Int32) → (Nat → Int32) → (Nat → Int32) → (Nat → Int32) → (Nat → Int32) → (Nat → Int32) → (Nat → Int32) → (Nat → Int32) → Prop}
    (hj : j < 32) (hnp : np ≤ 16) (hH : ed_H (ed_ctx (np, px, py, pc) ro ra rv rc rP k j) ex ey ew) (g : (ro j = 1 ∨ ro j = 2) ∧ (rP j = -1 ∨ nI k < rP j))
    (h : ∀ ex ey ew : Nat → Int32, ed_H (ed_ctx (np, px, py, pc) ro ra rv rc rP k (j + 1)) ex ey ew → J (nI (j + 1)) K1 K2 (nI n) fp fa ft (nI (ed_ctx (np, px, py, pc) ro ra rv rc rP k (j + 1)).1) ro ra rv rc px py pc lv lc vy ce ex ey ew ds hi) :
    wY_base_87 post J (nI k) (nI j) K1 K2 (nI n) fp fa ft (nI (ed_ctx (np, px, py, pc) ro ra rv rc rP k j).1) ro ra rv rc px py pc lv lc vy ce ex ey ew ds hi := by
  have e : (nI j).toNatClampNeg = j := nI_clamp (by omega)
  have hin : vp_in (nI j) 32 := vp_in_nI hj (by omega)
  have hc' : (ed_ctx (np, px, py, pc) ro ra rv rc rP k j).1 ≤ np + 2 * j := ed_c1 j
  refine And.intro hin ?_
  rw [e]
  by_cases h1 : ro j = 1
  · have E := ed_cl (s0 := (np, px, py, pc)) (ra := ra) (rv := rv) (rc := rc) g h1
    have z := h _ _ _ (by rw [E]; exact ed_H_push (ed_H_push hH 0 (ra j) 0) (ra j) (rv j) (rc j - 1))
    rw [E] at z
    exact br_t h1 (And.intro hin (gy_add (by omega) _ _ _ (And.intro hin (And.intro hin (And.intro hin (gy_add (by omega) _ _ _ (nm_r (nI_1 j) z)))))))
  · have E := ed_ci (s0 := (np, px, py, pc)) (ra := ra) (rv := rv) (rc := rc) g h1
    have z := h _ _ _ (by rw [E]; exact ed_H_push hH (ra j) (rv j) (rc j))
    rw [E] at z
    exact br_f h1 (And.intro hin (And.intro hin (And.intro hin (gy_add (by omega) _ _ _ (nm_r (nI_1 j) z)))))
theorem gy_ctx_l {rP : Nat → Int32} {n k np : Nat} (hk : k ≤ n) (hn : n ≤ 32) (hnp : np ≤ 16) (hP : ∀ j, j < n → ns_B (ro j) → ns_res (ns_at ro j n) = rP j)
    (h : ∀ ex ey ew : Nat → Int32, ed_H (ed_ctx (np, px, py, pc) ro ra rv rc rP k k) ex ey ew → post (K1, K2, nI n, fp, fa, ft, nI (ed_ctx (np, px, py, pc) ro ra rv rc rP k k).1, ro, ra, rv, rc, px, py, pc, lv, lc, vy, ce, ex, ey, ew, ds, hi)) :
    ∀ (t j : Nat) (ex ey ew : Nat → Int32), j + t = k → ed_H (ed_ctx (np, px, py, pc) ro ra rv rc rP k j) ex ey ew → wY_base_45 post (nI k) (t + 1) (nI j) K1 K2 (nI n) fp fa ft (nI (ed_ctx (np, px, py, pc) ro ra rv rc rP k j).1) ro ra rv rc px py pc lv lc vy ce ex ey ew ds hi := by
  intro t
  induction t with
  | zero =>
    intro j ex ey ew hj hH
    have e : j = k := by omega
    subst e
    exact br_t (nI_le (Nat.le_refl _) (by omega)) (h ex ey ew hH)
  | succ t ih =>
    intro j ex ey ew hj hH
    have skip : ¬ ((ro j = 1 ∨ ro j = 2) ∧ (rP j = -1 ∨ nI k < rP j)) → wY_base_45 post (nI k) (t + 1) (nI (j + 1)) K1 K2 (nI n) fp fa ft (nI (ed_ctx (np, px, py, pc) ro ra rv rc rP k j).1) ro ra rv rc px py pc lv lc vy ce ex ey ew ds hi := by
      intro g
      have E := ed_cn (s0 := (np, px, py, pc)) (ra := ra) (rv := rv) (rc := rc) g
      have z := ih (j + 1) ex ey ew (by omega) (by rw [E]; exact hH)
      rw [E] at z
      exact z
    refine br_f (nI_ge (by omega) (by omega)) (br_f (nI_ge (by omega) (by omega)) (sy_ib (by omega) (fun hB => ?_) (fun hB => ?_)))
    · refine br_f (by decide) (sy_me hn (by omega) ?_)
      have hPj := hP j (by omega) hB
      rw [hPj]
      cases q : ns_at ro j n with
      | inl d =>
        have r1 : rP j = -1 := by rw [← hPj, q]; rfl
        refine br_t ?_ (gy_87 (by omega) hnp hH ⟨hB, Or.inl r1⟩ (fun ex ey ew z => ih (j + 1) ex ey ew (by omega) z))
        rw [r1]
        decide
      | inr g =>
        have hg := ns_fnd n q
        have r1 : rP j = nI g := by rw [← hPj, q]; rfl
        refine br_f ?_ (br_c (fun w => gy_87 (by omega) hnp hH ⟨hB, Or.inr w⟩ (fun ex ey ew z => ih (j + 1) ex ey ew (by omega) z)) (fun w => nm_r (nI_1 j) (skip (fun z => z.2.elim (fun z2 => ?_) (fun z2 => w z2)))))
        · rw [r1]
          exact nI_pos (by omega)
        · rw [r1] at z2
          have z3 := congrArg Int32.toInt z2
          rw [nI_toInt (by omega), zq_m1] at z3
          omega
    · exact br_t rfl (nm_r (nI_1 j) (skip (fun z => hB z.1)))
theorem gy_pre_l {n k np : Nat} (hnp : np ≤ 16) (h : ∀ ex ey ew : Nat → Int32, ed_H (np, px, py, pc) ex ey ew → ∃ N, wY_base_45 post (nI k) N 0 K1 K2 (nI n) (nI np) fa ft (nI np) ro ra rv rc px py pc lv lc vy ce ex ey ew ds hi) :
    ∀ (t i : Nat) (ex ey ew : Nat → Int32), i + t = np → ed_H (i, px, py, pc) ex ey ew → wY_base_7 post (nI k) (t + 1) (nI i) K1 K2 (nI n) (nI np) fa ft (nI i) ro ra rv rc px py pc lv lc vy ce ex ey ew ds hi := by
  intro t
  induction t with
  | zero =>
    intro i ex ey ew hi hH
    have e : i = np := by omega
    subst e
    exact br_t (nI_le (Nat.le_refl _) (by omega)) (h ex ey ew hH)
  | succ t ih =>
    intro i ex ey ew hi hH
    have e : (nI i).toNatClampNeg = i := nI_clamp (by omega)
    have z := ih (i + 1) _ _ _ (by omega) (ed_Hp hH)
    refine br_f (nI_ge (by omega) (by omega)) (And.intro (vp_in_nI (by omega) (by omega)) (And.intro (vp_in_nI (by omega) (by omega)) (And.intro (vp_in_nI (by omega) (by omega)) ?_)))
    rw [e]
    exact gy_add (by omega) _ _ _ (nm_r (nI_1 i) z)
theorem gy_base {rP : Nat → Int32} {n k np : Nat} (hk : k ≤ n) (hn : n ≤ 32) (hnp : np ≤ 16) (hP : ∀ j, j < n → ns_B (ro j) → ns_res (ns_at ro j n) = rP j)
    (h : ∀ ex ey ew : Nat → Int32, ed_H (ed_ctx (np, px, py, pc) ro ra rv rc rP k k) ex ey ew → post (K1, K2, nI n, nI np, fa, ft, nI (ed_ctx (np, px, py, pc) ro ra rv rc rP k k).1, ro, ra, rv, rc, px, py, pc, lv, lc, vy, ce, ex, ey, ew, ds, hi)) : wpY_base post (K1, K2, nI n, nI np, fa, ft, fe, ro, ra, rv, rc, px, py, pc, lv, lc, vy, ce, ex, ey, ew, ds, hi) (nI k) :=
  Exists.intro _ (gy_pre_l hnp (fun ex ey ew hH => Exists.intro _ (gy_ctx_l hk hn hnp hP h k 0 ex ey ew (by omega) hH)) np 0 ex ey ew (by omega) (fun _ hq => absurd hq (Nat.not_lt_zero _)))
end
