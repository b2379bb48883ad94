/-! run: the component's steps -/
theorem ed_V8 {x : Int32} (h : ed_V x) : vp_in x 8 := by
  obtain ⟨i, hi, rfl⟩ := h
  exact vp_in_nI hi (by omega)
theorem zS_4 {x : Int32} (h : zS x) : vp_in x 4 := by
  obtain ⟨i, hi, e, _⟩ := zq_n (k := 3) h.1 h.2
  rw [e]
  exact vp_in_nI (by omega) (by omega)
theorem zS_l {x : Int32} (h : zS x) : x.toNatClampNeg < 4 := by
  obtain ⟨i, hi, e, _⟩ := zq_n (k := 3) h.1 h.2
  rw [e, nI_clamp (by omega)]
  omega
theorem rn_m1 {k : Nat} (h : k < 2 ^ 31) : ¬ nI k = -1 := by
  intro z
  have z2 := congrArg Int32.toInt z
  rw [nI_toInt h, zq_m1] at z2
  omega
section
variable {post : Int32 → SX → Prop} {p e j : Nat} {K1 K2 fn fm fp fa ft fk : Int32} {ro ra rv rc rP rS px py pc lv lc ce vx le cx cy cw cd : Nat → Int32}
theorem rx_set (hp : p < 32) (h : ro p = 4) (hq : post (nI (p + 1)) (K1, K2, fn, fm, fp, rc p, ft, fk, ro, ra, rv, rc, rP, rS, px, py, pc, lv, lc, ce, vx, le, cx, cy, cw, cd)) : wpX_execute post (K1, K2, fn, fm, fp, fa, ft, fk, ro, ra, rv, rc, rP, rS, px, py, pc, lv, lc, ce, vx, le, cx, cy, cw, cd) (nI p) := by
  have ep : (nI p).toNatClampNeg = p := nI_clamp (by omega)
  have hin : vp_in (nI p) 32 := vp_in_nI hp (by omega)
  refine And.intro hin (nm_r (e' := 4) (by rw [ep]; exact h) ?_)
  refine br_f (by decide) (br_f (by decide) (br_f (by decide) (br_f (by decide) (br_f (by decide) (br_t rfl (And.intro hin (nm_r (e' := rc p) (by rw [ep]) ?_)))))))
  rw [nI_1 p]
  exact hq
theorem rx_ift (hp : p < 32) (h : ro p = 2) (ha : ed_V (ra p)) (hv : ed_V (rv p)) (hc : ¬ rc p < vx (ra p).toNatClampNeg - vx (rv p).toNatClampNeg) (hq : post (nI (p + 1)) (K1, K2, fn, fm, fp, fa, ft, fk, ro, ra, rv, rc, rP, rS, px, py, pc, lv, lc, ce, vx, le, cx, cy, cw, cd)) : wpX_execute post (K1, K2, fn, fm, fp, fa, ft, fk, ro, ra, rv, rc, rP, rS, px, py, pc, lv, lc, ce, vx, le, cx, cy, cw, cd) (nI p) := by
  have ep : (nI p).toNatClampNeg = p := nI_clamp (by omega)
  have hin : vp_in (nI p) 32 := vp_in_nI hp (by omega)
  refine And.intro hin (nm_r (e' := 2) (by rw [ep]; exact h) ?_)
  refine br_f (by decide) (br_f (by decide) (br_f (by decide) (br_t rfl ?_)))
  rw [ep, nI_1 p]
  exact And.intro hin (And.intro (ed_V8 ha) (And.intro hin (And.intro (ed_V8 hv) (And.intro hin (br_f hc hq)))))
theorem rx_iff (hp : p < 32) (h : ro p = 2) (ha : ed_V (ra p)) (hv : ed_V (rv p)) (hc : rc p < vx (ra p).toNatClampNeg - vx (rv p).toNatClampNeg) (hP : rP p = nI e) (hq : post (nI (e + 1)) (K1, K2, fn, fm, fp, fa, ft, fk, ro, ra, rv, rc, rP, rS, px, py, pc, lv, lc, ce, vx, le, cx, cy, cw, cd)) : wpX_execute post (K1, K2, fn, fm, fp, fa, ft, fk, ro, ra, rv, rc, rP, rS, px, py, pc, lv, lc, ce, vx, le, cx, cy, cw, cd) (nI p) := by
  have ep : (nI p).toNatClampNeg = p := nI_clamp (by omega)
  have hin : vp_in (nI p) 32 := vp_in_nI hp (by omega)
  refine And.intro hin (nm_r (e' := 2) (by rw [ep]; exact h) ?_)
  refine br_f (by decide) (br_f (by decide) (br_f (by decide) (br_t rfl ?_)))
  rw [ep, hP, nI_1 e]
  exact And.intro hin (And.intro (ed_V8 ha) (And.intro hin (And.intro (ed_V8 hv) (And.intro hin (br_t hc (And.intro hin hq))))))
theorem rx_lpt (hp : p < 32) (h : ro p = 1) (ha : ed_V (ra p)) (hv : ed_V (rv p)) (hc : 0 < vx (rv p).toNatClampNeg + rc p)
    (hq : post (nI (p + 1)) (K1, K2, fn, fm, fp, fa, ft, fk, ro, ra, rv, rc, rP, rS, px, py, pc, lv, lc, ce, upd vx (ra p).toNatClampNeg 0, upd le (ra p).toNatClampNeg (vx (rv p).toNatClampNeg + rc p), cx, cy, cw, cd)) : wpX_execute post (K1, K2, fn, fm, fp, fa, ft, fk, ro, ra, rv, rc, rP, rS, px, py, pc, lv, lc, ce, vx, le, cx, cy, cw, cd) (nI p) := by
  have ep : (nI p).toNatClampNeg = p := nI_clamp (by omega)
  have hin : vp_in (nI p) 32 := vp_in_nI hp (by omega)
  refine And.intro hin (nm_r (e' := 1) (by rw [ep]; exact h) ?_)
  refine br_f (by decide) (br_f (by decide) (br_t rfl ?_))
  refine And.intro hin ?_
  rw [ep, nI_1 p]
  exact And.intro (ed_V8 hv) (And.intro hin (nm_e (br_t hc (And.intro hin (And.intro (ed_V8 ha) (nm_e (And.intro hin (And.intro (ed_V8 ha) (nm_e hq)))))))))
theorem rx_lpf (hp : p < 32) (h : ro p = 1) (hv : ed_V (rv p)) (hc : ¬ 0 < vx (rv p).toNatClampNeg + rc p) (hP : rP p = nI e) (hq : post (nI (e + 1)) (K1, K2, fn, fm, fp, fa, ft, fk, ro, ra, rv, rc, rP, rS, px, py, pc, lv, lc, ce, vx, le, cx, cy, cw, cd)) : wpX_execute post (K1, K2, fn, fm, fp, fa, ft, fk, ro, ra, rv, rc, rP, rS, px, py, pc, lv, lc, ce, vx, le, cx, cy, cw, cd) (nI p) := by
  have ep : (nI p).toNatClampNeg = p := nI_clamp (by omega)
  have hin : vp_in (nI p) 32 := vp_in_nI hp (by omega)
  refine And.intro hin (nm_r (e' := 1) (by rw [ep]; exact h) ?_)
  refine br_f (by decide) (br_f (by decide) (br_t rfl ?_))
  refine And.intro hin ?_
  rw [ep, hP, nI_1 e]
  exact And.intro (ed_V8 hv) (And.intro hin (nm_e (br_f hc (And.intro hin hq))))
theorem rx_eif (hp : p < 32) (h : ro p = 3) (hP : rP p = nI j) (hj : j < 32) (h2 : ro j = 2) (hq : post (nI (p + 1)) (K1, K2, fn, fm, fp, fa, ft, fk, ro, ra, rv, rc, rP, rS, px, py, pc, lv, lc, ce, vx, le, cx, cy, cw, cd)) : wpX_execute post (K1, K2, fn, fm, fp, fa, ft, fk, ro, ra, rv, rc, rP, rS, px, py, pc, lv, lc, ce, vx, le, cx, cy, cw, cd) (nI p) := by
  have ep : (nI p).toNatClampNeg = p := nI_clamp (by omega)
  have ej : (nI j).toNatClampNeg = j := nI_clamp (by omega)
  have hin : vp_in (nI p) 32 := vp_in_nI hp (by omega)
  refine And.intro hin (nm_r (e' := 3) (by rw [ep]; exact h) ?_)
  refine br_f (by decide) (br_f (by decide) (br_f (by decide) (br_f (by decide) (br_t rfl ?_))))
  refine And.intro hin (nm_r (e' := nI j) (by rw [ep]; exact hP) (And.intro (vp_in_nI hj (by omega)) ?_))
  rw [ej, nI_1 p]
  exact br_t h2 hq
theorem rx_elp (hp : p < 32) (h : ro p = 3) (hP : rP p = nI j) (hj : j < 32) (h2 : ro j = 1) (ha : ed_V (ra j))
    (hx : le (ra j).toNatClampNeg ≤ vx (ra j).toNatClampNeg + 1 → post (nI (p + 1)) (K1, K2, fn, fm, fp, fa, ft, fk, ro, ra, rv, rc, rP, rS, px, py, pc, lv, lc, ce, upd vx (ra j).toNatClampNeg (vx (ra j).toNatClampNeg + 1), le, cx, cy, cw, cd))
    (hb : ¬ le (ra j).toNatClampNeg ≤ vx (ra j).toNatClampNeg + 1 → post (nI (j + 1)) (K1, K2, fn, fm, fp, fa, ft, fk, ro, ra, rv, rc, rP, rS, px, py, pc, lv, lc, ce, upd vx (ra j).toNatClampNeg (vx (ra j).toNatClampNeg + 1), le, cx, cy, cw, cd)) : wpX_execute post (K1, K2, fn, fm, fp, fa, ft, fk, ro, ra, rv, rc, rP, rS, px, py, pc, lv, lc, ce, vx, le, cx, cy, cw, cd) (nI p) := by
  have ep : (nI p).toNatClampNeg = p := nI_clamp (by omega)
  have ej : (nI j).toNatClampNeg = j := nI_clamp (by omega)
  have hin : vp_in (nI p) 32 := vp_in_nI hp (by omega)
  have hin2 : vp_in (nI j) 32 := vp_in_nI hj (by omega)
  refine And.intro hin (nm_r (e' := 3) (by rw [ep]; exact h) ?_)
  refine br_f (by decide) (br_f (by decide) (br_f (by decide) (br_f (by decide) (br_t rfl ?_))))
  refine And.intro hin (nm_r (e' := nI j) (by rw [ep]; exact hP) (And.intro hin2 ?_))
  rw [ej, nI_1 p, nI_1 j]
  refine br_f (by rw [h2]; decide) (And.intro hin2 (nm_e (And.intro (ed_V8 ha) (And.intro (ed_V8 ha) (nm_e (And.intro (ed_V8 ha) (And.intro (ed_V8 ha) ?_)))))))
  rw [ns_us]
  exact br_c hx hb
theorem rx_len {Q : Int32 → Prop} {x : Int32} (hx : zS x) (hl : zS (lv x.toNatClampNeg)) (h : Q (vx (lv x.toNatClampNeg).toNatClampNeg + lc x.toNatClampNeg)) : wpX_lengthOf Q (K1, K2, fn, fm, fp, fa, ft, fk, ro, ra, rv, rc, rP, rS, px, py, pc, lv, lc, ce, vx, le, cx, cy, cw, cd) x :=
  And.intro (zS_4 hx) (And.intro (ed_V8 (zS_V hl)) (And.intro (zS_4 hx) h))
theorem rx_atr (hp : p < 32) (h : ro p = 5 ∨ ro p = 6 ∨ ro p = 7) (ha : zS (ra p)) (hv : ed_V (rv p)) (hl : zS (lv (ra p).toNatClampNeg))
    (hc : vx (rv p).toNatClampNeg + rc p < 0 ∨ ¬ vx (rv p).toNatClampNeg + rc p < vx (lv (ra p).toNatClampNeg).toNatClampNeg + lc (ra p).toNatClampNeg)
    (hq : post (-1) (K1, K2, fn, fm, fp, fa, ft, fk, ro, ra, rv, rc, rP, rS, px, py, pc, lv, lc, ce, vx, le, cx, cy, cw, cd)) : wpX_execute post (K1, K2, fn, fm, fp, fa, ft, fk, ro, ra, rv, rc, rP, rS, px, py, pc, lv, lc, ce, vx, le, cx, cy, cw, cd) (nI p) := by
  have ep : (nI p).toNatClampNeg = p := nI_clamp (by omega)
  have hin : vp_in (nI p) 32 := vp_in_nI hp (by omega)
  have h4 : ¬ ro p < 1 ∧ 4 < ro p := by rcases h with z | z | z <;> rw [z] <;> decide
  refine And.intro hin (nm_r (e' := ro p) (by rw [ep]) (br_f h4.1 (br_t h4.2 ?_)))
  refine And.intro hin ?_
  rw [ep]
  refine nm_e (And.intro hin (And.intro (ed_V8 hv) (And.intro hin (nm_e ?_))))
  by_cases z : vx (rv p).toNatClampNeg + rc p < 0
  · exact br_t z hq
  · exact br_f z (rx_len ha hl (br_f (hc.elim (fun w => absurd w z) id) hq))
theorem rx_aok {c : Nat} (hp : p < 32) (h : ro p = 5 ∨ ro p = 6 ∨ ro p = 7) (ha : zS (ra p)) (hv : ed_V (rv p)) (hl : zS (lv (ra p).toNatClampNeg))
    (h0 : ¬ vx (rv p).toNatClampNeg + rc p < 0) (h1 : vx (rv p).toNatClampNeg + rc p < vx (lv (ra p).toNatClampNeg).toNatClampNeg + lc (ra p).toNatClampNeg)
    (hc : c < 64) (he : ra p * 16 + (vx (rv p).toNatClampNeg + rc p) = nI c)
    (h5 : ro p = 5 → post (nI (p + 1)) (K1, K2, fn, fm, fp, ce c, ft, fk, ro, ra, rv, rc, rP, rS, px, py, pc, lv, lc, ce, vx, le, cx, cy, cw, cd)) (h6 : ro p = 6 → post (nI (p + 1)) (K1, K2, fn, fm, fp, fa + ce c, ft, fk, ro, ra, rv, rc, rP, rS, px, py, pc, lv, lc, ce, vx, le, cx, cy, cw, cd)) (h7 : ro p = 7 → post (nI (p + 1)) (K1, K2, fn, fm, fp, fa, ft, fk, ro, ra, rv, rc, rP, rS, px, py, pc, lv, lc, upd ce c fa, vx, le, cx, cy, cw, cd)) : wpX_execute post (K1, K2, fn, fm, fp, fa, ft, fk, ro, ra, rv, rc, rP, rS, px, py, pc, lv, lc, ce, vx, le, cx, cy, cw, cd) (nI p) := by
  have ep : (nI p).toNatClampNeg = p := nI_clamp (by omega)
  have ec : (nI c).toNatClampNeg = c := nI_clamp (by omega)
  have hin : vp_in (nI p) 32 := vp_in_nI hp (by omega)
  have hic : vp_in (nI c) 64 := vp_in_nI hc (by omega)
  have h4 : ¬ ro p < 1 ∧ 4 < ro p := by rcases h with z | z | z <;> rw [z] <;> decide
  refine And.intro hin (nm_r (e' := ro p) (by rw [ep]) (br_f h4.1 (br_t h4.2 ?_)))
  refine And.intro hin ?_
  rw [ep, nI_1 p]
  refine nm_e (And.intro hin (And.intro (ed_V8 hv) (And.intro hin (nm_e (br_f h0 (rx_len ha hl (br_t h1 (nm_r he (And.intro hin ?_)))))))))
  rw [ec]
  rcases h with z | z | z
  · exact br_t z (And.intro hic (nm_e (h5 z)))
  · exact br_f (by rw [z]; decide) (And.intro hin (br_t z (And.intro hic (nm_e (h6 z)))))
  · exact br_f (by rw [z]; decide) (And.intro hin (br_f (by rw [z]; decide) (And.intro hic (nm_e (h7 z)))))
end
/-! the tests ahead of a run -/
def rn_PM (np : Nat) (px py pc vx : Nat → Int32) : Prop := ∀ i, i < np → vx (px i).toNatClampNeg - vx (py i).toNatClampNeg ≤ pc i
def rn_LF (lv lc vx : Nat → Int32) : Prop := ∀ i, i < 4 → ¬ vx (lv i).toNatClampNeg + lc i < 0 ∧ vx (lv i).toNatClampNeg + lc i ≤ 16
section
variable {post : Int32 → Prop} {K1 K2 fn fm fp fa ft fk : Int32} {ro ra rv rc rP rS px py pc lv lc ce vx le cx cy cw cd : Nat → Int32}
theorem rx_pm_l {np : Nat} (hnp : np ≤ 16) (hw : ∀ i, i < np → zS (px i) ∧ zS (py i) ∧ ns_K (pc i)) (h1 : rn_PM np px py pc vx → post 1) (h0 : ¬ rn_PM np px py pc vx → post 0) :
    ∀ t i : Nat, i + t = np → rn_PM i px py pc vx → wX_parametersMeetPreconditions_2 post K1 K2 fn fm (nI np) fa ft fk ro ra rv rc rP rS px py pc lv lc ce vx le cx cy cw cd (t + 1) (nI i) := by
  intro t
  induction t with
  | zero =>
    intro i hi hp
    have e : i = np := by omega
    subst e
    exact br_t (nI_le (Nat.le_refl _) (by omega)) (h1 hp)
  | succ t ih =>
    intro i hi hp
    have e : (nI i).toNatClampNeg = i := nI_clamp (by omega)
    have hin : vp_in (nI i) 16 := vp_in_nI (by omega) (by omega)
    obtain ⟨w1, w2, _⟩ := hw i (by omega)
    refine br_f (nI_ge (by omega) (by omega)) (And.intro hin ?_)
    rw [e]
    refine And.intro (ed_V8 (zS_V w1)) (And.intro hin (And.intro (ed_V8 (zS_V w2)) (And.intro hin (br_c (fun z => nm_r (nI_1 i) (ih (i + 1) (by omega) ?_)) (fun z => h0 (fun q => z (q i (by omega))))))))
    intro q hq
    by_cases w : q = i
    · rw [w]; exact z
    · exact hp q (by omega)
theorem rx_pm {np : Nat} (hnp : np ≤ 16) (hw : ∀ i, i < np → zS (px i) ∧ zS (py i) ∧ ns_K (pc i)) (h1 : rn_PM np px py pc vx → post 1) (h0 : ¬ rn_PM np px py pc vx → post 0) : wpX_parametersMeetPreconditions post (K1, K2, fn, fm, nI np, fa, ft, fk, ro, ra, rv, rc, rP, rS, px, py, pc, lv, lc, ce, vx, le, cx, cy, cw, cd) :=
  Exists.intro _ (rx_pm_l hnp hw h1 h0 np 0 (by omega) (fun _ h => absurd h (Nat.not_lt_zero _)))
theorem rx_lf_l (hw : ∀ i, i < 4 → zS (lv i) ∧ ns_K (lc i)) (h1 : rn_LF lv lc vx → post 1) (h0 : ¬ rn_LF lv lc vx → post 0) :
    ∀ t i : Nat, i + t = 4 → (∀ q, q < i → ¬ vx (lv q).toNatClampNeg + lc q < 0 ∧ vx (lv q).toNatClampNeg + lc q ≤ 16) → wX_lengthsFitCells_2 post K1 K2 fn fm fp fa ft fk ro ra rv rc rP rS px py pc lv lc ce vx le cx cy cw cd (t + 1) (nI i) := by
  intro t
  induction t with
  | zero =>
    intro i hi hp
    have e : i = 4 := by omega
    subst e
    exact br_t (nI_le (a := 4) (b := 4) (by omega) (by omega)) (h1 hp)
  | succ t ih =>
    intro i hi hp
    have e : (nI i).toNatClampNeg = i := nI_clamp (by omega)
    obtain ⟨w1, _⟩ := hw i (by omega)
    have hz : zS (nI i) := ⟨by rw [nI_toInt (by omega)]; omega, by rw [nI_toInt (by omega)]; omega⟩
    refine br_f (nI_ge (b := 4) (by omega) (by decide)) (rx_len hz (by rw [e]; exact w1) ?_)
    rw [e]
    refine br_c (fun z => h0 (fun q => (q i (by omega)).1 z)) (fun z => br_c (fun z2 => nm_r (nI_1 i) (ih (i + 1) (by omega) ?_)) (fun z2 => h0 (fun q => z2 (q i (by omega)).2)))
    intro q hq
    by_cases w : q = i
    · rw [w]; exact ⟨z, z2⟩
    · exact hp q (by omega)
theorem rx_lf (hw : ∀ i, i < 4 → zS (lv i) ∧ ns_K (lc i)) (h1 : rn_LF lv lc vx → post 1) (h0 : ¬ rn_LF lv lc vx → post 0) : wpX_lengthsFitCells post (K1, K2, fn, fm, fp, fa, ft, fk, ro, ra, rv, rc, rP, rS, px, py, pc, lv, lc, ce, vx, le, cx, cy, cw, cd) :=
  Exists.intro _ (rx_lf_l hw h1 h0 4 0 (by omega) (fun _ h => absurd h (Nat.not_lt_zero _)))
end
