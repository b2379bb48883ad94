/-! run: the reference's steps -/
def rn_z (v : Nat → Int32) (i q : Nat) : Int32 := if 4 ≤ q ∧ q < i then 0 else v q
section
variable {post : Int32 → SY → Prop} {f t p e j n N : Nat} {ac : Int32} {K1 K2 fn fp fa ft fe : Int32} {ro ra rv rc px py pc lv lc vy ce ex ey ew ds hi : Nat → Int32}
theorem ry_o {op : Int32} (hf : f ≤ 10000) (ht : t < f) (hp : p < n) (hn : n ≤ 32) (h : ro p = op) : ¬ (10002 : Int32) ≤ nI t ∧ nI p < nI n ∧ nI t < nI f ∧ (nI p).toNatClampNeg = p ∧ vp_in (nI p) 32 :=
  ⟨nI_ge (b := 10002) (by omega) (by decide), nI_lt hp (by omega), nI_lt ht (by omega), nI_clamp (by omega), vp_in_nI (by omega) (by omega)⟩
theorem ry_set (hf : f ≤ 10000) (ht : t < f) (hp : p < n) (hn : n ≤ 32) (h : ro p = 4) (hq : wY_run_167 post (nI f) 2 (-1) K1 K2 (nI n) fp fa ft fe N (rc p) (nI (p + 1)) (nI (t + 1)) (nI (t + 1)) ro ra rv rc px py pc lv lc vy ce ex ey ew ds hi) :
    wY_run_167 post (nI f) 2 (-1) K1 K2 (nI n) fp fa ft fe (N + 1) ac (nI p) (nI t) (nI t) ro ra rv rc px py pc lv lc vy ce ex ey ew ds hi := by
  obtain ⟨o1, o2, o3, ep, hin⟩ := ry_o hf ht hp hn h
  refine br_f o1 (br_t o2 (br_t o3 (nm_r (nI_1 t) (And.intro hin (nm_r (e' := 4) (by rw [ep]; exact h) (And.intro hin (nm_r (e' := ra p) (by rw [ep]) (And.intro hin (nm_r (e' := rv p) (by rw [ep]) (And.intro hin (nm_r (e' := rc p) (by rw [ep]) ?_)))))))))))
  exact br_f (by decide) (br_f (by decide) (br_f (by decide) (br_t rfl (nm_r (nI_1 p) (nm_r (nI_1 t) hq)))))
theorem ry_ift (hf : f ≤ 10000) (ht : t < f) (hp : p < n) (hn : n ≤ 32) (h : ro p = 2) (ha : ed_V (ra p)) (hv : ed_V (rv p)) (hc : ¬ rc p < vy (ra p).toNatClampNeg - vy (rv p).toNatClampNeg)
    (hq : wY_run_167 post (nI f) 2 (-1) K1 K2 (nI n) fp fa ft fe N ac (nI (p + 1)) (nI (t + 1)) (nI (t + 1)) ro ra rv rc px py pc lv lc vy ce ex ey ew ds hi) :
    wY_run_167 post (nI f) 2 (-1) K1 K2 (nI n) fp fa ft fe (N + 1) ac (nI p) (nI t) (nI t) ro ra rv rc px py pc lv lc vy ce ex ey ew ds hi := by
  obtain ⟨o1, o2, o3, ep, hin⟩ := ry_o hf ht hp hn h
  refine br_f o1 (br_t o2 (br_t o3 (nm_r (nI_1 t) (And.intro hin (nm_r (e' := 2) (by rw [ep]; exact h) (And.intro hin (nm_r (e' := ra p) (by rw [ep]) (And.intro hin (nm_r (e' := rv p) (by rw [ep]) (And.intro hin (nm_r (e' := rc p) (by rw [ep]) ?_)))))))))))
  exact br_f (by decide) (br_f (by decide) (br_t rfl (And.intro (ed_V8 ha) (And.intro (ed_V8 hv) (br_f hc (nm_r (nI_1 p) (nm_r (nI_1 t) hq)))))))
theorem ry_iff (hf : f ≤ 10000) (ht : t < f) (hp : p < n) (hn : n ≤ 32) (h : ro p = 2) (ha : ed_V (ra p)) (hv : ed_V (rv p)) (hc : rc p < vy (ra p).toNatClampNeg - vy (rv p).toNatClampNeg) (hE : ns_at ro p n = .inr e)
    (hq : wY_run_167 post (nI f) 2 (-1) K1 K2 (nI n) fp fa ft fe N ac (nI (e + 1)) (nI (t + 1)) (nI (t + 1)) ro ra rv rc px py pc lv lc vy ce ex ey ew ds hi) :
    wY_run_167 post (nI f) 2 (-1) K1 K2 (nI n) fp fa ft fe (N + 1) ac (nI p) (nI t) (nI t) ro ra rv rc px py pc lv lc vy ce ex ey ew ds hi := by
  obtain ⟨o1, o2, o3, ep, hin⟩ := ry_o hf ht hp hn h
  refine br_f o1 (br_t o2 (br_t o3 (nm_r (nI_1 t) (And.intro hin (nm_r (e' := 2) (by rw [ep]; exact h) (And.intro hin (nm_r (e' := ra p) (by rw [ep]) (And.intro hin (nm_r (e' := rv p) (by rw [ep]) (And.intro hin (nm_r (e' := rc p) (by rw [ep]) ?_)))))))))))
  refine br_f (by decide) (br_f (by decide) (br_t rfl (And.intro (ed_V8 ha) (And.intro (ed_V8 hv) (br_t hc (sy_me hn hp ?_))))))
  rw [hE]
  exact nm_r (nI_1 e) (nm_r (nI_1 t) hq)
theorem ry_lpt (hf : f ≤ 10000) (ht : t < f) (hp : p < n) (hn : n ≤ 32) (h : ro p = 1) (ha : ed_V (ra p)) (hv : ed_V (rv p)) (hc : 0 < vy (rv p).toNatClampNeg + rc p)
    (hq : wY_run_167 post (nI f) 2 (-1) K1 K2 (nI n) fp fa ft fe N ac (nI (p + 1)) (nI (t + 1)) (nI (t + 1)) ro ra rv rc px py pc lv lc (upd vy (ra p).toNatClampNeg 0) ce ex ey ew ds (upd hi p (vy (rv p).toNatClampNeg + rc p))) :
    wY_run_167 post (nI f) 2 (-1) K1 K2 (nI n) fp fa ft fe (N + 1) ac (nI p) (nI t) (nI t) ro ra rv rc px py pc lv lc vy ce ex ey ew ds hi := by
  obtain ⟨o1, o2, o3, ep, hin⟩ := ry_o hf ht hp hn h
  refine br_f o1 (br_t o2 (br_t o3 (nm_r (nI_1 t) (And.intro hin (nm_r (e' := 1) (by rw [ep]; exact h) (And.intro hin (nm_r (e' := ra p) (by rw [ep]) (And.intro hin (nm_r (e' := rv p) (by rw [ep]) (And.intro hin (nm_r (e' := rc p) (by rw [ep]) ?_)))))))))))
  exact br_t rfl (And.intro (ed_V8 hv) (nm_e (And.intro hin (nm_r (by rw [ep]) (br_t hc (And.intro (ed_V8 ha) (nm_e (nm_r (nI_1 p) (nm_r (nI_1 t) hq)))))))))
theorem ry_lpf (hf : f ≤ 10000) (ht : t < f) (hp : p < n) (hn : n ≤ 32) (h : ro p = 1) (hv : ed_V (rv p)) (hc : ¬ 0 < vy (rv p).toNatClampNeg + rc p) (hE : ns_at ro p n = .inr e)
    (hq : wY_run_167 post (nI f) 2 (-1) K1 K2 (nI n) fp fa ft fe N ac (nI (e + 1)) (nI (t + 1)) (nI (t + 1)) ro ra rv rc px py pc lv lc vy ce ex ey ew ds (upd hi p (vy (rv p).toNatClampNeg + rc p))) :
    wY_run_167 post (nI f) 2 (-1) K1 K2 (nI n) fp fa ft fe (N + 1) ac (nI p) (nI t) (nI t) ro ra rv rc px py pc lv lc vy ce ex ey ew ds hi := by
  obtain ⟨o1, o2, o3, ep, hin⟩ := ry_o hf ht hp hn h
  refine br_f o1 (br_t o2 (br_t o3 (nm_r (nI_1 t) (And.intro hin (nm_r (e' := 1) (by rw [ep]; exact h) (And.intro hin (nm_r (e' := ra p) (by rw [ep]) (And.intro hin (nm_r (e' := rv p) (by rw [ep]) (And.intro hin (nm_r (e' := rc p) (by rw [ep]) ?_)))))))))))
  refine br_t rfl (And.intro (ed_V8 hv) (nm_e (And.intro hin (nm_r (e' := upd hi p (vy (rv p).toNatClampNeg + rc p)) (by rw [ep]) (br_f hc (sy_me hn hp ?_))))))
  rw [hE]
  exact nm_r (nI_1 e) (nm_r (nI_1 t) hq)
theorem ry_eif (hf : f ≤ 10000) (ht : t < f) (hp : p < n) (hn : n ≤ 32) (h : ro p = 3) (hj : j < p) (hB : ns_B (ro j)) (hE : ns_at ro j n = .inr p) (hu : ∀ i, i < n → ns_B (ro i) → ns_at ro i n = .inr p → i = j) (h2 : ro j = 2)
    (hq : wY_run_167 post (nI f) 2 (-1) K1 K2 (nI n) fp fa ft fe N ac (nI (p + 1)) (nI (t + 1)) (nI (t + 1)) ro ra rv rc px py pc lv lc vy ce ex ey ew ds hi) :
    wY_run_167 post (nI f) 2 (-1) K1 K2 (nI n) fp fa ft fe (N + 1) ac (nI p) (nI t) (nI t) ro ra rv rc px py pc lv lc vy ce ex ey ew ds hi := by
  obtain ⟨o1, o2, o3, ep, hin⟩ := ry_o hf ht hp hn h
  have ej : (nI j).toNatClampNeg = j := nI_clamp (by omega)
  refine br_f o1 (br_t o2 (br_t o3 (nm_r (nI_1 t) (And.intro hin (nm_r (e' := 3) (by rw [ep]; exact h) (And.intro hin (nm_r (e' := ra p) (by rw [ep]) (And.intro hin (nm_r (e' := rv p) (by rw [ep]) (And.intro hin (nm_r (e' := rc p) (by rw [ep]) ?_)))))))))))
  refine br_f (by decide) (br_t rfl (sy_mo hn hj hp hB hE hu (br_f (nI_pos (by omega)) (And.intro (vp_in_nI (by omega) (by omega)) ?_))))
  rw [ej]
  exact br_f (by rw [h2]; decide) (nm_r (nI_1 p) (nm_r (nI_1 t) hq))
theorem ry_elp (hf : f ≤ 10000) (ht : t < f) (hp : p < n) (hn : n ≤ 32) (h : ro p = 3) (hj : j < p) (hE : ns_at ro j n = .inr p) (hu : ∀ i, i < n → ns_B (ro i) → ns_at ro i n = .inr p → i = j) (h2 : ro j = 1) (ha : ed_V (ra j))
    (hx : hi j ≤ vy (ra j).toNatClampNeg + 1 → wY_run_167 post (nI f) 2 (-1) K1 K2 (nI n) fp fa ft fe N ac (nI (p + 1)) (nI (t + 1)) (nI (t + 1)) ro ra rv rc px py pc lv lc (upd vy (ra j).toNatClampNeg (vy (ra j).toNatClampNeg + 1)) ce ex ey ew ds hi)
    (hb : ¬ hi j ≤ vy (ra j).toNatClampNeg + 1 → wY_run_167 post (nI f) 2 (-1) K1 K2 (nI n) fp fa ft fe N ac (nI (j + 1)) (nI (t + 1)) (nI (t + 1)) ro ra rv rc px py pc lv lc (upd vy (ra j).toNatClampNeg (vy (ra j).toNatClampNeg + 1)) ce ex ey ew ds hi) :
    wY_run_167 post (nI f) 2 (-1) K1 K2 (nI n) fp fa ft fe (N + 1) ac (nI p) (nI t) (nI t) ro ra rv rc px py pc lv lc vy ce ex ey ew ds hi := by
  obtain ⟨o1, o2, o3, ep, hin⟩ := ry_o hf ht hp hn h
  have ej : (nI j).toNatClampNeg = j := nI_clamp (by omega)
  have hin2 : vp_in (nI j) 32 := vp_in_nI (by omega) (by omega)
  refine br_f o1 (br_t o2 (br_t o3 (nm_r (nI_1 t) (And.intro hin (nm_r (e' := 3) (by rw [ep]; exact h) (And.intro hin (nm_r (e' := ra p) (by rw [ep]) (And.intro hin (nm_r (e' := rv p) (by rw [ep]) (And.intro hin (nm_r (e' := rc p) (by rw [ep]) ?_)))))))))))
  refine br_f (by decide) (br_t rfl (sy_mo hn hj hp (Or.inl h2) hE hu (br_f (nI_pos (by omega)) (And.intro hin2 ?_))))
  rw [ej]
  refine br_t h2 (And.intro hin2 (nm_e (And.intro (ed_V8 ha) (And.intro (ed_V8 ha) (nm_e (And.intro (ed_V8 ha) (And.intro hin2 ?_)))))))
  rw [ns_us]
  exact br_c (fun z => nm_r (nI_1 p) (nm_r (nI_1 t) (hx z))) (fun z => nm_r (nI_1 j) (nm_r (nI_1 t) (hb z)))
theorem ry_atr (hf : f ≤ 10000) (ht : t < f) (hp : p < n) (hn : n ≤ 32) (h : ro p = 5 ∨ ro p = 6 ∨ ro p = 7) (ha : zS (ra p)) (hv : ed_V (rv p)) (hl : zS (lv (ra p).toNatClampNeg))
    (hc : vy (rv p).toNatClampNeg + rc p < 0 ∨ ¬ vy (rv p).toNatClampNeg + rc p < vy (lv (ra p).toNatClampNeg).toNatClampNeg + lc (ra p).toNatClampNeg)
    (hq : post 1 (K1, K2, nI n, fp, ac, nI p, fe, ro, ra, rv, rc, px, py, pc, lv, lc, vy, ce, ex, ey, ew, ds, hi)) :
    wY_run_167 post (nI f) 2 (-1) K1 K2 (nI n) fp fa ft fe (N + 1) ac (nI p) (nI t) (nI t) ro ra rv rc px py pc lv lc vy ce ex ey ew ds hi := by
  obtain ⟨o1, o2, o3, ep, hin⟩ := ry_o (ro := ro) (op := ro p) hf ht hp hn rfl
  obtain ⟨_, _, _, a1, a2, a3, a4⟩ := em_567 h
  refine br_f o1 (br_t o2 (br_t o3 (nm_r (nI_1 t) (And.intro hin (nm_r (e' := ro p) (by rw [ep]) (And.intro hin (nm_r (e' := ra p) (by rw [ep]) (And.intro hin (nm_r (e' := rv p) (by rw [ep]) (And.intro hin (nm_r (e' := rc p) (by rw [ep]) ?_)))))))))))
  refine br_f a1 (br_f a3 (br_f a2 (br_f a4 (And.intro (ed_V8 hv) (nm_e (And.intro (zS_4 ha) (And.intro (ed_V8 (zS_V hl)) (And.intro (zS_4 ha) (nm_e ?_)))))))))
  by_cases z : vy (rv p).toNatClampNeg + rc p < 0
  · exact br_t z hq
  · exact br_f z (br_f (hc.elim (fun w => absurd w z) id) hq)
theorem ry_aok {c : Nat} (hf : f ≤ 10000) (ht : t < f) (hp : p < n) (hn : n ≤ 32) (h : ro p = 5 ∨ ro p = 6 ∨ ro p = 7) (ha : zS (ra p)) (hv : ed_V (rv p)) (hl : zS (lv (ra p).toNatClampNeg))
    (h0 : ¬ vy (rv p).toNatClampNeg + rc p < 0) (h1 : vy (rv p).toNatClampNeg + rc p < vy (lv (ra p).toNatClampNeg).toNatClampNeg + lc (ra p).toNatClampNeg)
    (hc : c < 64) (he : ra p * 16 + (vy (rv p).toNatClampNeg + rc p) = nI c)
    (h5 : ro p = 5 → wY_run_167 post (nI f) 2 (-1) K1 K2 (nI n) fp fa ft fe N (ce c) (nI (p + 1)) (nI (t + 1)) (nI (t + 1)) ro ra rv rc px py pc lv lc vy ce ex ey ew ds hi)
    (h6 : ro p = 6 → wY_run_167 post (nI f) 2 (-1) K1 K2 (nI n) fp fa ft fe N (ac + ce c) (nI (p + 1)) (nI (t + 1)) (nI (t + 1)) ro ra rv rc px py pc lv lc vy ce ex ey ew ds hi)
    (h7 : ro p = 7 → wY_run_167 post (nI f) 2 (-1) K1 K2 (nI n) fp fa ft fe N ac (nI (p + 1)) (nI (t + 1)) (nI (t + 1)) ro ra rv rc px py pc lv lc vy (upd ce c ac) ex ey ew ds hi) :
    wY_run_167 post (nI f) 2 (-1) K1 K2 (nI n) fp fa ft fe (N + 1) ac (nI p) (nI t) (nI t) ro ra rv rc px py pc lv lc vy ce ex ey ew ds hi := by
  obtain ⟨o1, o2, o3, ep, hin⟩ := ry_o (ro := ro) (op := ro p) hf ht hp hn rfl
  obtain ⟨_, _, _, a1, a2, a3, a4⟩ := em_567 h
  have ec : (nI c).toNatClampNeg = c := nI_clamp (by omega)
  have hic : vp_in (nI c) 64 := vp_in_nI hc (by omega)
  refine br_f o1 (br_t o2 (br_t o3 (nm_r (nI_1 t) (And.intro hin (nm_r (e' := ro p) (by rw [ep]) (And.intro hin (nm_r (e' := ra p) (by rw [ep]) (And.intro hin (nm_r (e' := rv p) (by rw [ep]) (And.intro hin (nm_r (e' := rc p) (by rw [ep]) ?_)))))))))))
  refine br_f a1 (br_f a3 (br_f a2 (br_f a4 (And.intro (ed_V8 hv) (nm_e (And.intro (zS_4 ha) (And.intro (ed_V8 (zS_V hl)) (And.intro (zS_4 ha) (nm_e (br_f h0 (br_t h1 ?_)))))))))))
  rw [he, ec]
  rcases h with z | z | z
  · exact br_t z (And.intro hic (nm_e (nm_r (nI_1 p) (nm_r (nI_1 t) (h5 z)))))
  · exact br_f (by rw [z]; decide) (br_t z (And.intro hic (nm_e (nm_r (nI_1 p) (nm_r (nI_1 t) (h6 z))))))
  · exact br_f (by rw [z]; decide) (br_f (by rw [z]; decide) (And.intro hic (nm_e (nm_r (nI_1 p) (nm_r (nI_1 t) (h7 z))))))
/-! the tests ahead of a run -/
theorem ry_pm_l {np : Nat} {x : Int32} (hnp : np ≤ 16) (hw : ∀ i, i < np → zS (px i) ∧ zS (py i) ∧ ns_K (pc i)) (h1 : rn_PM np px py pc vy → ∃ M, wY_run_61 post x K1 K2 fn (nI np) fa ft fe ro ra rv rc px py pc lv lc vy ce ex ey ew ds hi M 0) (h0 : ¬ rn_PM np px py pc vy → post 3 (K1, K2, fn, nI np, fa, ft, fe, ro, ra, rv, rc, px, py, pc, lv, lc, vy, ce, ex, ey, ew, ds, hi)) :
    ∀ t i : Nat, i + t = np → rn_PM i px py pc vy → wY_run_11 post x K1 K2 fn (nI np) fa ft fe ro ra rv rc px py pc lv lc vy ce ex ey ew ds hi (t + 1) (nI i) := by
  intro t
  induction t with
  | zero =>
    intro i hi2 hp
    have e : i = np := by omega
    subst e
    exact br_t (nI_le (Nat.le_refl _) (by omega)) (h1 hp)
  | succ t ih =>
    intro i hi2 hp
    have e : (nI i).toNatClampNeg = i := nI_clamp (by omega)
    have hin : vp_in (nI i) 16 := vp_in_nI (by omega) (by omega)
    obtain ⟨w1, w2, _⟩ := hw i (by omega)
    refine br_f (nI_ge (by omega) (by omega)) (And.intro hin ?_)
    rw [e]
    refine And.intro (ed_V8 (zS_V w1)) (And.intro hin (And.intro (ed_V8 (zS_V w2)) (And.intro hin (br_c (fun z => nm_r (nI_1 i) (ih (i + 1) (by omega) ?_)) (fun z => h0 (fun q => z (q i (by omega))))))))
    intro q hq
    by_cases w : q = i
    · rw [w]; exact z
    · exact hp q (by omega)
theorem ry_lf_l {x : Int32} (hw : ∀ i, i < 4 → zS (lv i) ∧ ns_K (lc i)) (h1 : rn_LF lv lc vy → ((0 ≤ x → (((x ≤ 10000 → (wY_run_125 post x K1 K2 fn fp fa ft fe ro ra rv rc px py pc lv lc vy ce ex ey ew ds hi)) ∧ (¬ x ≤ 10000 → (wY_run_125 post 10000 K1 K2 fn fp fa ft fe ro ra rv rc px py pc lv lc vy ce ex ey ew ds hi))))) ∧ (¬ 0 ≤ x → (wY_run_125 post 0 K1 K2 fn fp fa ft fe ro ra rv rc px py pc lv lc vy ce ex ey ew ds hi)))) (h0 : ¬ rn_LF lv lc vy → post 3 (K1, K2, fn, fp, fa, ft, fe, ro, ra, rv, rc, px, py, pc, lv, lc, vy, ce, ex, ey, ew, ds, hi)) :
    ∀ t i : Nat, i + t = 4 → (∀ q, q < i → ¬ vy (lv q).toNatClampNeg + lc q < 0 ∧ vy (lv q).toNatClampNeg + lc q ≤ 16) → wY_run_61 post x K1 K2 fn fp fa ft fe ro ra rv rc px py pc lv lc vy ce ex ey ew ds hi (t + 1) (nI i) := by
  intro t
  induction t with
  | zero =>
    intro i hi2 hp
    have e : i = 4 := by omega
    subst e
    exact br_t (nI_le (a := 4) (b := 4) (by omega) (by omega)) (h1 hp)
  | succ t ih =>
    intro i hi2 hp
    have e : (nI i).toNatClampNeg = i := nI_clamp (by omega)
    have hin : vp_in (nI i) 4 := vp_in_nI (by omega) (by omega)
    obtain ⟨w1, _⟩ := hw i (by omega)
    refine br_f (nI_ge (b := 4) (by omega) (by decide)) (And.intro hin ?_)
    rw [e]
    refine And.intro (ed_V8 (zS_V w1)) (And.intro hin (nm_e (br_c (fun z => h0 (fun q => (q i (by omega)).1 z)) (fun z => br_c (fun z2 => nm_r (nI_1 i) (ih (i + 1) (by omega) ?_)) (fun z2 => h0 (fun q => z2 (q i (by omega)).2))))))
    intro q hq
    by_cases w : q = i
    · rw [w]; exact ⟨z, z2⟩
    · exact hp q (by omega)
/-- the loop variables are set to zero -/
theorem rn_z4 (v : Nat → Int32) : rn_z v 4 = v := by
  funext q
  exact if_neg (by omega)
theorem rn_zs (v : Nat → Int32) {i : Nat} (h : 4 ≤ i) : upd (rn_z v i) i 0 = rn_z v (i + 1) := by
  funext q
  by_cases z : q = i
  · rw [z, ns_us]
    exact (if_pos ⟨h, by omega⟩).symm
  · rw [ns_uo z]
    unfold rn_z
    by_cases w : 4 ≤ q ∧ q < i
    · rw [if_pos w, if_pos ⟨w.1, by omega⟩]
    · rw [if_neg w, if_neg (by omega)]
theorem ry_z_l {x : Int32} (h : ∃ M, wY_run_167 post x 2 (-1) K1 K2 fn fp fa ft fe M 0 0 0 0 ro ra rv rc px py pc lv lc (rn_z vy 8) ce ex ey ew ds hi) :
    ∀ t i : Nat, i + t = 8 → 4 ≤ i → wY_run_143 post x 0 0 0 2 (-1) K1 K2 fn fp fa ft fe (t + 1) (nI i) ro ra rv rc px py pc lv lc (rn_z vy i) ce ex ey ew ds hi := by
  intro t
  induction t with
  | zero =>
    intro i hi2 h4
    have e : i = 8 := by omega
    subst e
    exact br_t (nI_le (a := 8) (b := 8) (by omega) (by omega)) h
  | succ t ih =>
    intro i hi2 h4
    have e : (nI i).toNatClampNeg = i := nI_clamp (by omega)
    exact br_f (nI_ge (b := 8) (by omega) (by decide)) (And.intro (vp_in_nI (by omega) (by omega)) (nm_r (e' := rn_z vy (i + 1)) (by rw [e]; exact rn_zs vy h4) (nm_r (nI_1 i) (ih (i + 1) (by omega) (by omega)))))
theorem ry_z {x : Int32} (h : ∃ M, wY_run_167 post x 2 (-1) K1 K2 fn fp fa ft fe M 0 0 0 0 ro ra rv rc px py pc lv lc (rn_z vy 8) ce ex ey ew ds hi) : wY_run_125 post x K1 K2 fn fp fa ft fe ro ra rv rc px py pc lv lc vy ce ex ey ew ds hi := by
  have z := ry_z_l h 4 4 (by omega) (by omega)
  rw [rn_z4] at z
  exact Exists.intro _ z
end
