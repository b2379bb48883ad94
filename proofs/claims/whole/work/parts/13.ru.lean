/-! run, whole -/
theorem rn_PMc {np : Nat} {px py pc vx vy : Nat → Int32} (hw : ∀ i, i < np → zS (px i) ∧ zS (py i) ∧ ns_K (pc i)) (h : ∀ i, i < 4 → vx i = vy i) : rn_PM np px py pc vx ↔ rn_PM np px py pc vy := by
  constructor
  · intro g i hi
    rw [← h _ (zS_l (hw i hi).1), ← h _ (zS_l (hw i hi).2.1)]
    exact g i hi
  · intro g i hi
    rw [h _ (zS_l (hw i hi).1), h _ (zS_l (hw i hi).2.1)]
    exact g i hi
theorem rn_LFc {lv lc vx vy : Nat → Int32} (hw : ∀ i, i < 4 → zS (lv i) ∧ ns_K (lc i)) (h : ∀ i, i < 4 → vx i = vy i) : rn_LF lv lc vx ↔ rn_LF lv lc vy := by
  constructor
  · intro g i hi
    rw [← h _ (zS_l (hw i hi).1)]
    exact g i hi
  · intro g i hi
    rw [h _ (zS_l (hw i hi).1)]
    exact g i hi
theorem i_vc_run {k : Nat} {u : SX} {v : SY} (I : i_Rel k u v) (hk : k + 5 ≤ 2562) (v1 : Int32) : wpX_run (fun r u' => wpY_run (fun r' v' => r' = r ∧ i_Rel (k + 5) u' v') v v1) u v1 := by
  obtain ⟨kc, pq, n, m, np, s, fa, ft, fk, fe, ro, ra, rv, rc, rP, rS, px, py, pc, lv, lc, ce, vx, le, cx, cy, cw, cd, vy, ex, ey, ew, ds, hi, rfl, rfl, R⟩ := I
  have b := R.1
  have hn : n ≤ 32 := by omega
  have hw := R.2.2.2.2.1
  have hl := R.2.2.2.2.2.1
  have hv := R.2.2.2.2.2.2
  by_cases h0 : 0 < m
  · refine br_t ?_ (sy_ao hn (fun _ => br_f (by decide) ⟨rfl, zr_mk R⟩) (fun z => absurd ((zr_ao R).mp h0) z))
    rw [← nI_0]
    exact nI_lt h0 (by omega)
  have em : m = 0 := by omega
  subst em
  have hao : ∀ {post : Int32 → SY → Prop}, (∃ M, wY_run_11 post v1 (nI kc) (nI pq) (nI n) (nI np) fa ft fe ro ra rv rc px py pc lv lc vy ce ex ey ew ds hi M 0) → wpY_run post (nI kc, nI pq, nI n, nI np, fa, ft, fe, ro, ra, rv, rc, px, py, pc, lv, lc, vy, ce, ex, ey, ew, ds, hi) v1 := fun h => sy_ao hn (fun z => absurd ((zr_ao R).mpr z) h0) (fun _ => br_t rfl h)
  obtain ⟨f, hf, HF⟩ := zi_cl v1 (lo := 0) (hi := 10000) (l := 0) (h := 10000) rfl rfl (by omega) (by omega)
  refine br_f (by decide) (rx_pm (by omega) hw (fun pm => br_f (by decide) (rx_lf hl (fun lf => br_f (by decide) ?_) (fun nlf => br_t rfl ?_))) (fun npm => br_t rfl ?_))
  · have Iz : rn_I ro ra 0 vx (rn_z vy 8) le hi := ⟨fun i hi4 => by
      rw [hv i hi4]
      exact (if_neg (by omega)).symm, fun j d hj => absurd hj (Nat.not_lt_zero _)⟩
    obtain ⟨r, fa', ft', ce', vx', le', vy', hi', H4, HX, HY⟩ := rn_l (K1 := nI kc) (K2 := nI pq) (fm := nI 0) (fp := nI np) (fk := fk) (fe := fe) (cx := cx) (cy := cy) (cw := cw) (cd := cd) (ex := ex) (ey := ey) (ew := ew) (ds := ds) (ya := fa) (yt := ft) hf R f 0 0 0 ce vx le (rn_z vy 8) hi (by omega) (by omega) Iz lf
    refine HF (fun z => ∃ n47 : Nat, wX_run_47 _ z n47 0 0 _ _ _ _ _ _ _ _ _ _ _ _ _ _ _ _ _ _ _ _ _ _ _ _ _ _) (Exists.intro (f + 1) (HX (f + 1) _ (by omega) ?_))
    refine hao (Exists.intro _ (ry_pm_l (by omega) hw (fun _ => Exists.intro _ (ry_lf_l hl (fun _ => ?_) (fun z => absurd ((rn_LFc hl hv).mp lf) z) 4 0 (by omega) (fun _ h => absurd h (Nat.not_lt_zero _)))) (fun z => absurd ((rn_PMc hw hv).mp pm) z) np 0 (by omega) (fun _ h => absurd h (Nat.not_lt_zero _))))
    refine HF (fun z => wY_run_125 _ z (nI kc) (nI pq) (nI n) (nI np) fa ft fe ro ra rv rc px py pc lv lc vy ce ex ey ew ds hi) (ry_z (Exists.intro (f + 1) (HY (f + 1) _ (by omega) ⟨rfl, zr_mk (m := 0) (s := s) ?_⟩)))
    exact ⟨R.1, R.2.1, R.2.2.1, R.2.2.2.1, R.2.2.2.2.1, R.2.2.2.2.2.1, H4⟩
  · exact hao (Exists.intro _ (ry_pm_l (by omega) hw (fun _ => Exists.intro _ (ry_lf_l hl (fun z => absurd ((rn_LFc hl hv).mpr z) nlf) (fun _ => ⟨rfl, zr_mk R⟩) 4 0 (by omega) (fun _ h => absurd h (Nat.not_lt_zero _)))) (fun _ => ⟨rfl, zr_mk R⟩) np 0 (by omega) (fun _ h => absurd h (Nat.not_lt_zero _))))
  · exact hao (Exists.intro _ (ry_pm_l (by omega) hw (fun z => absurd ((rn_PMc hw hv).mpr z) npm) (fun _ => ⟨rfl, zr_mk R⟩) np 0 (by omega) (fun _ h => absurd h (Nat.not_lt_zero _))))
