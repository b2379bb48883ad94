/-! run, both sides in lockstep -/
def rn_I (ro ra : Nat → Int32) (p : Nat) (vx vy le hi : Nat → Int32) : Prop :=
  (∀ i, i < 4 → vx i = vy i) ∧ ∀ j d, j < p → ro j = 1 → ns_at ro j p = .inl d → vx (ra j).toNatClampNeg = vy (ra j).toNatClampNeg ∧ le (ra j).toNatClampNeg = hi j
section
variable {ro ra vx vy le hi : Nat → Int32} {p e b i : Nat}
theorem rn_nx (I : rn_I ro ra p vx vy le hi) (h1 : ¬ ro p = 1) : rn_I ro ra (p + 1) vx vy le hi := by
  refine ⟨I.1, fun j d hj h hd => ?_⟩
  have hne : j ≠ p := by
    intro z
    rw [z] at h
    exact h1 h
  obtain ⟨c, hc⟩ := ns_next hd
  exact I.2 j c (by omega) h hc
theorem rn_sk (I : rn_I ro ra p vx vy le hi) (hp : p < e) (he : ns_at ro p e = .inl 0) (h3 : ro e = 3) : rn_I ro ra (e + 1) vx vy le hi := by
  refine ⟨I.1, fun j d hj h hd => ?_⟩
  obtain ⟨h1, c, hc⟩ := ns_skip hp he h3 hj (Or.inl h) hd
  exact I.2 j c h1 h hc
theorem rn_bk (I : rn_I ro ra e vx vy le hi) (hb : b < e) (hB : ns_B (ro b)) (he : ns_at ro b e = .inl 0) : rn_I ro ra (b + 1) vx vy le hi := by
  refine ⟨I.1, fun j d hj h hd => ?_⟩
  obtain ⟨h1, c, hc⟩ := ns_loop hb hB he hj hd
  exact I.2 j c h1 h hc
theorem rn_hi (I : rn_I ro ra p vx vy le hi) (z : Int32) : rn_I ro ra p vx vy le (upd hi p z) := by
  refine ⟨I.1, fun j d hj h hd => ?_⟩
  rw [ns_uo (show j ≠ p by omega)]
  exact I.2 j d hj h hd
theorem rn_inc (I : rn_I ro ra p vx vy le hi) (h4 : 4 ≤ i) (hv : vx i = vy i) : rn_I ro ra p (upd vx i (vx i + 1)) (upd vy i (vy i + 1)) le hi := by
  refine ⟨fun q hq => ?_, fun j d hj h hd => ?_⟩
  · rw [ns_uo (by omega), ns_uo (by omega)]
    exact I.1 q hq
  · have g := I.2 j d hj h hd
    refine ⟨?_, g.2⟩
    by_cases z : (ra j).toNatClampNeg = i
    · rw [z, ns_us, ns_us, hv]
    · rw [ns_uo z, ns_uo z]
      exact g.1
theorem rn_en (I : rn_I ro ra p vx vy le hi) (h4 : 4 ≤ (ra p).toNatClampNeg) (hd : ∀ j d, j < p → ro j = 1 → ns_at ro j p = .inl d → (ra j).toNatClampNeg ≠ (ra p).toNatClampNeg) {x y : Int32} (hxy : x = y) :
    rn_I ro ra (p + 1) (upd vx (ra p).toNatClampNeg 0) (upd vy (ra p).toNatClampNeg 0) (upd le (ra p).toNatClampNeg x) (upd hi p y) := by
  refine ⟨fun q hq => ?_, fun j d hj h hd2 => ?_⟩
  · rw [ns_uo (by omega), ns_uo (by omega)]
    exact I.1 q hq
  · by_cases z : j = p
    · rw [z, ns_us, ns_us, ns_us, ns_us]
      exact ⟨rfl, hxy⟩
    · obtain ⟨c, hc⟩ := ns_next hd2
      have hne := hd j c (by omega) h hc
      rw [ns_uo hne, ns_uo hne, ns_uo hne, ns_uo z]
      exact I.2 j c (by omega) h hc
end
theorem rn_LFu {lv lc vx : Nat → Int32} {i : Nat} {x : Int32} (hw : ∀ i, i < 4 → zS (lv i) ∧ ns_K (lc i)) (h4 : 4 ≤ i) (h : rn_LF lv lc vx) : rn_LF lv lc (upd vx i x) := by
  intro q hq
  have := zS_l (hw q hq).1
  rw [ns_uo (by omega)]
  exact h q hq
section
variable {kc pq n m np : Nat} {s : Nat → Nat} {vx0 vy0 : Nat → Int32} {ya yt : Int32} {K1 K2 fn fm fp fa ft fk fe : Int32} {ro ra rv rc rP rS px py pc lv lc ce vx le cx cy cw cd vy ex ey ew ds hi : Nat → Int32}
theorem rn_val (R : zR kc pq n m np s ro ra rv rc rP rS px py pc lv lc vx0 vy0) {p : Nat} {x : Int32} (I : rn_I ro ra p vx vy le hi) (h : ns_Bd ro ra p x) : vx x.toNatClampNeg = vy x.toNatClampNeg := by
  rcases h with h | ⟨j, d, hj, h1, h2, h3⟩
  · exact I.1 _ (zS_l h)
  · have := (I.2 j d hj h1 h3).1
    rw [h2] at this
    exact this
theorem rn_4 (R : zR kc pq n m np s ro ra rv rc rP rS px py pc lv lc vx0 vy0) {j : Nat} (hj : j < n) (h : ro j = 1) : ∃ i, 4 ≤ i ∧ i < 8 ∧ ra j = nI i ∧ (ra j).toNatClampNeg = i := by
  have h1 := zr_loop R j hj h
  obtain ⟨i, hi2, e, ei⟩ := zq_n (x := ra j) (k := 7) (by omega) (by omega)
  exact ⟨i, by omega, by omega, e, by rw [e]; exact nI_clamp (by omega)⟩
theorem rn_clo (R : zR kc pq n 0 np s ro ra rv rc rP rS px py pc lv lc vx0 vy0) {p : Nat} (hp : p < n) (hB : ns_B (ro p)) : ∃ e, e < n ∧ p < e ∧ rP p = nI e ∧ ns_at ro p n = .inr e ∧ ns_at ro p e = .inl 0 ∧ ro e = 3 := by
  rcases R.2.2.1.2.1 p hp hB with ⟨i, hi2, _⟩ | ⟨e, h1, h2, _, h4⟩
  · exact absurd hi2 (Nat.not_lt_zero _)
  · have g := ns_fnd n h4
    exact ⟨e, h1, g.1, h2, h4, g.2.2.2, g.2.2.1⟩
theorem rn_l {f : Nat} (hf : f ≤ 10000) (R : zR kc pq n 0 np s ro ra rv rc rP rS px py pc lv lc vx0 vy0) :
    ∀ (d t p : Nat) (fa : Int32) (ce vx le vy hi : Nat → Int32), t + d = f → p ≤ n → rn_I ro ra p vx vy le hi → rn_LF lv lc vx →
    ∃ (r fa' ft' : Int32) (ce' vx' le' vy' hi' : Nat → Int32), (∀ i, i < 4 → vx' i = vy' i) ∧
      (∀ (N : Nat) (post : Int32 → SX → Prop), d < N → post r (K1, K2, nI n, fm, fp, fa', ft', fk, ro, ra, rv, rc, rP, rS, px, py, pc, lv, lc, ce', vx', le', cx, cy, cw, cd) → wX_run_47 post (nI f) N (nI p) (nI t) K1 K2 (nI n) fm fp fa (-1) fk ro ra rv rc rP rS px py pc lv lc ce vx le cx cy cw cd) ∧
      (∀ (N : Nat) (post : Int32 → SY → Prop), d < N → post r (K1, K2, nI n, fp, fa', ft', fe, ro, ra, rv, rc, px, py, pc, lv, lc, vy', ce', ex, ey, ew, ds, hi') → wY_run_167 post (nI f) 2 (-1) K1 K2 (nI n) fp ya yt fe N fa (nI p) (nI t) (nI t) ro ra rv rc px py pc lv lc vy ce ex ey ew ds hi) := by
  have hb := R.1
  have hn : n ≤ 32 := by omega
  intro d
  induction d with
  | zero =>
    intro t p fa ce vx le vy hi ht hpn I LF
    have o1 : ¬ (10002 : Int32) ≤ nI t := nI_ge (b := 10002) (by omega) (by decide)
    by_cases hp : p < n
    · refine ⟨2, fa, -1, ce, vx, le, vy, hi, I.1, fun N post hN hq => ?_, fun N post hN hq => ?_⟩
      · cases N with
        | zero => exact absurd hN (Nat.not_lt_zero _)
        | succ N => exact br_t (nI_le (by omega) (by omega)) (br_f (fun z => by have := (nI_eq (by omega) (by omega)).mp z; omega) hq)
      · cases N with
        | zero => exact absurd hN (Nat.not_lt_zero _)
        | succ N => exact br_f o1 (br_t (nI_lt hp (by omega)) (br_f (nI_nlt (by omega) (by omega)) hq))
    · have e : p = n := by omega
      subst e
      refine ⟨0, fa, -1, ce, vx, le, vy, hi, I.1, fun N post hN hq => ?_, fun N post hN hq => ?_⟩
      · cases N with
        | zero => exact absurd hN (Nat.not_lt_zero _)
        | succ N => exact br_t (nI_le (by omega) (by omega)) (br_t rfl hq)
      · cases N with
        | zero => exact absurd hN (Nat.not_lt_zero _)
        | succ N => exact br_f o1 (br_f (nI_nlt (by omega) (by omega)) hq)
  | succ d ih =>
    intro t p fa ce vx le vy hi ht hpn I LF
    have o1 : ¬ (10002 : Int32) ≤ nI t := nI_ge (b := 10002) (by omega) (by decide)
    have o2 : ¬ nI f ≤ nI t := nI_ge (by omega) (by omega)
    by_cases hp : p < n
    · have o3 : ¬ nI n ≤ nI p := nI_ge (by omega) (by omega)
      have htf : t < f := by omega
      have hp32 : p < 32 := by omega
      rcases R.2.2.2.1 p hp with ⟨h1, ha47, hd, hBv, hK⟩ | ⟨h2, hBa, hBv, hK⟩ | h3 | ⟨h4, hK⟩ | ⟨h5, ha3, hBv, hK⟩
      · -- LOOP
        have hv := zr_bd R hpn hBv
        have ev := rn_val R I hBv
        obtain ⟨i, hi4, hi8, ei, ec⟩ := rn_4 R hp h1
        have ha : ed_V (ra p) := ⟨i, hi8, ei⟩
        by_cases hc : 0 < vx (rv p).toNatClampNeg + rc p
        · obtain ⟨r, fa', ft', ce', vx', le', vy', hi', H4, HX, HY⟩ := ih (t + 1) (p + 1) fa ce (upd vx (ra p).toNatClampNeg 0) (upd le (ra p).toNatClampNeg (vx (rv p).toNatClampNeg + rc p)) (upd vy (ra p).toNatClampNeg 0) (upd hi p (vy (rv p).toNatClampNeg + rc p)) (by omega) (by omega)
            (rn_en I (by omega) (fun j d hj g1 g2 => by
              obtain ⟨q, _, _, eq, eqc⟩ := rn_4 R (show j < n by omega) g1
              have := hd j d hj g1 g2
              intro z
              rw [eqc, ec] at z
              rw [eq, ei, z] at this
              exact this rfl) (by rw [ev])) (rn_LFu R.2.2.2.2.2.1 (by omega) LF)
          refine ⟨r, fa', ft', ce', vx', le', vy', hi', H4, fun N post hN hq => ?_, fun N post hN hq => ?_⟩
          · cases N with
            | zero => exact absurd hN (Nat.not_lt_zero _)
            | succ N => exact br_f o2 (br_f o3 (rx_lpt hp32 h1 ha hv hc (br_f (rn_m1 (by omega)) (nm_r (nI_1 t) (HX N post (by omega) hq)))))
          · cases N with
            | zero => exact absurd hN (Nat.not_lt_zero _)
            | succ N => exact ry_lpt hf htf hp hn h1 ha hv (by rw [← ev]; exact hc) (HY N post (by omega) hq)
        · obtain ⟨e, he1, he2, he3, he4, he5, he6⟩ := rn_clo R hp (Or.inl h1)
          obtain ⟨r, fa', ft', ce', vx', le', vy', hi', H4, HX, HY⟩ := ih (t + 1) (e + 1) fa ce vx le vy (upd hi p (vy (rv p).toNatClampNeg + rc p)) (by omega) (by omega) (rn_sk (rn_hi I _) he2 he5 he6) LF
          refine ⟨r, fa', ft', ce', vx', le', vy', hi', H4, fun N post hN hq => ?_, fun N post hN hq => ?_⟩
          · cases N with
            | zero => exact absurd hN (Nat.not_lt_zero _)
            | succ N => exact br_f o2 (br_f o3 (rx_lpf hp32 h1 hv hc he3 (br_f (rn_m1 (by omega)) (nm_r (nI_1 t) (HX N post (by omega) hq)))))
          · cases N with
            | zero => exact absurd hN (Nat.not_lt_zero _)
            | succ N => exact ry_lpf hf htf hp hn h1 hv (by rw [← ev]; exact hc) he4 (HY N post (by omega) hq)
      · -- IF
        have ha := zr_bd R hpn hBa
        have hv := zr_bd R hpn hBv
        have ea := rn_val R I hBa
        have ev := rn_val R I hBv
        by_cases hc : rc p < vx (ra p).toNatClampNeg - vx (rv p).toNatClampNeg
        · obtain ⟨e, he1, he2, he3, he4, he5, he6⟩ := rn_clo R hp (Or.inr h2)
          obtain ⟨r, fa', ft', ce', vx', le', vy', hi', H4, HX, HY⟩ := ih (t + 1) (e + 1) fa ce vx le vy hi (by omega) (by omega) (rn_sk I he2 he5 he6) LF
          refine ⟨r, fa', ft', ce', vx', le', vy', hi', H4, fun N post hN hq => ?_, fun N post hN hq => ?_⟩
          · cases N with
            | zero => exact absurd hN (Nat.not_lt_zero _)
            | succ N => exact br_f o2 (br_f o3 (rx_iff hp32 h2 ha hv hc he3 (br_f (rn_m1 (by omega)) (nm_r (nI_1 t) (HX N post (by omega) hq)))))
          · cases N with
            | zero => exact absurd hN (Nat.not_lt_zero _)
            | succ N => exact ry_iff hf htf hp hn h2 ha hv (by rw [← ea, ← ev]; exact hc) he4 (HY N post (by omega) hq)
        · obtain ⟨r, fa', ft', ce', vx', le', vy', hi', H4, HX, HY⟩ := ih (t + 1) (p + 1) fa ce vx le vy hi (by omega) (by omega) (rn_nx I (by rw [h2]; decide)) LF
          refine ⟨r, fa', ft', ce', vx', le', vy', hi', H4, fun N post hN hq => ?_, fun N post hN hq => ?_⟩
          · cases N with
            | zero => exact absurd hN (Nat.not_lt_zero _)
            | succ N => exact br_f o2 (br_f o3 (rx_ift hp32 h2 ha hv hc (br_f (rn_m1 (by omega)) (nm_r (nI_1 t) (HX N post (by omega) hq)))))
          · cases N with
            | zero => exact absurd hN (Nat.not_lt_zero _)
            | succ N => exact ry_ift hf htf hp hn h2 ha hv (by rw [← ea, ← ev]; exact hc) (HY N post (by omega) hq)
      · -- END
        obtain ⟨j, hj, hB, hP1, hP2, hE⟩ := R.2.2.1.2.2 p hp h3
        have hfd := ns_fnd n hE
        have hu : ∀ i, i < n → ns_B (ro i) → ns_at ro i n = .inr p → i = j := fun i g1 g2 g3 => ns_uq R.2.2.1 (by omega) g1 g2 g3 (by omega) hB hE
        have hnx : ∀ {vx vy : Nat → Int32}, rn_I ro ra p vx vy le hi → rn_I ro ra (p + 1) vx vy le hi := fun I => rn_nx I (by rw [h3]; decide)
        rcases hB with hj1 | hj2
        · obtain ⟨i, hi4, hi8, ei, ec⟩ := rn_4 R (show j < n by omega) hj1
          have ha : ed_V (ra j) := ⟨i, hi8, ei⟩
          obtain ⟨g1, g2⟩ := I.2 j 0 hj hj1 hfd.2.2.2
          have I2 := rn_inc I (show 4 ≤ (ra j).toNatClampNeg by omega) g1
          have LF2 : rn_LF lv lc (upd vx (ra j).toNatClampNeg (vx (ra j).toNatClampNeg + 1)) := rn_LFu R.2.2.2.2.2.1 (by omega) LF
          by_cases hc : le (ra j).toNatClampNeg ≤ vx (ra j).toNatClampNeg + 1
          · obtain ⟨r, fa', ft', ce', vx', le', vy', hi', H4, HX, HY⟩ := ih (t + 1) (p + 1) fa ce _ le _ hi (by omega) (by omega) (hnx I2) LF2
            refine ⟨r, fa', ft', ce', vx', le', vy', hi', H4, fun N post hN hq => ?_, fun N post hN hq => ?_⟩
            · cases N with
              | zero => exact absurd hN (Nat.not_lt_zero _)
              | succ N => exact br_f o2 (br_f o3 (rx_elp hp32 h3 hP1 (by omega) hj1 ha (fun _ => br_f (rn_m1 (by omega)) (nm_r (nI_1 t) (HX N post (by omega) hq))) (fun z => absurd hc z)))
            · cases N with
              | zero => exact absurd hN (Nat.not_lt_zero _)
              | succ N => exact ry_elp hf htf hp hn h3 hj hE hu hj1 ha (fun _ => HY N post (by omega) hq) (fun z => absurd (by rw [← g1, ← g2]; exact hc) z)
          · obtain ⟨r, fa', ft', ce', vx', le', vy', hi', H4, HX, HY⟩ := ih (t + 1) (j + 1) fa ce _ le _ hi (by omega) (by omega) (rn_bk I2 hj (Or.inl hj1) hfd.2.2.2) LF2
            refine ⟨r, fa', ft', ce', vx', le', vy', hi', H4, fun N post hN hq => ?_, fun N post hN hq => ?_⟩
            · cases N with
              | zero => exact absurd hN (Nat.not_lt_zero _)
              | succ N => exact br_f o2 (br_f o3 (rx_elp hp32 h3 hP1 (by omega) hj1 ha (fun z => absurd z hc) (fun _ => br_f (rn_m1 (by omega)) (nm_r (nI_1 t) (HX N post (by omega) hq)))))
            · cases N with
              | zero => exact absurd hN (Nat.not_lt_zero _)
              | succ N => exact ry_elp hf htf hp hn h3 hj hE hu hj1 ha (fun z => absurd (by rw [g1, g2]; exact z) hc) (fun _ => HY N post (by omega) hq)
        · obtain ⟨r, fa', ft', ce', vx', le', vy', hi', H4, HX, HY⟩ := ih (t + 1) (p + 1) fa ce vx le vy hi (by omega) (by omega) (hnx I) LF
          refine ⟨r, fa', ft', ce', vx', le', vy', hi', H4, fun N post hN hq => ?_, fun N post hN hq => ?_⟩
          · cases N with
            | zero => exact absurd hN (Nat.not_lt_zero _)
            | succ N => exact br_f o2 (br_f o3 (rx_eif hp32 h3 hP1 (by omega) hj2 (br_f (rn_m1 (by omega)) (nm_r (nI_1 t) (HX N post (by omega) hq)))))
          · cases N with
            | zero => exact absurd hN (Nat.not_lt_zero _)
            | succ N => exact ry_eif hf htf hp hn h3 hj (Or.inr hj2) hE hu hj2 (HY N post (by omega) hq)
      · -- SET
        obtain ⟨r, fa', ft', ce', vx', le', vy', hi', H4, HX, HY⟩ := ih (t + 1) (p + 1) (rc p) ce vx le vy hi (by omega) (by omega) (rn_nx I (by rw [h4]; decide)) LF
        refine ⟨r, fa', ft', ce', vx', le', vy', hi', H4, fun N post hN hq => ?_, fun N post hN hq => ?_⟩
        · cases N with
          | zero => exact absurd hN (Nat.not_lt_zero _)
          | succ N => exact br_f o2 (br_f o3 (rx_set hp32 h4 (br_f (rn_m1 (by omega)) (nm_r (nI_1 t) (HX N post (by omega) hq)))))
        · cases N with
          | zero => exact absurd hN (Nat.not_lt_zero _)
          | succ N => exact ry_set hf htf hp hn h4 (HY N post (by omega) hq)
      · -- LOAD, ADD, STORE
        have hv := zr_bd R hpn hBv
        have ev := rn_val R I hBv
        have ha4 : (ra p).toNatClampNeg < 4 := zS_l ha3
        have hl := (R.2.2.2.2.2.1 _ ha4).1
        have el := I.1 _ (zS_l hl)
        have hnx : rn_I ro ra (p + 1) vx vy le hi := rn_nx I (by rcases h5 with z | z | z <;> rw [z] <;> decide)
        by_cases h0 : vx (rv p).toNatClampNeg + rc p < 0 ∨ ¬ vx (rv p).toNatClampNeg + rc p < vx (lv (ra p).toNatClampNeg).toNatClampNeg + lc (ra p).toNatClampNeg
        · refine ⟨1, fa, nI p, ce, vx, le, vy, hi, I.1, fun N post hN hq => ?_, fun N post hN hq => ?_⟩
          · cases N with
            | zero => exact absurd hN (Nat.not_lt_zero _)
            | succ N => exact br_f o2 (br_f o3 (rx_atr hp32 h5 ha3 hv hl h0 (br_t rfl hq)))
          · cases N with
            | zero => exact absurd hN (Nat.not_lt_zero _)
            | succ N => exact ry_atr hf htf hp hn h5 ha3 hv hl (by rw [← ev, ← el]; exact h0) hq
        · have g0 : ¬ vx (rv p).toNatClampNeg + rc p < 0 := fun z => h0 (Or.inl z)
          have g1 : vx (rv p).toNatClampNeg + rc p < vx (lv (ra p).toNatClampNeg).toNatClampNeg + lc (ra p).toNatClampNeg := Classical.byContradiction fun z => h0 (Or.inr z)
          have hlf := (LF _ ha4).2
          have gs : 0 ≤ (vx (rv p).toNatClampNeg + rc p).toInt ∧ (vx (rv p).toNatClampNeg + rc p).toInt ≤ 15 := by
            have a0 := g0
            have a1 := g1
            rw [Int32.lt_iff_toInt_lt, zq_0] at a0
            rw [Int32.lt_iff_toInt_lt] at a1
            rw [Int32.le_iff_toInt_le, zq_16] at hlf
            omega
          obtain ⟨c, hc, he⟩ := zq_ce ha3 gs
          have he2 : ra p * 16 + (vy (rv p).toNatClampNeg + rc p) = nI c := by rw [← ev]; exact he
          have k0 : ¬ vy (rv p).toNatClampNeg + rc p < 0 := by rw [← ev]; exact g0
          have k1 : vy (rv p).toNatClampNeg + rc p < vy (lv (ra p).toNatClampNeg).toNatClampNeg + lc (ra p).toNatClampNeg := by rw [← ev, ← el]; exact g1
          rcases h5 with z5 | z6 | z7
          · obtain ⟨r, fa', ft', ce', vx', le', vy', hi', H4, HX, HY⟩ := ih (t + 1) (p + 1) (ce c) ce vx le vy hi (by omega) (by omega) hnx LF
            refine ⟨r, fa', ft', ce', vx', le', vy', hi', H4, fun N post hN hq => ?_, fun N post hN hq => ?_⟩
            · cases N with
              | zero => exact absurd hN (Nat.not_lt_zero _)
              | succ N => exact br_f o2 (br_f o3 (rx_aok hp32 (Or.inl z5) ha3 hv hl g0 g1 hc he (fun _ => br_f (rn_m1 (by omega)) (nm_r (nI_1 t) (HX N post (by omega) hq))) (fun w => by rw [z5] at w; exact absurd w (by decide)) (fun w => by rw [z5] at w; exact absurd w (by decide))))
            · cases N with
              | zero => exact absurd hN (Nat.not_lt_zero _)
              | succ N => exact ry_aok hf htf hp hn (Or.inl z5) ha3 hv hl k0 k1 hc he2 (fun _ => HY N post (by omega) hq) (fun w => by rw [z5] at w; exact absurd w (by decide)) (fun w => by rw [z5] at w; exact absurd w (by decide))
          · obtain ⟨r, fa', ft', ce', vx', le', vy', hi', H4, HX, HY⟩ := ih (t + 1) (p + 1) (fa + ce c) ce vx le vy hi (by omega) (by omega) hnx LF
            refine ⟨r, fa', ft', ce', vx', le', vy', hi', H4, fun N post hN hq => ?_, fun N post hN hq => ?_⟩
            · cases N with
              | zero => exact absurd hN (Nat.not_lt_zero _)
              | succ N => exact br_f o2 (br_f o3 (rx_aok hp32 (Or.inr (Or.inl z6)) ha3 hv hl g0 g1 hc he (fun w => by rw [z6] at w; exact absurd w (by decide)) (fun _ => br_f (rn_m1 (by omega)) (nm_r (nI_1 t) (HX N post (by omega) hq))) (fun w => by rw [z6] at w; exact absurd w (by decide))))
            · cases N with
              | zero => exact absurd hN (Nat.not_lt_zero _)
              | succ N => exact ry_aok hf htf hp hn (Or.inr (Or.inl z6)) ha3 hv hl k0 k1 hc he2 (fun w => by rw [z6] at w; exact absurd w (by decide)) (fun _ => HY N post (by omega) hq) (fun w => by rw [z6] at w; exact absurd w (by decide))
          · obtain ⟨r, fa', ft', ce', vx', le', vy', hi', H4, HX, HY⟩ := ih (t + 1) (p + 1) fa (upd ce c fa) vx le vy hi (by omega) (by omega) hnx LF
            refine ⟨r, fa', ft', ce', vx', le', vy', hi', H4, fun N post hN hq => ?_, fun N post hN hq => ?_⟩
            · cases N with
              | zero => exact absurd hN (Nat.not_lt_zero _)
              | succ N => exact br_f o2 (br_f o3 (rx_aok hp32 (Or.inr (Or.inr z7)) ha3 hv hl g0 g1 hc he (fun w => by rw [z7] at w; exact absurd w (by decide)) (fun w => by rw [z7] at w; exact absurd w (by decide)) (fun _ => br_f (rn_m1 (by omega)) (nm_r (nI_1 t) (HX N post (by omega) hq)))))
            · cases N with
              | zero => exact absurd hN (Nat.not_lt_zero _)
              | succ N => exact ry_aok hf htf hp hn (Or.inr (Or.inr z7)) ha3 hv hl k0 k1 hc he2 (fun w => by rw [z7] at w; exact absurd w (by decide)) (fun w => by rw [z7] at w; exact absurd w (by decide)) (fun _ => HY N post (by omega) hq)
    · have e : p = n := by omega
      subst e
      refine ⟨0, fa, -1, ce, vx, le, vy, hi, I.1, fun N post hN hq => ?_, fun N post hN hq => ?_⟩
      · cases N with
        | zero => exact absurd hN (Nat.not_lt_zero _)
        | succ N => exact br_f o2 (br_t (nI_le (by omega) (by omega)) (br_t rfl hq))
      · cases N with
        | zero => exact absurd hN (Nat.not_lt_zero _)
        | succ N => exact br_f o1 (br_f (nI_nlt (by omega) (by omega)) hq)
end
