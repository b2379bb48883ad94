/-! The relation -/
def zR (kc pq n m np : Nat) (s : Nat → Nat) (ro ra rv rc rP rS px py pc lv lc vx vy : Nat → Int32) : Prop :=
  (kc ≤ 32 ∧ pq ≤ 16 ∧ n ≤ kc ∧ np ≤ pq ∧ m ≤ n) ∧
  (∀ i, i < m → rS i = nI (s i)) ∧ ns_PI ro rP s n m ∧ (∀ p, p < n → ns_WF ro ra rv rc p) ∧
  (∀ i, i < np → zS (px i) ∧ zS (py i) ∧ ns_K (pc i)) ∧ (∀ i, i < 4 → zS (lv i) ∧ ns_K (lc i)) ∧ (∀ i, i < 4 → vx i = vy i)
def i_Rel (_ : Nat) (u : SX) (v : SY) : Prop :=
  ∃ (kc pq n m np : Nat) (s : Nat → Nat) (fa ft fk fe : Int32) (ro ra rv rc rP rS px py pc lv lc ce vx le cx cy cw cd vy ex ey ew ds hi : Nat → Int32),
    u = (nI kc, nI pq, nI n, nI m, nI np, fa, ft, fk, ro, ra, rv, rc, rP, rS, px, py, pc, lv, lc, ce, vx, le, cx, cy, cw, cd) ∧ v = (nI kc, nI pq, nI n, nI np, fa, ft, fe, ro, ra, rv, rc, px, py, pc, lv, lc, vy, ce, ex, ey, ew, ds, hi) ∧
    zR kc pq n m np s ro ra rv rc rP rS px py pc lv lc vx vy
theorem i_up {k : Nat} {u : SX} {v : SY} (h : i_Rel k u v) : i_Rel (k + 5) u v := h
section
variable {kc pq n m np : Nat} {s : Nat → Nat} {K1 K2 fn fm fp fa ft fk fe : Int32} {ro ra rv rc rP rS px py pc lv lc ce vx le cx cy cw cd vy ex ey ew ds hi : Nat → Int32}
theorem zr_mk {k : Nat} (R : zR kc pq n m np s ro ra rv rc rP rS px py pc lv lc vx vy) :
    i_Rel k (nI kc, nI pq, nI n, nI m, nI np, fa, ft, fk, ro, ra, rv, rc, rP, rS, px, py, pc, lv, lc, ce, vx, le, cx, cy, cw, cd) (nI kc, nI pq, nI n, nI np, fa, ft, fe, ro, ra, rv, rc, px, py, pc, lv, lc, vy, ce, ex, ey, ew, ds, hi) :=
  ⟨kc, pq, n, m, np, s, fa, ft, fk, fe, ro, ra, rv, rc, rP, rS, px, py, pc, lv, lc, ce, vx, le, cx, cy, cw, cd, vy, ex, ey, ew, ds, hi, rfl, rfl, R⟩
theorem zr_loop (R : zR kc pq n m np s ro ra rv rc rP rS px py pc lv lc vx vy) : ∀ j, j < n → ro j = 1 → 4 ≤ (ra j).toInt ∧ (ra j).toInt ≤ 7 := by
  intro j hj h1
  rcases R.2.2.2.1 j hj with h | h | h | h | h
  · exact h.2.1
  · rw [h1] at h; exact absurd h.1 (by decide)
  · rw [h1] at h; exact absurd h (by decide)
  · rw [h1] at h; exact absurd h.1 (by decide)
  · rw [h1] at h; exact absurd h.1 (by decide)
/-- a variable bound at a place of the program is one of the eight -/
theorem zr_bd (R : zR kc pq n m np s ro ra rv rc rP rS px py pc lv lc vx vy) {p : Nat} {x : Int32} (hp : p ≤ n) (h : ns_Bd ro ra p x) : ed_V x := by
  have hx : 0 ≤ x.toInt ∧ x.toInt ≤ 7 := by
    rcases h with h | ⟨j, d, hj, h1, h2, _⟩
    · omega
    · have := zr_loop R j (by omega) h1
      rw [h2] at this
      omega
  obtain ⟨j, hj, e, _⟩ := zq_n (k := 7) hx.1 hx.2
  exact ⟨j, by omega, e⟩
/-- the stack holds what the scans find pending -/
theorem zr_ol (R : zR kc pq n m np s ro ra rv rc rP rS px py pc lv lc vx vy) {x : Int32} : (∃ i, i < m ∧ ro (s i) = 1 ∧ ra (s i) = x) ↔ (∃ j d, j < n ∧ ro j = 1 ∧ ra j = x ∧ ns_at ro j n = .inl d) := by
  constructor
  · intro ⟨i, hi, h1, h2⟩
    obtain ⟨g1, _, _, d, g4, _⟩ := R.2.2.1.1 i hi
    exact ⟨s i, d, g1, h1, h2, g4⟩
  · intro ⟨j, d, hj, h1, h2, h3⟩
    obtain ⟨i, hi, e⟩ := ns_op R.2.2.1 hj (Or.inl h1) h3
    exact ⟨i, hi, by rw [e]; exact h1, by rw [e]; exact h2⟩
theorem zr_ao (R : zR kc pq n m np s ro ra rv rc rP rS px py pc lv lc vx vy) : 0 < m ↔ (∃ j d, j < n ∧ ns_B (ro j) ∧ ns_at ro j n = .inl d) := by
  constructor
  · intro hm
    obtain ⟨g1, g2, _, d, g4, _⟩ := R.2.2.1.1 0 hm
    exact ⟨s 0, d, g1, g2, g4⟩
  · intro ⟨j, d, hj, h1, h3⟩
    obtain ⟨i, hi, _⟩ := ns_op R.2.2.1 hj h1 h3
    omega
end
/-! construction -/
theorem zi_cl (x : Int32) {lo hi : Int32} {l h : Nat} (hlo : lo = nI l) (hhi : hi = nI h) (hlh : l ≤ h) (hh : h < 2 ^ 31) : ∃ k : Nat, k ≤ h ∧ (∀ P : Int32 → Prop, P (nI k) → ((lo ≤ x → ((x ≤ hi → P x) ∧ (¬ x ≤ hi → P hi))) ∧ (¬ lo ≤ x → P lo))) := by
  by_cases a : lo ≤ x
  · by_cases b : x ≤ hi
    · have h0 : 0 ≤ x.toInt := by
        rw [hlo, Int32.le_iff_toInt_le, nI_toInt (by omega)] at a
        omega
      have h1 : x.toInt ≤ h := by
        rw [hhi, Int32.le_iff_toInt_le, nI_toInt hh] at b
        exact b
      obtain ⟨j, hj, e, _⟩ := zq_n h0 h1
      exact ⟨j, hj, fun P p => br_t a (br_t b (by rw [e]; exact p))⟩
    · exact ⟨h, Nat.le_refl _, fun P p => br_t a (br_f b (by rw [hhi]; exact p))⟩
  · exact ⟨l, hlh, fun P p => br_f a (by rw [hlo]; exact p)⟩
theorem zi_0 : zS 0 ∧ ns_K 0 := ⟨⟨by decide, by decide⟩, by decide, by decide⟩
theorem zi_Y {post : SY → Prop} {k0 k1 : Int32} {kc pq : Nat}
    (H1 : ∀ P : Int32 → Prop, P (nI kc) → ((8 ≤ k0 → ((k0 ≤ 32 → P k0) ∧ (¬ k0 ≤ 32 → P 32))) ∧ (¬ 8 ≤ k0 → P 8)))
    (H2 : ∀ P : Int32 → Prop, P (nI pq) → ((4 ≤ k1 → ((k1 ≤ 16 → P k1) ∧ (¬ k1 ≤ 16 → P 16))) ∧ (¬ 4 ≤ k1 → P 4)))
    (h : post (nI kc, nI pq, 0, 0, 0, -1, 0, (fun _ => 0), (fun _ => 0), (fun _ => 0), (fun _ => 0), (fun _ => 0), (fun _ => 0), (fun _ => 0), (fun _ => 0), (fun _ => 0), (fun _ => 0), (fun _ => 0), (fun _ => 0), (fun _ => 0), (fun _ => 0), (fun _ => 0), (fun _ => 0))) : wpY_init post k0 k1 :=
  H1 (fun z => wY_init_154 post k1 z 0 0 0 0 0 0 0 (fun _ => 0) (fun _ => 0) (fun _ => 0) (fun _ => 0) (fun _ => 0) (fun _ => 0) (fun _ => 0) (fun _ => 0) (fun _ => 0) (fun _ => 0) (fun _ => 0) (fun _ => 0) (fun _ => 0) (fun _ => 0) (fun _ => 0) (fun _ => 0)) (H2 (fun z => post (nI kc, z, 0, 0, 0, -1, 0, (fun _ => 0), (fun _ => 0), (fun _ => 0), (fun _ => 0), (fun _ => 0), (fun _ => 0), (fun _ => 0), (fun _ => 0), (fun _ => 0), (fun _ => 0), (fun _ => 0), (fun _ => 0), (fun _ => 0), (fun _ => 0), (fun _ => 0), (fun _ => 0))) h)
theorem i_vc0 (k0 : Int32) (k1 : Int32) : wpX_init (fun u => wpY_init (fun v => i_Rel 2 u v) k0 k1) k0 k1 := by
  obtain ⟨kc, h1, H1⟩ := zi_cl k0 (lo := 8) (hi := 32) (l := 8) (h := 32) rfl rfl (by omega) (by omega)
  obtain ⟨pq, h2, H2⟩ := zi_cl k1 (lo := 4) (hi := 16) (l := 4) (h := 16) rfl rfl (by omega) (by omega)
  have R : zR kc pq 0 0 0 (fun _ => 0) (fun _ => 0) (fun _ => 0) (fun _ => 0) (fun _ => 0) (fun _ => 0) (fun _ => 0) (fun _ => 0) (fun _ => 0) (fun _ => 0) (fun _ => 0) (fun _ => 0) (fun _ => 0) (fun _ => 0) :=
    ⟨⟨h1, h2, by omega, by omega, by omega⟩, fun _ h => absurd h (Nat.not_lt_zero _), ns_PI0 _ _ _, fun _ h => absurd h (Nat.not_lt_zero _), fun _ h => absurd h (Nat.not_lt_zero _), fun _ _ => zi_0, fun _ _ => rfl⟩
  have X1 : ∀ P : Int32 → Prop, P (nI kc) → wpX_clamp P k0 8 32 := fun P p => H1 P p
  have X2 : ∀ P : Int32 → Prop, P (nI pq) → wpX_clamp P k1 4 16 := fun P p => H2 P p
  unfold wpX_init
  refine X1 _ (X2 _ (zi_Y H1 H2 ?_))
  exact zr_mk (k := 2) R
/-! the calls that only read, and the small ones -/
theorem i_vc_acc {k : Nat} {u : SX} {v : SY} (I : i_Rel k u v) (hk : k + 5 ≤ 2562) : wpX_acc (fun r => wpY_acc (fun r' => r' = r ∧ i_Rel (k + 5) u v) v) u := by
  obtain ⟨kc, pq, n, m, np, s, fa, ft, fk, fe, ro, ra, rv, rc, rP, rS, px, py, pc, lv, lc, ce, vx, le, cx, cy, cw, cd, vy, ex, ey, ew, ds, hi, rfl, rfl, R⟩ := I
  exact ⟨rfl, zr_mk R⟩
theorem i_vc_trapAt {k : Nat} {u : SX} {v : SY} (I : i_Rel k u v) (hk : k + 5 ≤ 2562) : wpX_trapAt (fun r => wpY_trapAt (fun r' => r' = r ∧ i_Rel (k + 5) u v) v) u := by
  obtain ⟨kc, pq, n, m, np, s, fa, ft, fk, fe, ro, ra, rv, rc, rP, rS, px, py, pc, lv, lc, ce, vx, le, cx, cy, cw, cd, vy, ex, ey, ew, ds, hi, rfl, rfl, R⟩ := I
  exact ⟨rfl, zr_mk R⟩
theorem i_vc_size {k : Nat} {u : SX} {v : SY} (I : i_Rel k u v) (hk : k + 5 ≤ 2562) : wpX_size (fun r => wpY_size (fun r' => r' = r ∧ i_Rel (k + 5) u v) v) u := by
  obtain ⟨kc, pq, n, m, np, s, fa, ft, fk, fe, ro, ra, rv, rc, rP, rS, px, py, pc, lv, lc, ce, vx, le, cx, cy, cw, cd, vy, ex, ey, ew, ds, hi, rfl, rfl, R⟩ := I
  exact ⟨rfl, zr_mk R⟩
theorem i_vc_clearPre {k : Nat} {u : SX} {v : SY} (I : i_Rel k u v) (hk : k + 5 ≤ 2562) : wpX_clearPre (fun u' => wpY_clearPre (fun v' => i_Rel (k + 5) u' v') v) u := by
  obtain ⟨kc, pq, n, m, np, s, fa, ft, fk, fe, ro, ra, rv, rc, rP, rS, px, py, pc, lv, lc, ce, vx, le, cx, cy, cw, cd, vy, ex, ey, ew, ds, hi, rfl, rfl, R⟩ := I
  exact zr_mk (k := k + 5) (np := 0) ⟨⟨R.1.1, R.1.2.1, R.1.2.2.1, Nat.zero_le _, R.1.2.2.2.2⟩, R.2.1, R.2.2.1, R.2.2.2.1, fun _ h => absurd h (Nat.not_lt_zero _), R.2.2.2.2.2⟩
theorem i_vc_clearProgram {k : Nat} {u : SX} {v : SY} (I : i_Rel k u v) (hk : k + 5 ≤ 2562) : wpX_clearProgram (fun u' => wpY_clearProgram (fun v' => i_Rel (k + 5) u' v') v) u := by
  obtain ⟨kc, pq, n, m, np, s, fa, ft, fk, fe, ro, ra, rv, rc, rP, rS, px, py, pc, lv, lc, ce, vx, le, cx, cy, cw, cd, vy, ex, ey, ew, ds, hi, rfl, rfl, R⟩ := I
  exact zr_mk (k := k + 5) (n := 0) (m := 0) (s := s) ⟨⟨R.1.1, R.1.2.1, Nat.zero_le _, R.1.2.2.2.1, Nat.le_refl _⟩, fun _ h => absurd h (Nat.not_lt_zero _), ns_PI0 _ _ _, fun _ h => absurd h (Nat.not_lt_zero _), R.2.2.2.2⟩
theorem zr_lt {a b : Nat} (h : a < b) (hb : b < 2 ^ 31) : ¬ nI b ≤ nI a := nI_ge h hb
theorem i_vc_addPre {k : Nat} {u : SX} {v : SY} (I : i_Rel k u v) (hk : k + 5 ≤ 2562) (v1 : Int32) (v2 : Int32) (v3 : Int32) : wpX_addPre (fun r u' => wpY_addPre (fun r' v' => r' = r ∧ i_Rel (k + 5) u' v') v v1 v2 v3) u v1 v2 v3 := by
  obtain ⟨kc, pq, n, m, np, s, fa, ft, fk, fe, ro, ra, rv, rc, rP, rS, px, py, pc, lv, lc, ce, vx, le, cx, cy, cw, cd, vy, ex, ey, ew, ds, hi, rfl, rfl, R⟩ := I
  obtain ⟨⟨b1, b2, b3, b4, b5⟩, R2, R3, R4, R5, R6, R7⟩ := R
  have R0 : zR kc pq n m np s ro ra rv rc rP rS px py pc lv lc vx vy := ⟨⟨b1, b2, b3, b4, b5⟩, R2, R3, R4, R5, R6, R7⟩
  by_cases hc : np < pq
  · -- room is left
    have Yno : ¬ (zS v1 ∧ zS v2 ∧ ns_K v3) → wpY_addPre (fun r' v' => r' = 0 ∧ i_Rel (k + 5) (nI kc, nI pq, nI n, nI m, nI np, fa, ft, fk, ro, ra, rv, rc, rP, rS, px, py, pc, lv, lc, ce, vx, le, cx, cy, cw, cd) v') (nI kc, nI pq, nI n, nI np, fa, ft, fe, ro, ra, rv, rc, px, py, pc, lv, lc, vy, ce, ex, ey, ew, ds, hi) v1 v2 v3 := by
      intro hno
      refine br_t (nI_lt hc (by omega)) ?_
      refine zq_lt rfl zq_0 (fun _ => ⟨rfl, zr_mk R0⟩) (fun h1 => zq_lt zq_3 rfl (fun _ => ⟨rfl, zr_mk R0⟩) (fun h2 => zq_lt rfl zq_0 (fun _ => ⟨rfl, zr_mk R0⟩) (fun h3 => zq_le rfl zq_3 (fun h4 => ?_) (fun _ => ⟨rfl, zr_mk R0⟩))))
      exact sy_bc (fun h5 => absurd ⟨⟨h1, h2⟩, ⟨h3, h4⟩, h5⟩ hno) (fun _ => br_f (by decide) ⟨rfl, zr_mk R0⟩)
    refine br_f (nI_ge hc (by omega)) (sx_sv (fun g1 => br_f (by decide) (sx_sv (fun g2 => br_f (by decide) (sx_k (fun g3 => br_f (by decide) ?_) (fun g3 => br_t rfl (Yno (fun z => g3 z.2.2))))) (fun g2 => br_t rfl (Yno (fun z => g2 z.2.1))))) (fun g1 => br_t rfl (Yno (fun z => g1 z.1))))
    have e : (nI np).toNatClampNeg = np := nI_clamp (by omega)
    rw [e]
    refine ⟨vp_in_nI (by omega) (by omega), nm_e ⟨vp_in_nI (by omega) (by omega), nm_e ⟨vp_in_nI (by omega) (by omega), nm_e (nm_r (nI_1 np) ?_)⟩⟩⟩
    refine br_t (nI_lt hc (by omega)) (zq_lt rfl zq_0 (fun z => absurd g1.1 (by omega)) (fun _ => zq_lt zq_3 rfl (fun z => absurd g1.2 (by omega)) (fun _ => zq_lt rfl zq_0 (fun z => absurd g2.1 (by omega)) (fun _ => zq_le rfl zq_3 (fun _ => ?_) (fun z => absurd g2.2 (by omega))))))
    refine sy_bc (fun _ => br_t rfl ?_) (fun z => absurd g3 z)
    rw [e]
    refine ⟨vp_in_nI (by omega) (by omega), nm_e ⟨vp_in_nI (by omega) (by omega), nm_e ⟨vp_in_nI (by omega) (by omega), nm_e (nm_r (nI_1 np) ⟨rfl, zr_mk (np := np + 1) (s := s) ?_⟩)⟩⟩⟩
    refine ⟨⟨b1, b2, b3, by omega, b5⟩, R2, R3, R4, ?_, R6, R7⟩
    intro i hi
    by_cases z : i = np
    · rw [z, ns_us, ns_us, ns_us]
      exact ⟨g1, g2, g3⟩
    · rw [ns_uo z, ns_uo z, ns_uo z]
      exact R5 i (by omega)
  · exact br_t (nI_le (by omega) (by omega)) (br_f (nI_nlt (by omega) (by omega)) ⟨rfl, zr_mk R0⟩)
theorem i_vc_declare {k : Nat} {u : SX} {v : SY} (I : i_Rel k u v) (hk : k + 5 ≤ 2562) (v1 : Int32) (v2 : Int32) (v3 : Int32) : wpX_declare (fun r u' => wpY_declare (fun r' v' => r' = r ∧ i_Rel (k + 5) u' v') v v1 v2 v3) u v1 v2 v3 := by
  obtain ⟨kc, pq, n, m, np, s, fa, ft, fk, fe, ro, ra, rv, rc, rP, rS, px, py, pc, lv, lc, ce, vx, le, cx, cy, cw, cd, vy, ex, ey, ew, ds, hi, rfl, rfl, R⟩ := I
  obtain ⟨B, R2, R3, R4, R5, R6, R7⟩ := R
  have R0 : zR kc pq n m np s ro ra rv rc rP rS px py pc lv lc vx vy := ⟨B, R2, R3, R4, R5, R6, R7⟩
  have Yno : ¬ (zS v1 ∧ zS v2 ∧ ns_K v3) → wpY_declare (fun r' v' => r' = 0 ∧ i_Rel (k + 5) (nI kc, nI pq, nI n, nI m, nI np, fa, ft, fk, ro, ra, rv, rc, rP, rS, px, py, pc, lv, lc, ce, vx, le, cx, cy, cw, cd) v') (nI kc, nI pq, nI n, nI np, fa, ft, fe, ro, ra, rv, rc, px, py, pc, lv, lc, vy, ce, ex, ey, ew, ds, hi) v1 v2 v3 := by
    intro hno
    refine zq_lt rfl zq_0 (fun _ => ⟨rfl, zr_mk R0⟩) (fun h1 => zq_lt zq_3 rfl (fun _ => ⟨rfl, zr_mk R0⟩) (fun h2 => zq_lt rfl zq_0 (fun _ => ⟨rfl, zr_mk R0⟩) (fun h3 => zq_lt zq_3 rfl (fun _ => ⟨rfl, zr_mk R0⟩) (fun h4 => ?_))))
    exact sy_bc (fun h5 => absurd ⟨⟨h1, h2⟩, ⟨h3, h4⟩, h5⟩ hno) (fun _ => br_f (by decide) ⟨rfl, zr_mk R0⟩)
  unfold wpX_declare
  refine sx_ar (fun g1 => br_f (by decide) (sx_sv (fun g2 => br_f (by decide) (sx_k (fun g3 => br_f (by decide) ?_) (fun g3 => br_t rfl (Yno (fun z => g3 z.2.2))))) (fun g2 => br_t rfl (Yno (fun z => g2 z.2.1))))) (fun g1 => br_t rfl (Yno (fun z => g1 z.1)))
  obtain ⟨j, hj, e, ej⟩ := zq_n (k := 3) g1.1 g1.2
  have ec : v1.toNatClampNeg = j := by rw [e]; exact nI_clamp (by omega)
  have hin : vp_in v1 4 := by rw [e]; exact vp_in_nI (by omega) (by omega)
  rw [ec]
  refine ⟨hin, nm_e ⟨hin, nm_e ?_⟩⟩
  refine zq_lt rfl zq_0 (fun z => absurd g1.1 (by omega)) (fun _ => zq_lt zq_3 rfl (fun z => absurd g1.2 (by omega)) (fun _ => zq_lt rfl zq_0 (fun z => absurd g2.1 (by omega)) (fun _ => zq_lt zq_3 rfl (fun z => absurd g2.2 (by omega)) (fun _ => ?_))))
  refine sy_bc (fun _ => br_t rfl ?_) (fun z => absurd g3 z)
  rw [ec]
  refine ⟨hin, nm_e ⟨hin, nm_e ⟨rfl, zr_mk (s := s) ?_⟩⟩⟩
  refine ⟨B, R2, R3, R4, R5, ?_, R7⟩
  intro i hi2
  by_cases z : i = j
  · rw [z, ns_us, ns_us]
    exact ⟨g2, g3⟩
  · rw [ns_uo z, ns_uo z]
    exact R6 i hi2
theorem i_vc_setParam {k : Nat} {u : SX} {v : SY} (I : i_Rel k u v) (hk : k + 5 ≤ 2562) (v1 : Int32) (v2 : Int32) : wpX_setParam (fun r u' => wpY_setParam (fun r' v' => r' = r ∧ i_Rel (k + 5) u' v') v v1 v2) u v1 v2 := by
  obtain ⟨kc, pq, n, m, np, s, fa, ft, fk, fe, ro, ra, rv, rc, rP, rS, px, py, pc, lv, lc, ce, vx, le, cx, cy, cw, cd, vy, ex, ey, ew, ds, hi, rfl, rfl, R⟩ := I
  obtain ⟨B, R2, R3, R4, R5, R6, R7⟩ := R
  have R0 : zR kc pq n m np s ro ra rv rc rP rS px py pc lv lc vx vy := ⟨B, R2, R3, R4, R5, R6, R7⟩
  have Yno : ¬ ((1 ≤ v1.toInt ∧ v1.toInt ≤ 3) ∧ ns_K v2) → wpY_setParam (fun r' v' => r' = 0 ∧ i_Rel (k + 5) (nI kc, nI pq, nI n, nI m, nI np, fa, ft, fk, ro, ra, rv, rc, rP, rS, px, py, pc, lv, lc, ce, vx, le, cx, cy, cw, cd) v') (nI kc, nI pq, nI n, nI np, fa, ft, fe, ro, ra, rv, rc, px, py, pc, lv, lc, vy, ce, ex, ey, ew, ds, hi) v1 v2 := by
    intro hno
    refine zq_lt rfl zq_1 (fun _ => ⟨rfl, zr_mk R0⟩) (fun h1 => zq_lt zq_3 rfl (fun _ => ⟨rfl, zr_mk R0⟩) (fun h2 => ?_))
    exact sy_bc (fun h5 => absurd ⟨⟨h1, h2⟩, h5⟩ hno) (fun _ => br_f (by decide) ⟨rfl, zr_mk R0⟩)
  by_cases h0 : v1 = 0
  · refine br_t h0 (Yno (fun z => ?_))
    have := z.1.1
    rw [h0, zq_0] at this
    omega
  refine br_f h0 (sx_sv (fun g1 => br_f (by decide) (sx_k (fun g3 => br_f (by decide) ?_) (fun g3 => br_t rfl (Yno (fun z => g3 z.2))))) (fun g1 => br_t rfl (Yno (fun z => g1 ⟨by have := z.1.1; omega, z.1.2⟩))))
  obtain ⟨j, hj, e, ej⟩ := zq_n (k := 3) g1.1 g1.2
  have hj0 : 1 ≤ v1.toInt := by
    apply Classical.byContradiction
    intro z
    apply h0
    have : j = 0 := by omega
    rw [e, this]
    rfl
  have g12 := g1.2
  have ec : v1.toNatClampNeg = j := by rw [e]; exact nI_clamp (by omega)
  have hin : vp_in v1 8 := by rw [e]; exact vp_in_nI (by omega) (by omega)
  rw [ec]
  refine ⟨hin, nm_e ?_⟩
  refine zq_lt rfl zq_1 (fun z => absurd hj0 (by omega)) (fun _ => zq_lt zq_3 rfl (fun z => absurd g12 (by omega)) (fun _ => ?_))
  refine sy_bc (fun _ => br_t rfl ?_) (fun z => absurd g3 z)
  rw [ec]
  refine ⟨hin, nm_e ⟨rfl, zr_mk (s := s) ?_⟩⟩
  refine ⟨B, R2, R3, R4, R5, R6, ?_⟩
  intro i hi2
  by_cases z : i = j
  · rw [z, ns_us, ns_us]
  · rw [ns_uo z, ns_uo z]
    exact R7 i hi2
theorem zq_ce {x y : Int32} (hx : zS x) (hy : 0 ≤ y.toInt ∧ y.toInt ≤ 15) : ∃ j : Nat, j < 64 ∧ x * 16 + y = nI j := by
  obtain ⟨i, hi, e, _⟩ := zq_n (k := 3) hx.1 hx.2
  obtain ⟨j, hj, f, _⟩ := zq_n (k := 15) hy.1 hy.2
  refine ⟨i * 16 + j, by omega, ?_⟩
  rw [e, f, ← nI_add]
  show nI i * nI 16 + nI j = _
  rw [show nI i * nI 16 = nI (i * 16) from (Int32.ofNat_mul i 16).symm]
theorem i_vc_setCell {k : Nat} {u : SX} {v : SY} (I : i_Rel k u v) (hk : k + 5 ≤ 2562) (v1 : Int32) (v2 : Int32) (v3 : Int32) : wpX_setCell (fun r u' => wpY_setCell (fun r' v' => r' = r ∧ i_Rel (k + 5) u' v') v v1 v2 v3) u v1 v2 v3 := by
  obtain ⟨kc, pq, n, m, np, s, fa, ft, fk, fe, ro, ra, rv, rc, rP, rS, px, py, pc, lv, lc, ce, vx, le, cx, cy, cw, cd, vy, ex, ey, ew, ds, hi, rfl, rfl, R⟩ := I
  have Yno : ¬ (zS v1 ∧ (0 ≤ v2.toInt ∧ v2.toInt ≤ 15)) → wpY_setCell (fun r' v' => r' = 0 ∧ i_Rel (k + 5) (nI kc, nI pq, nI n, nI m, nI np, fa, ft, fk, ro, ra, rv, rc, rP, rS, px, py, pc, lv, lc, ce, vx, le, cx, cy, cw, cd) v') (nI kc, nI pq, nI n, nI np, fa, ft, fe, ro, ra, rv, rc, px, py, pc, lv, lc, vy, ce, ex, ey, ew, ds, hi) v1 v2 v3 := by
    intro hno
    exact zq_lt rfl zq_0 (fun _ => ⟨rfl, zr_mk R⟩) (fun h1 => zq_lt zq_3 rfl (fun _ => ⟨rfl, zr_mk R⟩) (fun h2 => zq_lt rfl zq_0 (fun _ => ⟨rfl, zr_mk R⟩) (fun h3 => zq_le rfl zq_15 (fun h4 => absurd ⟨⟨h1, h2⟩, h3, h4⟩ hno) (fun _ => ⟨rfl, zr_mk R⟩))))
  unfold wpX_setCell
  refine sx_ar (fun g1 => br_f (by decide) (sx_ci (fun g2 => br_f (by decide) ?_) (fun g2 => br_t rfl (Yno (fun z => g2 z.2))))) (fun g1 => br_t rfl (Yno (fun z => g1 z.1)))
  obtain ⟨j, hj, e⟩ := zq_ce g1 g2
  have hin : vp_in (v1 * 16 + v2) 64 := by rw [e]; exact vp_in_nI hj (by omega)
  refine ⟨hin, nm_e ?_⟩
  refine zq_lt rfl zq_0 (fun z => absurd g1.1 (by omega)) (fun _ => zq_lt zq_3 rfl (fun z => absurd g1.2 (by omega)) (fun _ => zq_lt rfl zq_0 (fun z => absurd g2.1 (by omega)) (fun _ => zq_le rfl zq_15 (fun _ => ?_) (fun z => absurd g2.2 (by omega)))))
  exact ⟨hin, nm_e ⟨rfl, zr_mk R⟩⟩
theorem i_vc_cell {k : Nat} {u : SX} {v : SY} (I : i_Rel k u v) (hk : k + 5 ≤ 2562) (v1 : Int32) (v2 : Int32) : wpX_cell (fun r => wpY_cell (fun r' => r' = r ∧ i_Rel (k + 5) u v) v v1 v2) u v1 v2 := by
  obtain ⟨kc, pq, n, m, np, s, fa, ft, fk, fe, ro, ra, rv, rc, rP, rS, px, py, pc, lv, lc, ce, vx, le, cx, cy, cw, cd, vy, ex, ey, ew, ds, hi, rfl, rfl, R⟩ := I
  have Yno : ¬ (zS v1 ∧ (0 ≤ v2.toInt ∧ v2.toInt ≤ 15)) → wpY_cell (fun r' => r' = 0 ∧ i_Rel (k + 5) (nI kc, nI pq, nI n, nI m, nI np, fa, ft, fk, ro, ra, rv, rc, rP, rS, px, py, pc, lv, lc, ce, vx, le, cx, cy, cw, cd) (nI kc, nI pq, nI n, nI np, fa, ft, fe, ro, ra, rv, rc, px, py, pc, lv, lc, vy, ce, ex, ey, ew, ds, hi)) (nI kc, nI pq, nI n, nI np, fa, ft, fe, ro, ra, rv, rc, px, py, pc, lv, lc, vy, ce, ex, ey, ew, ds, hi) v1 v2 := by
    intro hno
    exact zq_lt rfl zq_0 (fun _ => ⟨rfl, zr_mk R⟩) (fun h1 => zq_lt zq_3 rfl (fun _ => ⟨rfl, zr_mk R⟩) (fun h2 => zq_lt rfl zq_0 (fun _ => ⟨rfl, zr_mk R⟩) (fun h3 => zq_le rfl zq_15 (fun h4 => absurd ⟨⟨h1, h2⟩, h3, h4⟩ hno) (fun _ => ⟨rfl, zr_mk R⟩))))
  unfold wpX_cell
  refine sx_ar (fun g1 => br_f (by decide) (sx_ci (fun g2 => br_f (by decide) ?_) (fun g2 => br_t rfl (Yno (fun z => g2 z.2))))) (fun g1 => br_t rfl (Yno (fun z => g1 z.1)))
  obtain ⟨j, hj, e⟩ := zq_ce g1 g2
  have hin : vp_in (v1 * 16 + v2) 64 := by rw [e]; exact vp_in_nI hj (by omega)
  refine ⟨hin, ?_⟩
  refine zq_lt rfl zq_0 (fun z => absurd g1.1 (by omega)) (fun _ => zq_lt zq_3 rfl (fun z => absurd g1.2 (by omega)) (fun _ => zq_lt rfl zq_0 (fun z => absurd g2.1 (by omega)) (fun _ => zq_le rfl zq_15 (fun _ => ?_) (fun z => absurd g2.2 (by omega)))))
  exact ⟨hin, rfl, zr_mk R⟩
