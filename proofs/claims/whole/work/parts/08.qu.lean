/-! The questions: consistent, implies, accessStatus, check -/
section
variable {s : Nat × (Nat → Int32) × (Nat → Int32) × (Nat → Int32)} {post : Int32 → SX → Prop} {K1 K2 fn fm fp fa ft fk : Int32} {ro ra rv rc rP rS px py pc lv lc ce vx le cx cy cw cd : Nat → Int32}
/-- the component's entailment: the answer is that the store with the negated goal has no solution; the count is as before -/
theorem qx_en {x y c : Int32} (hG : ed_G (ed_push s y x ((-c) - 1))) (hH : ed_H s cx cy cw) (hm : s.1 < 81)
    (h1 : ¬ ed_sat (ed_push s y x ((-c) - 1)) → ∀ cx cy cw cd : Nat → Int32, ed_H s cx cy cw → post 1 (K1, K2, fn, fm, fp, fa, ft, nI s.1, ro, ra, rv, rc, rP, rS, px, py, pc, lv, lc, ce, vx, le, cx, cy, cw, cd))
    (h0 : ed_sat (ed_push s y x ((-c) - 1)) → ∀ cx cy cw cd : Nat → Int32, ed_H s cx cy cw → post 0 (K1, K2, fn, fm, fp, fa, ft, nI s.1, ro, ra, rv, rc, rP, rS, px, py, pc, lv, lc, ce, vx, le, cx, cy, cw, cd)) : wpX_constraintsEntail post (K1, K2, fn, fm, fp, fa, ft, nI s.1, ro, ra, rv, rc, rP, rS, px, py, pc, lv, lc, ce, vx, le, cx, cy, cw, cd) x y c := by
  have hH2 := ed_H_push hH y x ((-c) - 1)
  have hH3 : ed_H s (upd cx s.1 y) (upd cy s.1 x) (upd cw s.1 ((-c) - 1)) := by
    intro q hq
    rw [ns_uo (by omega), ns_uo (by omega), ns_uo (by omega)]
    exact hH q hq
  unfold wpX_constraintsEntail
  refine gx_add hm _ _ _ ?_
  refine so_x (s := ed_push s y x ((-c) - 1)) hG hH2 (by show s.1 + 1 ≤ 81; omega) (fun z cd => ?_) (fun z cd => ?_)
  · exact br_f (by decide) (h0 z _ _ _ cd hH3)
  · exact br_t rfl (h1 z _ _ _ cd hH3)
end
section
variable {kc pq n m np : Nat} {s : Nat → Nat} {K1 K2 fn fm fp fa ft fk fe : Int32} {ro ra rv rc rP rS px py pc lv lc ce vx le cx cy cw cd vy ex ey ew ds hi : Nat → Int32}
theorem zr_G0 (R : zR kc pq n m np s ro ra rv rc rP rS px py pc lv lc vx vy) : ed_G (np, px, py, pc) := by
  intro q hq
  obtain ⟨h1, h2, h3⟩ := R.2.2.2.2.1 q hq
  have h31 := h3.1
  have h32 := h3.2
  obtain ⟨i, hi, e, _⟩ := zq_n (k := 3) h1.1 h1.2
  obtain ⟨j, hj, f, _⟩ := zq_n (k := 3) h2.1 h2.2
  refine ⟨⟨i, by omega, e⟩, ⟨j, by omega, f⟩, ?_, ?_⟩
  · show -2001 ≤ (pc q).toInt
    omega
  · show (pc q).toInt ≤ 2001
    omega
theorem zS_V {x : Int32} (h : zS x) : ed_V x := by
  obtain ⟨i, hi, e, _⟩ := zq_n (k := 3) h.1 h.2
  exact ⟨i, by omega, e⟩
theorem zr_w (R : zR kc pq n m np s ro ra rv rc rP rS px py pc lv lc vx vy) {j : Nat} (hj : j < n) (hb : ns_B (ro j)) : ed_V (ra j) ∧ ed_V (rv j) ∧ ns_K (rc j) := by
  rcases R.2.2.2.1 j hj with h | h | h | h | h
  · have h2 := h.2.1
    obtain ⟨i, hi, e, _⟩ := zq_n (x := ra j) (k := 7) (by omega) (by omega)
    exact ⟨⟨i, by omega, e⟩, zr_bd R (by omega) h.2.2.2.1, h.2.2.2.2⟩
  · exact ⟨zr_bd R (by omega) h.2.1, zr_bd R (by omega) h.2.2.1, h.2.2.2⟩
  · exact absurd hb (ns_3B h)
  · rw [h.1] at hb; exact absurd (show (4 : Int32) = 1 ∨ (4 : Int32) = 2 from hb) (by decide)
  · rcases h.1 with z | z | z
    · rw [z] at hb; exact absurd (show (5 : Int32) = 1 ∨ (5 : Int32) = 2 from hb) (by decide)
    · rw [z] at hb; exact absurd (show (6 : Int32) = 1 ∨ (6 : Int32) = 2 from hb) (by decide)
    · rw [z] at hb; exact absurd (show (7 : Int32) = 1 ∨ (7 : Int32) = 2 from hb) (by decide)
theorem zr_Gc (R : zR kc pq n m np s ro ra rv rc rP rS px py pc lv lc vx vy) {k : Nat} (hk : k ≤ n) : ed_G (ed_ctx (np, px, py, pc) ro ra rv rc rP k k) :=
  ed_Gc (zr_G0 R) k (fun _ hi hb => zr_w R (by omega) hb)
theorem zr_P (R : zR kc pq n m np s ro ra rv rc rP rS px py pc lv lc vx vy) : ∀ j, j < n → ns_B (ro j) → ns_res (ns_at ro j n) = rP j := fun _ hj hb => ns_me R.2.2.1 hj hb
theorem zq_ng {c : Int32} (h1 : -2000 ≤ c.toInt) (h2 : c.toInt ≤ 2000) : ((-c) - 1).toInt = -c.toInt - 1 := by
  rw [Int32.toInt_sub, Int32.toInt_neg, zq_1, Int.bmod_eq_of_le (n := -c.toInt) (by omega) (by omega)]
  exact Int.bmod_eq_of_le (by omega) (by omega)
theorem zq_df {c d : Int32} (h : ns_K c) (g : ns_K d) : (c - d).toInt = c.toInt - d.toInt := by
  have h1 := h.1
  have h2 := h.2
  have g1 := g.1
  have g2 := g.2
  rw [Int32.toInt_sub]
  exact Int.bmod_eq_of_le (by omega) (by omega)
theorem zq_hi (c l : Int32) : (-((l - 1) - c)) - 1 = c - l := by
  grind
end
theorem i_vc_consistent {k : Nat} {u : SX} {v : SY} (I : i_Rel k u v) (hk : k + 5 ≤ 2562) : wpX_consistent (fun r u' => wpY_consistent (fun r' v' => r' = r ∧ i_Rel (k + 5) u' v') v) u := by
  obtain ⟨kc, pq, n, m, np, s, fa, ft, fk, fe, ro, ra, rv, rc, rP, rS, px, py, pc, lv, lc, ce, vx, le, cx, cy, cw, cd, vy, ex, ey, ew, ds, hi, rfl, rfl, R⟩ := I
  have b := R.1
  have hG := zr_G0 R
  refine gx_pre (fk := fk) (by omega) (fun cx cy cw hH => so_x (s := (np, px, py, pc)) hG hH (by show np ≤ 81; omega) (fun z cd => And.intro rfl ?_) (fun z cd => And.intro rfl ?_))
  · exact gy_base (fe := fe) (k := 0) (by omega) (by omega) (by omega) (zr_P R) (fun ex ey ew hY => so_y (s := (np, px, py, pc)) hG hY (by show np ≤ 81; omega) (fun _ ds => And.intro rfl ⟨rfl, zr_mk R⟩) (fun w => absurd z w))
  · exact gy_base (fe := fe) (k := 0) (by omega) (by omega) (by omega) (zr_P R) (fun ex ey ew hY => so_y (s := (np, px, py, pc)) hG hY (by show np ≤ 81; omega) (fun w => absurd w z) (fun _ ds => And.intro rfl ⟨rfl, zr_mk R⟩))
theorem i_vc_implies {k : Nat} {u : SX} {v : SY} (I : i_Rel k u v) (hk : k + 5 ≤ 2562) (v1 : Int32) (v2 : Int32) (v3 : Int32) : wpX_implies (fun r u' => wpY_implies (fun r' v' => r' = r ∧ i_Rel (k + 5) u' v') v v1 v2 v3) u v1 v2 v3 := by
  obtain ⟨kc, pq, n, m, np, s, fa, ft, fk, fe, ro, ra, rv, rc, rP, rS, px, py, pc, lv, lc, ce, vx, le, cx, cy, cw, cd, vy, ex, ey, ew, ds, hi, rfl, rfl, R⟩ := I
  have b := R.1
  have hG := zr_G0 R
  have Yno : ¬ (zS v1 ∧ zS v2 ∧ ns_K v3) → wpY_implies (fun r' v' => r' = 0 ∧ i_Rel (k + 5) (nI kc, nI pq, nI n, nI m, nI np, fa, ft, fk, ro, ra, rv, rc, rP, rS, px, py, pc, lv, lc, ce, vx, le, cx, cy, cw, cd) v') (nI kc, nI pq, nI n, nI np, fa, ft, fe, ro, ra, rv, rc, px, py, pc, lv, lc, vy, ce, ex, ey, ew, ds, hi) v1 v2 v3 := by
    intro hno
    refine zq_lt rfl zq_0 (fun _ => ⟨rfl, zr_mk R⟩) (fun h1 => zq_lt zq_3 rfl (fun _ => ⟨rfl, zr_mk R⟩) (fun h2 => zq_lt rfl zq_0 (fun _ => ⟨rfl, zr_mk R⟩) (fun h3 => zq_lt zq_3 rfl (fun _ => ⟨rfl, zr_mk R⟩) (fun h4 => ?_))))
    exact sy_bc (fun h5 => absurd ⟨⟨h1, h2⟩, ⟨h3, h4⟩, h5⟩ hno) (fun _ => br_f (by decide) ⟨rfl, zr_mk R⟩)
  unfold wpX_implies
  refine sx_sv (fun g1 => br_f (by decide) (sx_sv (fun g2 => br_f (by decide) (sx_k (fun g3 => br_f (by decide) ?_) (fun g3 => br_t rfl (Yno (fun z => g3 z.2.2))))) (fun g2 => br_t rfl (Yno (fun z => g2 z.2.1))))) (fun g1 => br_t rfl (Yno (fun z => g1 z.1)))
  have g31 := g3.1
  have g32 := g3.2
  have en := zq_ng (c := v3) (by omega) (by omega)
  have hG2 : ed_G (ed_push (np, px, py, pc) v2 v1 ((-v3) - 1)) := ed_G_push hG (zS_V g2) (zS_V g1) (by omega) (by omega)
  have Yyes : ∀ (r : Int32) (U : SX), (∀ v' : SY, (∃ fe ex ey ew ds, v' = (nI kc, nI pq, nI n, nI np, fa, ft, fe, ro, ra, rv, rc, px, py, pc, lv, lc, vy, ce, ex, ey, ew, ds, hi)) → i_Rel (k + 5) U v') → ((ed_sat (ed_push (np, px, py, pc) v2 v1 ((-v3) - 1)) ∧ r = 0) ∨ (¬ ed_sat (ed_push (np, px, py, pc) v2 v1 ((-v3) - 1)) ∧ r = 1)) → wpY_implies (fun r' v' => r' = r ∧ i_Rel (k + 5) U v') (nI kc, nI pq, nI n, nI np, fa, ft, fe, ro, ra, rv, rc, px, py, pc, lv, lc, vy, ce, ex, ey, ew, ds, hi) v1 v2 v3 := by
    intro r U hU hr
    refine zq_lt rfl zq_0 (fun z => absurd g1.1 (by omega)) (fun _ => zq_lt zq_3 rfl (fun z => absurd g1.2 (by omega)) (fun _ => zq_lt rfl zq_0 (fun z => absurd g2.1 (by omega)) (fun _ => zq_lt zq_3 rfl (fun z => absurd g2.2 (by omega)) (fun _ => ?_))))
    refine sy_bc (fun _ => br_t rfl ?_) (fun z => absurd g3 z)
    refine gy_base (fe := fe) (k := 0) (by omega) (by omega) (by omega) (zr_P R) (fun ex ey ew hY => gy_add (show np < 96 by omega) _ _ _ ?_)
    refine so_y (s := ed_push (np, px, py, pc) v2 v1 ((-v3) - 1)) hG2 (ed_H_push hY _ _ _) (by show np + 1 ≤ 81; omega) (fun z ds => br_f (by decide) ⟨?_, hU _ ⟨_, _, _, _, _, rfl⟩⟩) (fun z ds => br_t rfl ⟨?_, hU _ ⟨_, _, _, _, _, rfl⟩⟩)
    · rcases hr with hr | hr
      · exact hr.2.symm
      · exact absurd z hr.1
    · rcases hr with hr | hr
      · exact absurd hr.1 z
      · exact hr.2.symm
  refine gx_pre (fk := fk) (by omega) (fun cx cy cw hH => qx_en (s := (np, px, py, pc)) hG2 hH (by show np < 81; omega) (fun z cx cy cw cd _ => And.intro rfl (Yyes 1 _ ?_ (Or.inr ⟨z, rfl⟩))) (fun z cx cy cw cd _ => And.intro rfl (Yyes 0 _ ?_ (Or.inl ⟨z, rfl⟩))))
  · rintro _ ⟨fe, ex, ey, ew, ds, rfl⟩
    exact zr_mk R
  · rintro _ ⟨fe, ex, ey, ew, ds, rfl⟩
    exact zr_mk R
/-! the status of an access: one answer r for both sides -/
def qs_lo (np : Nat) (px py pc ro ra rv rc rP : Nat → Int32) (k : Nat) : Prop := ¬ ed_sat (ed_push (ed_ctx (np, px, py, pc) ro ra rv rc rP k k) (rv k) 0 ((-(rc k)) - 1))
def qs_hi (np : Nat) (px py pc ro ra rv rc rP lv lc : Nat → Int32) (k : Nat) : Prop := ¬ ed_sat (ed_push (ed_ctx (np, px, py, pc) ro ra rv rc rP k k) (lv (ra k).toNatClampNeg) (rv k) (rc k - lc (ra k).toNatClampNeg))
def qs_St (n np : Nat) (px py pc ro ra rv rc rP lv lc : Nat → Int32) (x r : Int32) : Prop :=
  ((∀ k, k < n → x = nI k → ¬ (ro k = 5 ∨ ro k = 6 ∨ ro k = 7)) ∧ r = 0) ∨
  ∃ k, k < n ∧ x = nI k ∧ (ro k = 5 ∨ ro k = 6 ∨ ro k = 7) ∧
    ((qs_lo np px py pc ro ra rv rc rP k ∧ qs_hi np px py pc ro ra rv rc rP lv lc k ∧ r = 1) ∨
     (¬ qs_lo np px py pc ro ra rv rc rP k ∧ qs_hi np px py pc ro ra rv rc rP lv lc k ∧ r = 2) ∨
     (qs_lo np px py pc ro ra rv rc rP k ∧ ¬ qs_hi np px py pc ro ra rv rc rP lv lc k ∧ r = 3) ∨
     (¬ qs_lo np px py pc ro ra rv rc rP k ∧ ¬ qs_hi np px py pc ro ra rv rc rP lv lc k ∧ r = 4))
section
variable {kc pq n m np : Nat} {s : Nat → Nat} {K1 K2 fn fm fp fa ft fk fe : Int32} {ro ra rv rc rP rS px py pc lv lc ce vx le cx cy cw cd vy ex ey ew ds hi : Nat → Int32}
theorem qs_ex (x : Int32) : ∃ r, qs_St n np px py pc ro ra rv rc rP lv lc x r := by
  by_cases h : ∃ k, k < n ∧ x = nI k ∧ (ro k = 5 ∨ ro k = 6 ∨ ro k = 7)
  · obtain ⟨k, h1, h2, h3⟩ := h
    by_cases a : qs_lo np px py pc ro ra rv rc rP k
    · by_cases b : qs_hi np px py pc ro ra rv rc rP lv lc k
      · exact ⟨1, Or.inr ⟨k, h1, h2, h3, Or.inl ⟨a, b, rfl⟩⟩⟩
      · exact ⟨3, Or.inr ⟨k, h1, h2, h3, Or.inr (Or.inr (Or.inl ⟨a, b, rfl⟩))⟩⟩
    · by_cases b : qs_hi np px py pc ro ra rv rc rP lv lc k
      · exact ⟨2, Or.inr ⟨k, h1, h2, h3, Or.inr (Or.inl ⟨a, b, rfl⟩)⟩⟩
      · exact ⟨4, Or.inr ⟨k, h1, h2, h3, Or.inr (Or.inr (Or.inr ⟨a, b, rfl⟩))⟩⟩
  · exact ⟨0, Or.inl ⟨fun k h1 h2 h3 => h ⟨k, h1, h2, h3⟩, rfl⟩⟩
theorem zr_ac (R : zR kc pq n m np s ro ra rv rc rP rS px py pc lv lc vx vy) {k : Nat} (hk : k < n) (h : ro k = 5 ∨ ro k = 6 ∨ ro k = 7) : zS (ra k) ∧ ns_Bd ro ra k (rv k) ∧ ns_K (rc k) := by
  rcases R.2.2.2.1 k hk with g | g | g | g | g
  · rw [g.1] at h; exact absurd h (by decide)
  · rw [g.1] at h; exact absurd h (by decide)
  · rw [g] at h; exact absurd h (by decide)
  · rw [g.1] at h; exact absurd h (by decide)
  · exact ⟨g.2.1, g.2.2.1, g.2.2.2⟩
/-- an instruction that isn't an access has a code below 5 -/
theorem zr_na (R : zR kc pq n m np s ro ra rv rc rP rS px py pc lv lc vx vy) {k : Nat} (hk : k < n) (h : ¬ (ro k = 5 ∨ ro k = 6 ∨ ro k = 7)) : ¬ 5 ≤ ro k := by
  rcases R.2.2.2.1 k hk with g | g | g | g | g
  · rw [g.1]; decide
  · rw [g.1]; decide
  · rw [g]; decide
  · rw [g.1]; decide
  · exact absurd g.1 h
theorem qs_x (R : zR kc pq n m np s ro ra rv rc rP rS px py pc lv lc vx vy) {x r : Int32} (hS : qs_St n np px py pc ro ra rv rc rP lv lc x r) {post : Int32 → SX → Prop}
    (h : ∀ (fk : Int32) (cx cy cw cd : Nat → Int32), post r (nI kc, nI pq, nI n, nI m, nI np, fa, ft, fk, ro, ra, rv, rc, rP, rS, px, py, pc, lv, lc, ce, vx, le, cx, cy, cw, cd)) : wpX_accessStatus post (nI kc, nI pq, nI n, nI m, nI np, fa, ft, fk, ro, ra, rv, rc, rP, rS, px, py, pc, lv, lc, ce, vx, le, cx, cy, cw, cd) x := by
  have b := R.1
  rcases hS with ⟨hno, rfl⟩ | ⟨k, hk, rfl, ha, hr⟩
  · by_cases h0 : x < 0
    · exact br_t h0 (h _ _ _ _ _)
    · obtain ⟨j, hj, rfl⟩ := nI_of h0
      by_cases h1 : j < n
      · refine br_f h0 (br_f (nI_ge h1 (by omega)) (And.intro (vp_in_nI (by omega) (by omega)) ?_))
        rw [nI_clamp hj]
        exact sx_ac (fun z => absurd z (hno j h1 rfl)) (fun _ => br_t rfl (h _ _ _ _ _))
      · exact br_f h0 (br_t (nI_le (by omega) hj) (h _ _ _ _ _))
  · obtain ⟨w1, w2, w3⟩ := zr_ac R hk ha
    have w31 := w3.1
    have w32 := w3.2
    have e : (nI k).toNatClampNeg = k := nI_clamp (by omega)
    have hin : vp_in (nI k) 32 := vp_in_nI (by omega) (by omega)
    have hV := zr_bd R (by omega) w2
    have hG := zr_Gc R (show k ≤ n by omega)
    have hc : (ed_ctx (np, px, py, pc) ro ra rv rc rP k k).1 ≤ np + 2 * k := ed_c1 k
    obtain ⟨j, hj, ej, _⟩ := zq_n (k := 3) w1.1 w1.2
    have ec : (ra k).toNatClampNeg = j := by rw [ej]; exact nI_clamp (by omega)
    have hin4 : vp_in (ra k) 4 := by rw [ej]; exact vp_in_nI (by omega) (by omega)
    obtain ⟨l1, l2⟩ := R.2.2.2.2.2.1 j (by omega)
    have en := zq_ng (c := rc k) (by omega) (by omega)
    have hG1 : ed_G (ed_push (ed_ctx (np, px, py, pc) ro ra rv rc rP k k) (rv k) 0 ((-(rc k)) - 1)) := ed_G_push hG hV ed_V0 (by omega) (by omega)
    have ed := zq_df w3 l2
    have l21 := l2.1
    have l22 := l2.2
    have hG2 : ed_G (ed_push (ed_ctx (np, px, py, pc) ro ra rv rc rP k k) (lv (ra k).toNatClampNeg) (rv k) ((-((lc (ra k).toNatClampNeg - 1) - rc k)) - 1)) := by
      rw [zq_hi, ec]
      exact ed_G_push hG (zS_V l1) hV (by omega) (by omega)
    refine br_f (nI_pos (by omega)) (br_f (nI_ge hk (by omega)) (And.intro hin ?_))
    rw [e]
    refine sx_ac (fun _ => br_f (by decide) ?_) (fun z => absurd ha z)
    refine And.intro hin (nm_e (And.intro hin (nm_e (And.intro hin (nm_e ?_)))))
    refine gx_ctx (fk := fk) (by omega) (by omega) (fun cx cy cw hH => ?_)
    have fin : ∀ r2 : Int32, (qs_lo np px py pc ro ra rv rc rP k ∧ r2 = 1 ∨ ¬ qs_lo np px py pc ro ra rv rc rP k ∧ r2 = 0) → ∀ cx cy cw cd : Nat → Int32, ed_H (ed_ctx (np, px, py, pc) ro ra rv rc rP k k) cx cy cw →
        wpX_constraintsEntail (fun r_68 u => match u with | (K1, K2, fn, fm, fp, fa, ft, fk, ro, ra, rv, rc, rP, rS, px, py, pc, lv, lc, ce, vx, le, cx, cy, cw, cd) => (((r2 = 0 → (((r_68 = 0 → (post 4 (K1, K2, fn, fm, fp, fa, ft, fk, ro, ra, rv, rc, rP, rS, px, py, pc, lv, lc, ce, vx, le, cx, cy, cw, cd))) ∧ (¬ r_68 = 0 → (post 2 (K1, K2, fn, fm, fp, fa, ft, fk, ro, ra, rv, rc, rP, rS, px, py, pc, lv, lc, ce, vx, le, cx, cy, cw, cd)))))) ∧ (¬ r2 = 0 → (((r_68 = 0 → (post 3 (K1, K2, fn, fm, fp, fa, ft, fk, ro, ra, rv, rc, rP, rS, px, py, pc, lv, lc, ce, vx, le, cx, cy, cw, cd))) ∧ (¬ r_68 = 0 → (post 1 (K1, K2, fn, fm, fp, fa, ft, fk, ro, ra, rv, rc, rP, rS, px, py, pc, lv, lc, ce, vx, le, cx, cy, cw, cd))))))))) (nI kc, nI pq, nI n, nI m, nI np, fa, ft, nI (ed_ctx (np, px, py, pc) ro ra rv rc rP k k).1, ro, ra, rv, rc, rP, rS, px, py, pc, lv, lc, ce, vx, le, cx, cy, cw, cd) (rv k) (lv (ra k).toNatClampNeg) ((lc (ra k).toNatClampNeg - 1) - rc k) := by
      intro r2 hr2 cx cy cw cd hH
      refine qx_en hG2 hH (by omega) (fun z cx cy cw cd _ => ?_) (fun z cx cy cw cd _ => ?_)
      · rw [zq_hi] at z
        have hh : qs_hi np px py pc ro ra rv rc rP lv lc k := z
        rcases hr2 with ⟨a, rfl⟩ | ⟨a, rfl⟩
        · refine br_f (by decide) (br_f (by decide) ?_)
          rcases hr with q | q | q | q
          · rw [← q.2.2]; exact h _ _ _ _ _
          · exact absurd a q.1
          · exact absurd hh q.2.1
          · exact absurd a q.1
        · refine br_t rfl (br_f (by decide) ?_)
          rcases hr with q | q | q | q
          · exact absurd q.1 a
          · rw [← q.2.2]; exact h _ _ _ _ _
          · exact absurd q.1 a
          · exact absurd hh q.2.1
      · rw [zq_hi] at z
        have hh : ¬ qs_hi np px py pc ro ra rv rc rP lv lc k := fun w => w z
        rcases hr2 with ⟨a, rfl⟩ | ⟨a, rfl⟩
        · refine br_f (by decide) (br_t rfl ?_)
          rcases hr with q | q | q | q
          · exact absurd q.2.1 hh
          · exact absurd q.2.1 hh
          · rw [← q.2.2]; exact h _ _ _ _ _
          · exact absurd a q.1
        · refine br_t rfl (br_t rfl ?_)
          rcases hr with q | q | q | q
          · exact absurd q.2.1 hh
          · exact absurd q.2.1 hh
          · exact absurd q.1 a
          · rw [← q.2.2]; exact h _ _ _ _ _
    refine qx_en hG1 hH (by omega) (fun z cx cy cw cd hH => And.intro hin4 (And.intro hin4 (fin 1 (Or.inl ⟨z, rfl⟩) cx cy cw cd hH))) (fun z cx cy cw cd hH => And.intro hin4 (And.intro hin4 (fin 0 (Or.inr ⟨fun w => w z, rfl⟩) cx cy cw cd hH)))
theorem qs_y (R : zR kc pq n m np s ro ra rv rc rP rS px py pc lv lc vx vy) {x r : Int32} (hS : qs_St n np px py pc ro ra rv rc rP lv lc x r) {post : Int32 → SY → Prop}
    (h : ∀ (fe : Int32) (ex ey ew ds : Nat → Int32), post r (nI kc, nI pq, nI n, nI np, fa, ft, fe, ro, ra, rv, rc, px, py, pc, lv, lc, vy, ce, ex, ey, ew, ds, hi)) : wpY_accessStatus post (nI kc, nI pq, nI n, nI np, fa, ft, fe, ro, ra, rv, rc, px, py, pc, lv, lc, vy, ce, ex, ey, ew, ds, hi) x := by
  have b := R.1
  rcases hS with ⟨hno, rfl⟩ | ⟨k, hk, rfl, ha, hr⟩
  · by_cases h0 : x < 0
    · exact br_t h0 (h _ _ _ _ _)
    · obtain ⟨j, hj, rfl⟩ := nI_of h0
      by_cases h1 : j < n
      · refine br_f h0 (br_t (nI_lt h1 (by omega)) (And.intro (vp_in_nI (by omega) (by omega)) ?_))
        rw [nI_clamp hj]
        exact br_f (zr_na R h1 (hno j h1 rfl)) (h _ _ _ _ _)
      · exact br_f h0 (br_f (nI_nlt (by omega) hj) (h _ _ _ _ _))
  · obtain ⟨w1, w2, w3⟩ := zr_ac R hk ha
    have w31 := w3.1
    have w32 := w3.2
    have e : (nI k).toNatClampNeg = k := nI_clamp (by omega)
    have hin : vp_in (nI k) 32 := vp_in_nI (by omega) (by omega)
    have hV := zr_bd R (by omega) w2
    have hG := zr_Gc R (show k ≤ n by omega)
    have hc : (ed_ctx (np, px, py, pc) ro ra rv rc rP k k).1 ≤ np + 2 * k := ed_c1 k
    obtain ⟨j, hj, ej, _⟩ := zq_n (k := 3) w1.1 w1.2
    have ec : (ra k).toNatClampNeg = j := by rw [ej]; exact nI_clamp (by omega)
    have hin4 : vp_in (ra k) 4 := by rw [ej]; exact vp_in_nI (by omega) (by omega)
    obtain ⟨l1, l2⟩ := R.2.2.2.2.2.1 j (by omega)
    have en := zq_ng (c := rc k) (by omega) (by omega)
    have hG1 : ed_G (ed_push (ed_ctx (np, px, py, pc) ro ra rv rc rP k k) (rv k) 0 ((-(rc k)) - 1)) := ed_G_push hG hV ed_V0 (by omega) (by omega)
    have ed := zq_df w3 l2
    have l21 := l2.1
    have l22 := l2.2
    have hG2 : ed_G (ed_push (ed_ctx (np, px, py, pc) ro ra rv rc rP k k) (lv (ra k).toNatClampNeg) (rv k) (rc k - lc (ra k).toNatClampNeg)) := by
      rw [ec]
      exact ed_G_push hG (zS_V l1) hV (by omega) (by omega)
    have h5 : 5 ≤ ro k := by rcases ha with z | z | z <;> rw [z] <;> decide
    refine br_f (nI_pos (by omega)) (br_t (nI_lt hk (by omega)) (And.intro hin ?_))
    rw [e]
    refine br_t h5 (And.intro hin (nm_e (And.intro hin (nm_e (And.intro hin (And.intro hin4 (nm_e (And.intro hin (And.intro hin4 (nm_e ?_))))))))))
    have fin : ∀ r2 : Int32, (qs_lo np px py pc ro ra rv rc rP k ∧ r2 = 1 ∨ ¬ qs_lo np px py pc ro ra rv rc rP k ∧ r2 = 0) → ∀ (fe : Int32) (ex ey ew ds : Nat → Int32),
        wY_accessStatus_93 post (nI k) (rv k) (rc k) (lv (ra k).toNatClampNeg) (lc (ra k).toNatClampNeg) r2 (nI kc) (nI pq) (nI n) (nI np) fa ft fe ro ra rv rc px py pc lv lc vy ce ex ey ew ds hi := by
      intro r2 hr2 fe ex ey ew ds
      refine gy_base (fe := fe) (by omega) (by omega) (by omega) (zr_P R) (fun ex ey ew hH => gy_add (by omega) _ _ _ (so_y hG2 (ed_H_push hH _ _ _) (by show _ + 1 ≤ 81; omega) (fun z ds => ?_) (fun z ds => ?_)))
      · have hh : ¬ qs_hi np px py pc ro ra rv rc rP lv lc k := fun w => w z
        refine br_f (by decide) ?_
        rcases hr2 with ⟨a, rfl⟩ | ⟨a, rfl⟩
        · refine br_f (by decide) (br_t rfl (br_t rfl (br_f (by decide) ?_)))
          rcases hr with q | q | q | q
          · exact absurd q.2.1 hh
          · exact absurd q.2.1 hh
          · rw [← q.2.2]; exact h _ _ _ _ _
          · exact absurd a q.1
        · refine br_t rfl (br_t rfl (br_t rfl ?_))
          rcases hr with q | q | q | q
          · exact absurd q.2.1 hh
          · exact absurd q.2.1 hh
          · exact absurd q.1 a
          · rw [← q.2.2]; exact h _ _ _ _ _
      · have hh : qs_hi np px py pc ro ra rv rc rP lv lc k := z
        refine br_t rfl ?_
        rcases hr2 with ⟨a, rfl⟩ | ⟨a, rfl⟩
        · refine br_f (by decide) (br_f (by decide) ?_)
          rcases hr with q | q | q | q
          · rw [← q.2.2]; exact h _ _ _ _ _
          · exact absurd a q.1
          · exact absurd hh q.2.1
          · exact absurd a q.1
        · refine br_t rfl (br_f (by decide) ?_)
          rcases hr with q | q | q | q
          · exact absurd q.1 a
          · rw [← q.2.2]; exact h _ _ _ _ _
          · exact absurd q.1 a
          · exact absurd hh q.2.1
    refine gy_base (fe := fe) (by omega) (by omega) (by omega) (zr_P R) (fun ex ey ew hH => gy_add (by omega) _ _ _ (so_y hG1 (ed_H_push hH _ _ _) (by show _ + 1 ≤ 81; omega) (fun z ds => ?_) (fun z ds => ?_)))
    · exact br_f (by decide) (fin 0 (Or.inr ⟨fun w => w z, rfl⟩) _ _ _ _ _)
    · exact br_t rfl (fin 1 (Or.inl ⟨z, rfl⟩) _ _ _ _ _)
/-- check, in lockstep: one answer for both sides -/
theorem qc_l (R : zR kc pq n m np s ro ra rv rc rP rS px py pc lv lc vx vy) : ∀ t k : Nat, k + t = n → ∃ r : Int32,
    (∀ post : Int32 → SX → Prop, (∀ (fk : Int32) (cx cy cw cd : Nat → Int32), post r (nI kc, nI pq, nI n, nI m, nI np, fa, ft, fk, ro, ra, rv, rc, rP, rS, px, py, pc, lv, lc, ce, vx, le, cx, cy, cw, cd)) → ∀ (fk : Int32) (cx cy cw cd : Nat → Int32), wX_check_12 post (t + 1) (nI k) (nI kc) (nI pq) (nI n) (nI m) (nI np) fa ft fk ro ra rv rc rP rS px py pc lv lc ce vx le cx cy cw cd) ∧
    (∀ post : Int32 → SY → Prop, (∀ (fe : Int32) (ex ey ew ds : Nat → Int32), post r (nI kc, nI pq, nI n, nI np, fa, ft, fe, ro, ra, rv, rc, px, py, pc, lv, lc, vy, ce, ex, ey, ew, ds, hi)) → ∀ (fe : Int32) (ex ey ew ds : Nat → Int32), wY_check_12 post (t + 1) (nI k) (nI kc) (nI pq) (nI n) (nI np) fa ft fe ro ra rv rc px py pc lv lc vy ce ex ey ew ds hi) := by
  have b := R.1
  intro t
  induction t with
  | zero =>
    intro k hk
    exact ⟨-1, fun post h _ _ _ _ _ => br_t (nI_le (by omega) (by omega)) (h _ _ _ _ _), fun post h _ _ _ _ _ => br_t (nI_le (by omega) (by omega)) (h _ _ _ _ _)⟩
  | succ t ih =>
    intro k hk
    obtain ⟨q, hq⟩ := qs_ex (n := n) (np := np) (px := px) (py := py) (pc := pc) (ro := ro) (ra := ra) (rv := rv) (rc := rc) (rP := rP) (lv := lv) (lc := lc) (nI k)
    obtain ⟨r, hX, hY⟩ := ih (k + 1) (by omega)
    by_cases q0 : q = 0
    · refine ⟨r, fun post h fk cx cy cw cd => br_f (nI_ge (by omega) (by omega)) (qs_x R hq (fun fk cx cy cw cd => br_t q0 (nm_r (nI_1 k) (hX post h fk cx cy cw cd)))), fun post h fe ex ey ew ds => br_f (nI_ge (by omega) (by omega)) (qs_y R hq (fun fe ex ey ew ds => br_f (by rw [q0]; decide) (br_t q0 (nm_r (nI_1 k) (hY post h fe ex ey ew ds)))))⟩
    · by_cases q1 : q = 1
      · refine ⟨r, fun post h fk cx cy cw cd => br_f (nI_ge (by omega) (by omega)) (qs_x R hq (fun fk cx cy cw cd => br_f q0 (br_t q1 (nm_r (nI_1 k) (hX post h fk cx cy cw cd))))), fun post h fe ex ey ew ds => br_f (nI_ge (by omega) (by omega)) (qs_y R hq (fun fe ex ey ew ds => br_t q1 (nm_r (nI_1 k) (hY post h fe ex ey ew ds))))⟩
      · exact ⟨nI k, fun post h fk cx cy cw cd => br_f (nI_ge (by omega) (by omega)) (qs_x R hq (fun fk cx cy cw cd => br_f q0 (br_f q1 (h fk cx cy cw cd)))), fun post h fe ex ey ew ds => br_f (nI_ge (by omega) (by omega)) (qs_y R hq (fun fe ex ey ew ds => br_f q1 (br_f q0 (h fe ex ey ew ds))))⟩
end
theorem i_vc_accessStatus {k : Nat} {u : SX} {v : SY} (I : i_Rel k u v) (hk : k + 5 ≤ 2562) (v1 : Int32) : wpX_accessStatus (fun r u' => wpY_accessStatus (fun r' v' => r' = r ∧ i_Rel (k + 5) u' v') v v1) u v1 := by
  obtain ⟨kc, pq, n, m, np, s, fa, ft, fk, fe, ro, ra, rv, rc, rP, rS, px, py, pc, lv, lc, ce, vx, le, cx, cy, cw, cd, vy, ex, ey, ew, ds, hi, rfl, rfl, R⟩ := I
  obtain ⟨q, hq⟩ := qs_ex (n := n) (np := np) (px := px) (py := py) (pc := pc) (ro := ro) (ra := ra) (rv := rv) (rc := rc) (rP := rP) (lv := lv) (lc := lc) v1
  exact qs_x R hq (fun fk cx cy cw cd => qs_y R hq (fun fe ex ey ew ds => ⟨rfl, zr_mk R⟩))
theorem i_vc_check {k : Nat} {u : SX} {v : SY} (I : i_Rel k u v) (hk : k + 5 ≤ 2562) : wpX_check (fun r u' => wpY_check (fun r' v' => r' = r ∧ i_Rel (k + 5) u' v') v) u := by
  obtain ⟨kc, pq, n, m, np, s, fa, ft, fk, fe, ro, ra, rv, rc, rP, rS, px, py, pc, lv, lc, ce, vx, le, cx, cy, cw, cd, vy, ex, ey, ew, ds, hi, rfl, rfl, R⟩ := I
  have b := R.1
  by_cases h0 : 0 < m
  · refine br_f (nI_nle h0 (by omega)) (sy_ao (by omega) (fun _ => br_f (by decide) ⟨rfl, zr_mk R⟩) (fun z => absurd ((zr_ao R).mp h0) z))
  · have e : m = 0 := by omega
    subst e
    obtain ⟨r, hX, hY⟩ := qc_l R n 0 (by omega)
    refine br_t (by decide) (Exists.intro _ (hX _ (fun fk cx cy cw cd => ?_) fk cx cy cw cd))
    refine sy_ao (by omega) (fun z => absurd ((zr_ao R).mpr z) h0) (fun _ => br_t rfl (Exists.intro _ (hY _ (fun fe ex ey ew ds => ⟨rfl, zr_mk R⟩) fe ex ey ew ds)))
