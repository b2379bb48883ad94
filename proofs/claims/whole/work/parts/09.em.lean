/-! emit -/
def em_OL (ro ra : Nat → Int32) (n : Nat) (x : Int32) : Prop := ∃ j d, j < n ∧ ro j = 1 ∧ ra j = x ∧ ns_at ro j n = .inl d
def em_MA (ro ra : Nat → Int32) (n m : Nat) (op x y w : Int32) : Prop :=
  (op = 1 ∧ (4 ≤ x.toInt ∧ x.toInt ≤ 7) ∧ ¬ em_OL ro ra n x ∧ ns_Bd ro ra n y ∧ ns_K w) ∨
  (op = 2 ∧ ns_Bd ro ra n x ∧ ns_Bd ro ra n y ∧ ns_K w) ∨
  (op = 3 ∧ 0 < m) ∨
  (op = 4 ∧ ns_K w) ∨
  ((op = 5 ∨ op = 6 ∨ op = 7) ∧ zS x ∧ ns_Bd ro ra n y ∧ ns_K w)
section
variable {ro ra : Nat → Int32} {n m : Nat} {op x y w : Int32}
theorem em_1 (z : em_MA ro ra n m 1 x y w) : (4 ≤ x.toInt ∧ x.toInt ≤ 7) ∧ ¬ em_OL ro ra n x ∧ ns_Bd ro ra n y ∧ ns_K w := by
  rcases z with z | z | z | z | z
  · exact z.2
  · exact absurd z.1 (by decide)
  · exact absurd z.1 (by decide)
  · exact absurd z.1 (by decide)
  · exact absurd z.1 (by decide)
theorem em_2 (z : em_MA ro ra n m 2 x y w) : ns_Bd ro ra n x ∧ ns_Bd ro ra n y ∧ ns_K w := by
  rcases z with z | z | z | z | z
  · exact absurd z.1 (by decide)
  · exact z.2
  · exact absurd z.1 (by decide)
  · exact absurd z.1 (by decide)
  · exact absurd z.1 (by decide)
theorem em_3 (z : em_MA ro ra n m 3 x y w) : 0 < m := by
  rcases z with z | z | z | z | z
  · exact absurd z.1 (by decide)
  · exact absurd z.1 (by decide)
  · exact z.2
  · exact absurd z.1 (by decide)
  · exact absurd z.1 (by decide)
theorem em_4 (z : em_MA ro ra n m 4 x y w) : ns_K w := by
  rcases z with z | z | z | z | z
  · exact absurd z.1 (by decide)
  · exact absurd z.1 (by decide)
  · exact absurd z.1 (by decide)
  · exact z.2
  · exact absurd z.1 (by decide)
theorem em_567 {a : Int32} (h : a = 5 ∨ a = 6 ∨ a = 7) : ¬ a < 1 ∧ ¬ 7 < a ∧ a ≤ 7 ∧ ¬ a = 1 ∧ ¬ a = 2 ∧ ¬ a = 3 ∧ ¬ a = 4 := by
  rcases h with z | z | z <;> rw [z] <;> decide
theorem em_5 (h : op = 5 ∨ op = 6 ∨ op = 7) (z : em_MA ro ra n m op x y w) : zS x ∧ ns_Bd ro ra n y ∧ ns_K w := by
  obtain ⟨_, _, _, a1, a2, a3, a4⟩ := em_567 h
  rcases z with z | z | z | z | z
  · exact absurd z.1 a1
  · exact absurd z.1 a2
  · exact absurd z.1 a3
  · exact absurd z.1 a4
  · exact z.2
theorem em_rg (z : em_MA ro ra n m op x y w) : ¬ op < 1 ∧ ¬ 7 < op := by
  rcases z with z | z | z | z | z
  · rw [z.1]; decide
  · rw [z.1]; decide
  · rw [z.1]; decide
  · rw [z.1]; decide
  · exact ⟨(em_567 z.1).1, (em_567 z.1).2.1⟩
/-- a code between 1 and 7 is one of the seven -/
theorem em_7 (h1 : ¬ op < 1) (h7 : ¬ 7 < op) : op = 1 ∨ op = 2 ∨ op = 3 ∨ op = 4 ∨ (op = 5 ∨ op = 6 ∨ op = 7) := by
  rw [Int32.lt_iff_toInt_lt, zq_1] at h1
  rw [Int32.lt_iff_toInt_lt, zq_7] at h7
  obtain ⟨j, hj, e, ej⟩ := zq_n (x := op) (k := 7) (by omega) (by omega)
  have : j = 1 ∨ j = 2 ∨ j = 3 ∨ j = 4 ∨ j = 5 ∨ j = 6 ∨ j = 7 := by omega
  rcases this with z | z | z | z | z | z | z <;> subst z <;> rw [e]
  · exact Or.inl rfl
  · exact Or.inr (Or.inl rfl)
  · exact Or.inr (Or.inr (Or.inl rfl))
  · exact Or.inr (Or.inr (Or.inr (Or.inl rfl)))
  · exact Or.inr (Or.inr (Or.inr (Or.inr (Or.inl rfl))))
  · exact Or.inr (Or.inr (Or.inr (Or.inr (Or.inr (Or.inl rfl)))))
  · exact Or.inr (Or.inr (Or.inr (Or.inr (Or.inr (Or.inr rfl)))))
theorem em_Bd {z : Int32} (h : ns_Bd ro ra n z) : ns_Bd (upd ro n op) (upd ra n x) n z := ns_Bd_x (fun i hi => ns_uo (by omega)) (fun i hi => ns_uo (by omega)) h
theorem em_wf {rv rc : Nat → Int32} (z : em_MA ro ra n m op x y w) : ns_WF (upd ro n op) (upd ra n x) (upd rv n y) (upd rc n w) n := by
  unfold ns_WF
  rw [ns_us, ns_us, ns_us, ns_us]
  rcases z with z | z | z | z | z
  · refine Or.inl ⟨z.1, z.2.1, ?_, em_Bd z.2.2.2.1, z.2.2.2.2⟩
    intro j d hj h1 h2 h3
    rw [ns_uo (by omega)] at h1 h3
    rw [ns_ux] at h2
    exact z.2.2.1 ⟨j, d, hj, h1, h3, h2⟩
  · exact Or.inr (Or.inl ⟨z.1, em_Bd z.2.1, em_Bd z.2.2.1, z.2.2.2⟩)
  · exact Or.inr (Or.inr (Or.inl z.1))
  · exact Or.inr (Or.inr (Or.inr (Or.inl z)))
  · exact Or.inr (Or.inr (Or.inr (Or.inr ⟨z.1, z.2.1, em_Bd z.2.2.1, z.2.2.2⟩)))
end
section
variable {post : Int32 → Prop} {kc pq n m np : Nat} {s : Nat → Nat} {K1 K2 fn fm fp fa ft fk fe : Int32} {ro ra rv rc rP rS px py pc lv lc ce vx le cx cy cw cd vy ex ey ew ds hi : Nat → Int32}
theorem ex_ol_l {x : Int32} (hm : m ≤ 32) (hS : ∀ i, i < m → rS i = nI (s i) ∧ s i < 32) (h1 : (∃ i, i < m ∧ ro (s i) = 1 ∧ ra (s i) = x) → post 1) (h0 : ¬ (∃ i, i < m ∧ ro (s i) = 1 ∧ ra (s i) = x) → post 0) :
    ∀ t i : Nat, i + t = m → (∀ q, q < i → ¬ (ro (s q) = 1 ∧ ra (s q) = x)) → wX_isOpenLoopVariable_2 post x K1 K2 fn (nI m) fp fa ft fk ro ra rv rc rP rS px py pc lv lc ce vx le cx cy cw cd (t + 1) (nI i) := by
  intro t
  induction t with
  | zero =>
    intro i hi hp
    exact br_t (nI_le (by omega) (by omega)) (h0 fun z => by obtain ⟨q, hq, z⟩ := z; exact hp q (by omega) z)
  | succ t ih =>
    intro i hi hp
    obtain ⟨e1, e2⟩ := hS i (by omega)
    have e : (nI i).toNatClampNeg = i := nI_clamp (by omega)
    have es : (nI (s i)).toNatClampNeg = s i := nI_clamp (by omega)
    have nx : ¬ (ro (s i) = 1 ∧ ra (s i) = x) → wX_isOpenLoopVariable_2 post x K1 K2 fn (nI m) fp fa ft fk ro ra rv rc rP rS px py pc lv lc ce vx le cx cy cw cd (t + 1) (nI (i + 1)) := by
      intro hk
      refine ih (i + 1) (by omega) ?_
      intro q hq
      by_cases z : q = i
      · rw [z]; exact hk
      · exact hp q (by omega)
    refine br_f (nI_ge (by omega) (by omega)) (And.intro (vp_in_nI (by omega) (by omega)) ?_)
    rw [e]
    refine nm_r e1 (And.intro (vp_in_nI e2 (by omega)) ?_)
    rw [es]
    refine br_c (fun z1 => And.intro (vp_in_nI e2 (by omega)) (br_c (fun z2 => h1 ⟨i, by omega, z1, z2⟩) (fun z2 => nm_r (nI_1 i) (nx (fun z => z2 z.2))))) (fun z1 => nm_r (nI_1 i) (nx (fun z => z1 z.1)))
theorem ex_ol (R : zR kc pq n m np s ro ra rv rc rP rS px py pc lv lc vx vy) {x : Int32} (h1 : em_OL ro ra n x → post 1) (h0 : ¬ em_OL ro ra n x → post 0) : wpX_isOpenLoopVariable post (K1, K2, fn, nI m, fp, fa, ft, fk, ro, ra, rv, rc, rP, rS, px, py, pc, lv, lc, ce, vx, le, cx, cy, cw, cd) x :=
  have b := R.1
  Exists.intro _ (ex_ol_l (s := s) (by omega) (fun i hi => ⟨R.2.1 i hi, by have := (R.2.2.1.1 i hi).1; omega⟩) (fun z => h1 ((zr_ol R).mp z)) (fun z => h0 (fun w => z ((zr_ol R).mpr w))) m 0 (by omega) (fun _ h => absurd h (Nat.not_lt_zero _)))
theorem ex_bd (R : zR kc pq n m np s ro ra rv rc rP rS px py pc lv lc vx vy) {x : Int32} (h1 : ns_Bd ro ra n x → post 1) (h0 : ¬ ns_Bd ro ra n x → post 0) : wpX_isBound post (K1, K2, fn, nI m, fp, fa, ft, fk, ro, ra, rv, rc, rP, rS, px, py, pc, lv, lc, ce, vx, le, cx, cy, cw, cd) x := by
  unfold wpX_isBound
  exact sx_sv (fun g => br_f (by decide) (h1 (Or.inl g))) (fun g => br_t rfl (ex_ol R (fun z => br_f (by decide) (h1 (Or.inr z))) (fun z => br_t rfl (h0 (fun q => q.elim (fun q => g q) (fun q => z q))))))
theorem ex_130 (R : zR kc pq n m np s ro ra rv rc rP rS px py pc lv lc vx vy) {x y w : Int32} (h1 : zS x ∧ ns_Bd ro ra n y ∧ ns_K w → post 1) (h0 : ¬ (zS x ∧ ns_Bd ro ra n y ∧ ns_K w) → post 0) : wX_mayAppend_130 post x y w K1 K2 fn (nI m) fp fa ft fk ro ra rv rc rP rS px py pc lv lc ce vx le cx cy cw cd :=
  sx_ar (fun g1 => br_f (by decide) (ex_bd R (fun g2 => br_f (by decide) (sx_k (fun g3 => br_f (by decide) (h1 ⟨g1, g2, g3⟩)) (fun g3 => br_t rfl (h0 (fun z => g3 z.2.2))))) (fun g2 => br_t rfl (h0 (fun z => g2 z.2.1))))) (fun g1 => br_t rfl (h0 (fun z => g1 z.1)))
theorem ex_ma (R : zR kc pq n m np s ro ra rv rc rP rS px py pc lv lc vx vy) {op x y w : Int32} (h1 : em_MA ro ra n m op x y w → post 1) (h0 : ¬ em_MA ro ra n m op x y w → post 0) : wpX_mayAppend post (K1, K2, fn, nI m, fp, fa, ft, fk, ro, ra, rv, rc, rP, rS, px, py, pc, lv, lc, ce, vx, le, cx, cy, cw, cd) op x y w := by
  have b := R.1
  by_cases c1 : op < 1
  · exact br_t c1 (h0 (fun z => (em_rg z).1 c1))
  by_cases c7 : 7 < op
  · exact br_f c1 (br_t c7 (h0 (fun z => (em_rg z).2 c7)))
  refine br_f c1 (br_f c7 ?_)
  rcases em_7 c1 c7 with e | e | e | e | e
  · subst e
    refine br_t rfl (sx_lv (fun g1 => br_f (by decide) (ex_ol R (fun g2 => br_f (by decide) (h0 (fun z => (em_1 z).2.1 g2))) (fun g2 => br_t rfl (ex_bd R (fun g3 => br_f (by decide) (sx_k (fun g4 => br_f (by decide) (h1 (Or.inl ⟨rfl, g1, g2, g3, g4⟩))) (fun g4 => br_t rfl (h0 (fun z => g4 (em_1 z).2.2.2))))) (fun g3 => br_t rfl (h0 (fun z => g3 (em_1 z).2.2.1))))))) (fun g1 => br_t rfl (h0 (fun z => g1 (em_1 z).1))))
  · subst e
    exact br_f (by decide) (br_t rfl (ex_bd R (fun g1 => br_f (by decide) (ex_bd R (fun g2 => br_f (by decide) (sx_k (fun g3 => br_f (by decide) (h1 (Or.inr (Or.inl ⟨rfl, g1, g2, g3⟩)))) (fun g3 => br_t rfl (h0 (fun z => g3 (em_2 z).2.2))))) (fun g2 => br_t rfl (h0 (fun z => g2 (em_2 z).2.1))))) (fun g1 => br_t rfl (h0 (fun z => g1 (em_2 z).1)))))
  · subst e
    refine br_f (by decide) (br_f (by decide) (br_t rfl ?_))
    by_cases hm : 0 < m
    · exact br_f (nI_nle hm (by omega)) (h1 (Or.inr (Or.inr (Or.inl ⟨rfl, hm⟩))))
    · have e : m = 0 := by omega
      subst e
      exact br_t (by decide) (h0 (fun z => hm (em_3 z)))
  · subst e
    exact br_f (by decide) (br_f (by decide) (br_f (by decide) (br_t rfl (sx_k (fun g => And.intro rfl (h1 (Or.inr (Or.inr (Or.inr (Or.inl ⟨rfl, g⟩)))))) (fun g => And.intro rfl (h0 (fun z => g (em_4 z))))))))
  · obtain ⟨_, _, _, a1, a2, a3, a4⟩ := em_567 e
    have key : wX_mayAppend_130 post x y w K1 K2 fn (nI m) fp fa ft fk ro ra rv rc rP rS px py pc lv lc ce vx le cx cy cw cd := ex_130 R (fun g => h1 (Or.inr (Or.inr (Or.inr (Or.inr ⟨e, g⟩))))) (fun g => h0 (fun z => g (em_5 e z)))
    refine br_f a1 (br_f a2 (br_f a3 (br_f a4 ?_)))
    rcases e with e | e | e
    · exact br_t e key
    · exact br_f (by rw [e]; decide) (br_t e key)
    · exact br_f (by rw [e]; decide) (br_f (by rw [e]; decide) (br_t e key))
end
section
variable {kc pq n m np : Nat} {s : Nat → Nat} {K1 K2 fn fm fp fa ft fk fe : Int32} {ro ra rv rc rP rS px py pc lv lc ce vx le cx cy cw cd vy ex ey ew ds hi : Nat → Int32}
theorem ey_159 {post : Int32 → SY → Prop} {op x y w : Int32} (hn : n < 32) (h : post 1 (K1, K2, nI (n + 1), fp, fa, ft, fe, upd ro n op, upd ra n x, upd rv n y, upd rc n w, px, py, pc, lv, lc, vy, ce, ex, ey, ew, ds, hi)) : wY_emit_159 post op x y w K1 K2 (nI n) fp fa ft fe ro ra rv rc px py pc lv lc vy ce ex ey ew ds hi :=
  have e : (nI n).toNatClampNeg = n := nI_clamp (by omega)
  have hin : vp_in (nI n) 32 := vp_in_nI hn (by omega)
  And.intro hin (nm_r (by rw [e]) (And.intro hin (nm_r (by rw [e]) (And.intro hin (nm_r (by rw [e]) (And.intro hin (nm_r (by rw [e]) (nm_r (nI_1 n) h))))))))
theorem ey_em (R : zR kc pq n m np s ro ra rv rc rP rS px py pc lv lc vx vy) {post : Int32 → SY → Prop} {op x y w : Int32} (hn : n < kc)
    (h1 : em_MA ro ra n m op x y w → post 1 (nI kc, K2, nI (n + 1), fp, fa, ft, fe, upd ro n op, upd ra n x, upd rv n y, upd rc n w, px, py, pc, lv, lc, vy, ce, ex, ey, ew, ds, hi)) (h0 : ¬ em_MA ro ra n m op x y w → post 0 (nI kc, K2, nI n, fp, fa, ft, fe, ro, ra, rv, rc, px, py, pc, lv, lc, vy, ce, ex, ey, ew, ds, hi)) : wpY_emit post (nI kc, K2, nI n, fp, fa, ft, fe, ro, ra, rv, rc, px, py, pc, lv, lc, vy, ce, ex, ey, ew, ds, hi) op x y w := by
  have b := R.1
  have hn32 : n ≤ 32 := by omega
  have hL := zr_loop R
  have hap : em_MA ro ra n m op x y w → wY_emit_159 post op x y w (nI kc) K2 (nI n) fp fa ft fe ro ra rv rc px py pc lv lc vy ce ex ey ew ds hi := fun z => ey_159 (by omega) (h1 z)
  refine br_f (fun z => ?_) ?_
  · have := (nI_eq (by omega) (by omega)).mp z
    omega
  by_cases c1 : op < 1
  · exact br_t c1 (h0 (fun z => (em_rg z).1 c1))
  by_cases c7 : 7 < op
  · exact br_f c1 (br_f (Int32.not_le.mpr c7) (h0 (fun z => (em_rg z).2 c7)))
  refine br_f c1 (br_t (Int32.not_lt.mp c7) ?_)
  rcases em_7 c1 c7 with e | e | e | e | e
  · subst e
    refine br_t rfl (zq_lt rfl zq_4 (fun g => h0 (fun z => ?_)) (fun g => zq_lt zq_7 rfl (fun g2 => h0 (fun z => ?_)) (fun g2 => ?_)))
    · have := (em_1 z).1; omega
    · have := (em_1 z).1; omega
    exact sy_ol hn32 (fun g3 => br_f (by decide) (h0 (fun z => (em_1 z).2.1 g3))) (fun g3 => br_t rfl (sy_bd hn32 hL (fun g4 => br_f (by decide) (sy_bc (fun g5 => br_t rfl (hap (Or.inl ⟨rfl, ⟨g, g2⟩, g3, g4, g5⟩))) (fun g5 => br_f (by decide) (h0 (fun z => g5 (em_1 z).2.2.2))))) (fun g4 => br_t rfl (h0 (fun z => g4 (em_1 z).2.2.1)))))
  · subst e
    exact br_f (by decide) (br_t rfl (sy_bd hn32 hL (fun g1 => br_f (by decide) (sy_bd hn32 hL (fun g2 => br_f (by decide) (sy_bc (fun g3 => br_t rfl (hap (Or.inr (Or.inl ⟨rfl, g1, g2, g3⟩)))) (fun g3 => br_f (by decide) (h0 (fun z => g3 (em_2 z).2.2))))) (fun g2 => br_t rfl (h0 (fun z => g2 (em_2 z).2.1))))) (fun g1 => br_t rfl (h0 (fun z => g1 (em_2 z).1)))))
  · subst e
    exact br_f (by decide) (br_f (by decide) (br_t rfl (sy_ao hn32 (fun g => br_f (by decide) (hap (Or.inr (Or.inr (Or.inl ⟨rfl, (zr_ao R).mpr g⟩))))) (fun g => br_t rfl (h0 (fun z => g ((zr_ao R).mp (em_3 z))))))))
  · subst e
    exact br_f (by decide) (br_f (by decide) (br_f (by decide) (br_t rfl (sy_bc (fun g => br_t rfl (hap (Or.inr (Or.inr (Or.inr (Or.inl ⟨rfl, g⟩)))))) (fun g => br_f (by decide) (h0 (fun z => g (em_4 z))))))))
  · obtain ⟨_, _, _, a1, a2, a3, a4⟩ := em_567 e
    refine br_f a1 (br_f a2 (br_f a3 (br_f a4 (zq_lt rfl zq_0 (fun g => h0 (fun z => ?_)) (fun g => zq_lt zq_3 rfl (fun g2 => h0 (fun z => ?_)) (fun g2 => ?_))))))
    · have := (em_5 e z).1.1; omega
    · have := (em_5 e z).1.2; omega
    exact sy_bd hn32 hL (fun g4 => br_f (by decide) (sy_bc (fun g5 => br_t rfl (hap (Or.inr (Or.inr (Or.inr (Or.inr ⟨e, ⟨g, g2⟩, g4, g5⟩)))))) (fun g5 => br_f (by decide) (h0 (fun z => g5 (em_5 e z).2.2))))) (fun g4 => br_t rfl (h0 (fun z => g4 (em_5 e z).2.1)))
theorem em_R {op x y w : Int32} {m' : Nat} {s' : Nat → Nat} {rP' rS' : Nat → Int32} (R : zR kc pq n m np s ro ra rv rc rP rS px py pc lv lc vx vy) (hn : n < kc) (z : em_MA ro ra n m op x y w)
    (hm : m' ≤ n + 1) (hS : ∀ i, i < m' → rS' i = nI (s' i)) (hP : ns_PI (upd ro n op) rP' s' (n + 1) m') : zR kc pq (n + 1) m' np s' (upd ro n op) (upd ra n x) (upd rv n y) (upd rc n w) rP' rS' px py pc lv lc vx vy := by
  obtain ⟨b, _, _, R4, R5⟩ := R
  refine ⟨⟨b.1, b.2.1, by omega, b.2.2.2.1, hm⟩, hS, hP, ?_, R5⟩
  intro p hp
  by_cases e : p = n
  · rw [e]
    exact em_wf z
  · exact ns_WF_x (fun i hi => ns_uo (by omega)) (fun i hi => ns_uo (by omega)) (ns_uo e) (ns_uo e) (R4 p (by omega))
end
theorem i_vc_emit {k : Nat} {u : SX} {v : SY} (I : i_Rel k u v) (hk : k + 5 ≤ 2562) (v1 : Int32) (v2 : Int32) (v3 : Int32) (v4 : Int32) : wpX_emit (fun r u' => wpY_emit (fun r' v' => r' = r ∧ i_Rel (k + 5) u' v') v v1 v2 v3 v4) u v1 v2 v3 v4 := by
  obtain ⟨kc, pq, n, m, np, s, fa, ft, fk, fe, ro, ra, rv, rc, rP, rS, px, py, pc, lv, lc, ce, vx, le, cx, cy, cw, cd, vy, ex, ey, ew, ds, hi, rfl, rfl, R⟩ := I
  have b := R.1
  by_cases hn : n < kc
  · refine br_f (nI_ge hn (by omega)) (ex_ma R (fun z => br_f (by decide) ?_) (fun z => br_t rfl (ey_em R hn (fun w => absurd w z) (fun _ => ⟨rfl, zr_mk R⟩))))
    have e : (nI n).toNatClampNeg = n := nI_clamp (by omega)
    have hin : vp_in (nI n) 32 := vp_in_nI (by omega) (by omega)
    rw [e]
    refine And.intro hin (nm_e (And.intro hin (nm_e (And.intro hin (nm_e (And.intro hin (nm_e (And.intro hin (nm_e ?_)))))))))
    have blk : ns_B v1 → wX_emit_86 (fun r u' => wpY_emit (fun r' v' => r' = r ∧ i_Rel (k + 5) u' v') (nI kc, nI pq, nI n, nI np, fa, ft, fe, ro, ra, rv, rc, px, py, pc, lv, lc, vy, ce, ex, ey, ew, ds, hi) v1 v2 v3 v4) (nI kc) (nI pq) (nI n) (nI m) (nI np) fa ft fk (upd ro n v1) (upd ra n v2) (upd rv n v3) (upd rc n v4) (upd rP n (-1)) rS px py pc lv lc ce vx le cx cy cw cd := by
      intro hB
      have em : (nI m).toNatClampNeg = m := nI_clamp (by omega)
      refine And.intro (vp_in_nI (by omega) (by omega)) (nm_r (by rw [em]) (nm_r (nI_1 m) (nm_r (nI_1 n) ?_)))
      refine ey_em R hn (fun _ => ⟨rfl, zr_mk (em_R R hn z (by omega) ?_ (ns_PI_B R.2.2.1 hB))⟩) (fun w => absurd z w)
      intro i hi2
      by_cases q : i = m
      · rw [q, ns_us]
        show _ = nI (if m = m then n else s m)
        rw [if_pos rfl]
      · rw [ns_uo q]
        show _ = nI (if i = m then n else s i)
        rw [if_neg q]
        exact R.2.1 i (by omega)
    by_cases e1 : v1 = 1
    · exact br_t e1 (blk (Or.inl e1))
    by_cases e2 : v1 = 2
    · exact br_f e1 (br_t e2 (blk (Or.inr e2)))
    have hnB : ¬ ns_B v1 := fun q => q.elim e1 e2
    by_cases e3 : v1 = 3
    · refine br_f e1 (br_f e2 (br_t e3 ?_))
      have hm : 0 < m := by rw [e3] at z; exact em_3 z
      obtain ⟨m', rfl⟩ : ∃ m', m = m' + 1 := ⟨m - 1, by omega⟩
      have hs := (R.2.2.1.1 m' (by omega)).1
      have hS := R.2.1 m' (by omega)
      have em : (nI m').toNatClampNeg = m' := nI_clamp (by omega)
      have es : (nI (s m')).toNatClampNeg = s m' := nI_clamp (by omega)
      refine nm_r (nI_pred m') (And.intro (vp_in_nI (by omega) (by omega)) (nm_r (by rw [em]; exact hS) (And.intro (vp_in_nI (by omega) (by omega)) (nm_r (by rw [es]) (And.intro hin (nm_r (by rw [e]) ?_))))))
      refine nm_r (nI_1 n) ?_
      exact ey_em R hn (fun _ => ⟨rfl, zr_mk (em_R R hn z (by omega) (fun i hi2 => R.2.1 i (by omega)) (ns_PI_E R.2.2.1 e3))⟩) (fun w => absurd z w)
    · refine br_f e1 (br_f e2 (br_f e3 (nm_r (nI_1 n) ?_)))
      exact ey_em R hn (fun _ => ⟨rfl, zr_mk (em_R R hn z (by omega) R.2.1 (ns_PI_o R.2.2.1 hnB e3))⟩) (fun w => absurd z w)
  · have e : n = kc := by omega
    subst e
    exact br_t (nI_le (Nat.le_refl _) (by omega)) (br_t rfl ⟨rfl, zr_mk R⟩)
