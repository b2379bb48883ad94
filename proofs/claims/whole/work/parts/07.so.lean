/-! The solver loops of both sides against ed_sat -/
section
variable {s : Nat × (Nat → Int32) × (Nat → Int32) × (Nat → Int32)}
/-- one edge of a pass, as both machines read it -/
theorem so_step {x y w a : Nat → Int32} {d : Nat → Int} {q : Nat} (hG : ed_G s) (hH : ed_H s x y w) (hq : q < s.1) (hm : s.1 ≤ 81) (hA : ed_A a (ed_pass s d q)) (h0 : ∀ j, d j ≤ 0) (hl : ∀ j, -1600000 ≤ d j) :
    (∃ i j : Nat, i < 8 ∧ j < 8 ∧ x q = nI i ∧ y q = nI j ∧ ed_X s q = i ∧ ed_Y s q = j ∧
      (a j + w q).toInt = ed_pass s d q (ed_Y s q) + ed_W s q ∧ (a i).toInt = ed_pass s d q (ed_X s q)) := by
  obtain ⟨⟨i, hi, ei⟩, ⟨j, hj, ej⟩, w1, w2⟩ := hG q hq
  obtain ⟨e1, e2, e3⟩ := hH q hq
  have eX : ed_X s q = i := by unfold ed_X; rw [ei]; exact nI_clamp (by omega)
  have eY : ed_Y s q = j := by unfold ed_Y; rw [ej]; exact nI_clamp (by omega)
  have b1 : ed_pass s d q j ≤ d j := bz_pass_le d j q
  have b2 : -1600000 - 2001 * (q : Int) ≤ ed_pass s d q j := bz_lo_p (m := s.1) (L := 1600000) (fun q hq => (hG q hq).2.2.1) hl q (by omega) j
  have b3 := h0 j
  refine ⟨i, j, hi, hj, by rw [e1, ei], by rw [e2, ej], eX, eY, ?_, ?_⟩
  · rw [e3, ed_sum (by rw [hA j hj]; omega) (by rw [hA j hj]; omega) w1 w2, hA j hj, eY]
    rfl
  · rw [hA i hi, eX]
end
section
variable {s : Nat × (Nat → Int32) × (Nat → Int32) × (Nat → Int32)} {post : Int32 → SX → Prop} {K1 K2 fn fm fp fa ft fk : Int32} {ro ra rv rc rP rS px py pc lv lc ce vx le cx cy cw cd : Nat → Int32}
theorem so_x1_l {d : Nat → Int} (hG : ed_G s) (hH : ed_H s cx cy cw) (hm : s.1 ≤ 81) (h0 : ∀ j, d j ≤ 0) (hl : ∀ j, -1600000 ≤ d j)
    (h : ∀ (f : Int32) (cd : Nat → Int32), ((f = 0 ∧ ed_sol s d) ∨ (f = 1 ∧ ¬ ed_sol s d)) → ed_A cd (ed_pass s d s.1) → post f (K1, K2, fn, fm, fp, fa, ft, nI s.1, ro, ra, rv, rc, rP, rS, px, py, pc, lv, lc, ce, vx, le, cx, cy, cw, cd)) :
    ∀ (t q : Nat) (f : Int32) (cd : Nat → Int32), q + t = s.1 → ed_F s d q f → ed_A cd (ed_pass s d q) → wX_lowerCandidates_4 post K1 K2 fn fm fp fa ft (nI s.1) (t + 1) f (nI q) ro ra rv rc rP rS px py pc lv lc ce vx le cx cy cw cd := by
  intro t
  induction t with
  | zero =>
    intro q f cd hq hF hA
    have e : q = s.1 := by omega
    subst e
    have hf := ed_F_e hF
    refine br_t (nI_le (Nat.le_refl _) (by omega)) (And.intro ?_ (h f cd hf hA))
    rcases hf with hf | hf
    · rw [hf.1]; rfl
    · rw [hf.1]; rfl
  | succ t ih =>
    intro q f cd hq hF hA
    have e : (nI q).toNatClampNeg = q := nI_clamp (by omega)
    have hin : vp_in (nI q) 81 := vp_in_nI (by omega) (by omega)
    obtain ⟨i, j, hi, hj, ex, ey, eX, eY, hs, hx⟩ := so_step hG hH (show q < s.1 by omega) hm hA h0 hl
    have ei : (nI i).toNatClampNeg = i := nI_clamp (by omega)
    have ej : (nI j).toNatClampNeg = j := nI_clamp (by omega)
    refine br_f (nI_ge (by omega) (by omega)) ?_
    rw [e, ex, ey, ei, ej]
    refine And.intro hin (And.intro (vp_in_nI hj (by omega)) (And.intro hin (nm_e (And.intro hin (And.intro (vp_in_nI hi (by omega)) ?_)))))
    refine zq_le hx hs (fun c => nm_r (nI_1 q) (ih (q + 1) f cd (by omega) (ed_F_f hF (by omega)) (ed_A_f hA (by omega)))) (fun c => And.intro hin (And.intro (vp_in_nI hi (by omega)) (nm_e (nm_r (nI_1 q) (ih (q + 1) 1 _ (by omega) (ed_F_t hF c) ?_)))))
    have hA2 := ed_A_t hA (by omega) c hs
    rw [eX] at hA2
    exact hA2
theorem so_x1 {d : Nat → Int} (hG : ed_G s) (hH : ed_H s cx cy cw) (hm : s.1 ≤ 81) (h0 : ∀ j, d j ≤ 0) (hl : ∀ j, -1600000 ≤ d j) (hA : ed_A cd d)
    (h : ∀ (f : Int32) (cd : Nat → Int32), ((f = 0 ∧ ed_sol s d) ∨ (f = 1 ∧ ¬ ed_sol s d)) → ed_A cd (ed_pass s d s.1) → post f (K1, K2, fn, fm, fp, fa, ft, nI s.1, ro, ra, rv, rc, rP, rS, px, py, pc, lv, lc, ce, vx, le, cx, cy, cw, cd)) : wpX_lowerCandidates post (K1, K2, fn, fm, fp, fa, ft, nI s.1, ro, ra, rv, rc, rP, rS, px, py, pc, lv, lc, ce, vx, le, cx, cy, cw, cd) :=
  Exists.intro _ (so_x1_l hG hH hm h0 hl h s.1 0 0 cd (by omega) (ed_F0 d) hA)
theorem so_x8 (hG : ed_G s) (hH : ed_H s cx cy cw) (hm : s.1 ≤ 81) (h1 : ed_sat s → ∀ cd : Nat → Int32, post 1 (K1, K2, fn, fm, fp, fa, ft, nI s.1, ro, ra, rv, rc, rP, rS, px, py, pc, lv, lc, ce, vx, le, cx, cy, cw, cd)) (h0 : ¬ ed_sat s → ∀ cd : Nat → Int32, post 0 (K1, K2, fn, fm, fp, fa, ft, nI s.1, ro, ra, rv, rc, rP, rS, px, py, pc, lv, lc, ce, vx, le, cx, cy, cw, cd)) :
    ∀ (t r : Nat) (cd : Nat → Int32), r + t = 8 → (∀ i, i < r → ¬ ed_sol s (ed_it s i)) → ed_A cd (ed_it s r) → wX_constraintsHaveSolution_23 post (t + 1) (nI r) K1 K2 fn fm fp fa ft (nI s.1) ro ra rv rc rP rS px py pc lv lc ce vx le cx cy cw cd := by
  intro t
  induction t with
  | zero =>
    intro r cd hr hn hA
    have e : r = 8 := by omega
    subst e
    exact br_t (nI_le (a := 8) (b := 8) (by omega) (by omega)) (h0 (hn 7 (by omega)) cd)
  | succ t ih =>
    intro r cd hr hn hA
    refine br_f (nI_ge (b := 8) (by omega) (by decide)) (so_x1 hG hH hm (ed_hi r) (fun j => ?_) hA (fun f cd2 hf hA2 => ?_))
    · have := ed_lo hG hm r j
      omega
    · rcases hf with ⟨hf, hs⟩ | ⟨hf, hs⟩
      · exact br_t hf (h1 (ed_sat_of hG hs) cd2)
      · refine br_f (by rw [hf]; decide) (nm_r (nI_1 r) (ih (r + 1) cd2 (by omega) ?_ hA2))
        intro i hi
        by_cases z : i = r
        · rw [z]; exact hs
        · exact hn i (by omega)
theorem so_x0 {k : Nat} (h : ∀ cd : Nat → Int32, (∀ j, j < 8 → cd j = 0) → ∃ N, wX_constraintsHaveSolution_23 post N 0 K1 K2 fn fm fp fa ft (nI k) ro ra rv rc rP rS px py pc lv lc ce vx le cx cy cw cd) :
    ∀ (t i : Nat) (cd : Nat → Int32), i + t = 8 → (∀ j, j < i → cd j = 0) → wX_constraintsHaveSolution_2 post K1 K2 fn fm fp fa ft (nI k) (t + 1) (nI i) ro ra rv rc rP rS px py pc lv lc ce vx le cx cy cw cd := by
  intro t
  induction t with
  | zero =>
    intro i cd hi hz
    have e : i = 8 := by omega
    subst e
    exact br_t (nI_le (a := 8) (b := 8) (by omega) (by omega)) (h cd hz)
  | succ t ih =>
    intro i cd hi hz
    have e : (nI i).toNatClampNeg = i := nI_clamp (by omega)
    refine br_f (nI_ge (b := 8) (by omega) (by decide)) (And.intro (vp_in_nI (by omega) (by omega)) (nm_r (by rw [e]) (nm_r (nI_1 i) (ih (i + 1) (upd cd i 0) (by omega) ?_))))
    intro j hj
    by_cases z : j = i
    · rw [z, ns_us]
    · rw [ns_uo z]; exact hz j (by omega)
theorem so_x (hG : ed_G s) (hH : ed_H s cx cy cw) (hm : s.1 ≤ 81) (h1 : ed_sat s → ∀ cd : Nat → Int32, post 1 (K1, K2, fn, fm, fp, fa, ft, nI s.1, ro, ra, rv, rc, rP, rS, px, py, pc, lv, lc, ce, vx, le, cx, cy, cw, cd)) (h0 : ¬ ed_sat s → ∀ cd : Nat → Int32, post 0 (K1, K2, fn, fm, fp, fa, ft, nI s.1, ro, ra, rv, rc, rP, rS, px, py, pc, lv, lc, ce, vx, le, cx, cy, cw, cd)) : wpX_constraintsHaveSolution post (K1, K2, fn, fm, fp, fa, ft, nI s.1, ro, ra, rv, rc, rP, rS, px, py, pc, lv, lc, ce, vx, le, cx, cy, cw, cd) :=
  Exists.intro _ (so_x0 (fun cd hz => Exists.intro _ (so_x8 hG hH hm h1 h0 8 0 cd (by omega) (fun _ h => absurd h (Nat.not_lt_zero _)) (fun j hj => by rw [hz j hj]; rfl))) 8 0 cd (by omega) (fun _ h => absurd h (Nat.not_lt_zero _)))
end
section
variable {s : Nat × (Nat → Int32) × (Nat → Int32) × (Nat → Int32)} {post : Int32 → SY → Prop} {K1 K2 fn fp fa ft fe : Int32} {ro ra rv rc px py pc lv lc vy ce ex ey ew ds hi : Nat → Int32}
theorem so_y1_l {d : Nat → Int} {p : Int32} {J : Int32 → Int32 → (Nat → Int32) → (Nat → Int32) → (Nat → Int32) → (Nat → Int32) → (Nat → Int32) → (Nat → Int32) → (Nat → Int32) → (Nat → Int32) → (Nat → Int32) → (Nat → Int32) → (Nat → Int32) → (Nat → Int32) → (Nat → Int32) → (Nat → Int32) → (Nat → Int32) → (Nat → Int32) → Prop}
    (hG : ed_G s) (hH : ed_H s ex ey ew) (hm : s.1 ≤ 81) (h0 : ∀ j, d j ≤ 0) (hl : ∀ j, -1600000 ≤ d j)
    (h : ∀ (f : Int32) (ds : Nat → Int32), ((f = 0 ∧ ed_sol s d) ∨ (f = 1 ∧ ¬ ed_sol s d)) → ed_A ds (ed_pass s d s.1) → J f (p + 1) ro ra rv rc px py pc lv lc vy ce ex ey ew ds hi) :
    ∀ (t q : Nat) (f : Int32) (ds : Nat → Int32), q + t = s.1 → ed_F s d q f → ed_A ds (ed_pass s d q) → wY_feasible_35 post J p K1 K2 fn fp fa ft (nI s.1) (t + 1) f (nI q) ro ra rv rc px py pc lv lc vy ce ex ey ew ds hi := by
  intro t
  induction t with
  | zero =>
    intro q f ds hq hF hA
    have e : q = s.1 := by omega
    subst e
    exact br_t (nI_le (Nat.le_refl _) (by omega)) (nm_e (h f ds (ed_F_e hF) hA))
  | succ t ih =>
    intro q f ds hq hF hA
    have e : (nI q).toNatClampNeg = q := nI_clamp (by omega)
    have hin : vp_in (nI q) 96 := vp_in_nI (by omega) (by omega)
    obtain ⟨i, j, hi, hj, ex, ey, eX, eY, hs, hx⟩ := so_step hG hH (show q < s.1 by omega) hm hA h0 hl
    have ei : (nI i).toNatClampNeg = i := nI_clamp (by omega)
    have ej : (nI j).toNatClampNeg = j := nI_clamp (by omega)
    refine br_f (nI_ge (by omega) (by omega)) ?_
    rw [e, ex, ey, ei, ej]
    refine And.intro hin (And.intro (vp_in_nI hj (by omega)) (And.intro hin (nm_e (And.intro hin (And.intro (vp_in_nI hi (by omega)) ?_)))))
    refine zq_le hx hs (fun c => nm_r (nI_1 q) (ih (q + 1) f ds (by omega) (ed_F_f hF (by omega)) (ed_A_f hA (by omega)))) (fun c => And.intro hin (And.intro (vp_in_nI hi (by omega)) (nm_e (nm_r (nI_1 q) (ih (q + 1) 1 _ (by omega) (ed_F_t hF c) ?_)))))
    have hA2 := ed_A_t hA (by omega) c hs
    rw [eX] at hA2
    exact hA2
theorem so_y9 (hG : ed_G s) (hH : ed_H s ex ey ew) (hm : s.1 ≤ 81) (h1 : ed_sat s → ∀ ds : Nat → Int32, post 1 (K1, K2, fn, fp, fa, ft, nI s.1, ro, ra, rv, rc, px, py, pc, lv, lc, vy, ce, ex, ey, ew, ds, hi)) (h0 : ¬ ed_sat s → ∀ ds : Nat → Int32, post 0 (K1, K2, fn, fp, fa, ft, nI s.1, ro, ra, rv, rc, px, py, pc, lv, lc, vy, ce, ex, ey, ew, ds, hi)) :
    ∀ (t r : Nat) (f : Int32) (ds : Nat → Int32), r + t = 9 → (∀ i, r = i + 1 → ((f = 0 ∧ ed_sol s (ed_it s i)) ∨ (f = 1 ∧ ¬ ed_sol s (ed_it s i)))) → ed_A ds (ed_it s r) → wY_feasible_25 post K1 K2 fn fp fa ft (nI s.1) (t + 1) f (nI r) ro ra rv rc px py pc lv lc vy ce ex ey ew ds hi := by
  intro t
  induction t with
  | zero =>
    intro r f ds hr hn hA
    have e : r = 9 := by omega
    subst e
    refine br_t (nI_le (a := 9) (b := 9) (by omega) (by omega)) ?_
    rcases hn 8 rfl with ⟨hf, hs⟩ | ⟨hf, hs⟩
    · exact br_t hf (h1 (ed_sat_of hG hs) ds)
    · exact br_f (by rw [hf]; decide) (h0 (fun z => hs (ed_sat_it (r := 7) (t := 1) z)) ds)
  | succ t ih =>
    intro r f ds hr hn hA
    refine br_f (nI_ge (b := 9) (by omega) (by decide)) (Exists.intro _ (so_y1_l hG hH hm (ed_hi r) (fun j => ?_) (fun f2 ds2 hf hA2 => ?_) s.1 0 0 ds (by omega) (ed_F0 _) hA))
    · have := ed_lo hG hm r j
      omega
    · rw [nI_1 r]
      refine ih (r + 1) f2 ds2 (by omega) ?_ hA2
      intro i hi
      have e : i = r := by omega
      rw [e]
      exact hf
theorem so_y0 {k : Nat} (h : ∀ ds : Nat → Int32, (∀ j, j < 8 → ds j = 0) → ∃ N, wY_feasible_25 post K1 K2 fn fp fa ft (nI k) N 0 0 ro ra rv rc px py pc lv lc vy ce ex ey ew ds hi) :
    ∀ (t i : Nat) (ds : Nat → Int32), i + t = 8 → (∀ j, j < i → ds j = 0) → wY_feasible_2 post K1 K2 fn fp fa ft (nI k) (t + 1) (nI i) ro ra rv rc px py pc lv lc vy ce ex ey ew ds hi := by
  intro t
  induction t with
  | zero =>
    intro i ds hi hz
    have e : i = 8 := by omega
    subst e
    exact br_t (nI_le (a := 8) (b := 8) (by omega) (by omega)) (h ds hz)
  | succ t ih =>
    intro i ds hi hz
    have e : (nI i).toNatClampNeg = i := nI_clamp (by omega)
    refine br_f (nI_ge (b := 8) (by omega) (by decide)) (And.intro (vp_in_nI (by omega) (by omega)) (nm_r (by rw [e]) (nm_r (nI_1 i) (ih (i + 1) (upd ds i 0) (by omega) ?_))))
    intro j hj
    by_cases z : j = i
    · rw [z, ns_us]
    · rw [ns_uo z]; exact hz j (by omega)
theorem so_y (hG : ed_G s) (hH : ed_H s ex ey ew) (hm : s.1 ≤ 81) (h1 : ed_sat s → ∀ ds : Nat → Int32, post 1 (K1, K2, fn, fp, fa, ft, nI s.1, ro, ra, rv, rc, px, py, pc, lv, lc, vy, ce, ex, ey, ew, ds, hi)) (h0 : ¬ ed_sat s → ∀ ds : Nat → Int32, post 0 (K1, K2, fn, fp, fa, ft, nI s.1, ro, ra, rv, rc, px, py, pc, lv, lc, vy, ce, ex, ey, ew, ds, hi)) : wpY_feasible post (K1, K2, fn, fp, fa, ft, nI s.1, ro, ra, rv, rc, px, py, pc, lv, lc, vy, ce, ex, ey, ew, ds, hi) :=
  Exists.intro _ (so_y0 (fun ds hz => Exists.intro _ (so_y9 hG hH hm h1 h0 9 0 0 ds (by omega) (fun i hi => absurd hi (by omega)) (fun j hj => by rw [hz j hj]; rfl))) 8 0 ds (by omega) (fun _ h => absurd h (Nat.not_lt_zero _)))
end
