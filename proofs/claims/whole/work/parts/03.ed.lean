/-! A store of difference constraints: a count and three columns; both sides hold the same store, each in arrays of its own -/
def ed_push (s : Nat × (Nat → Int32) × (Nat → Int32) × (Nat → Int32)) (x y w : Int32) : Nat × (Nat → Int32) × (Nat → Int32) × (Nat → Int32) :=
  (s.1 + 1, upd s.2.1 s.1 x, upd s.2.2.1 s.1 y, upd s.2.2.2 s.1 w)
def ed_H (s : Nat × (Nat → Int32) × (Nat → Int32) × (Nat → Int32)) (x y w : Nat → Int32) : Prop :=
  ∀ q, q < s.1 → x q = s.2.1 q ∧ y q = s.2.2.1 q ∧ w q = s.2.2.2 q
def ed_V (x : Int32) : Prop := ∃ i : Nat, i < 8 ∧ x = nI i
def ed_G (s : Nat × (Nat → Int32) × (Nat → Int32) × (Nat → Int32)) : Prop :=
  ∀ q, q < s.1 → ed_V (s.2.1 q) ∧ ed_V (s.2.2.1 q) ∧ -2001 ≤ (s.2.2.2 q).toInt ∧ (s.2.2.2 q).toInt ≤ 2001
def ed_X (s : Nat × (Nat → Int32) × (Nat → Int32) × (Nat → Int32)) (q : Nat) : Nat := (s.2.1 q).toNatClampNeg
def ed_Y (s : Nat × (Nat → Int32) × (Nat → Int32) × (Nat → Int32)) (q : Nat) : Nat := (s.2.2.1 q).toNatClampNeg
def ed_W (s : Nat × (Nat → Int32) × (Nat → Int32) × (Nat → Int32)) (q : Nat) : Int := (s.2.2.2 q).toInt
def ed_it (s : Nat × (Nat → Int32) × (Nat → Int32) × (Nat → Int32)) : Nat → Nat → Int := bz_it (ed_X s) (ed_Y s) (ed_W s) s.1
def ed_pass (s : Nat × (Nat → Int32) × (Nat → Int32) × (Nat → Int32)) : (Nat → Int) → Nat → (Nat → Int) := bz_pass (ed_X s) (ed_Y s) (ed_W s)
def ed_sol (s : Nat × (Nat → Int32) × (Nat → Int32) × (Nat → Int32)) : (Nat → Int) → Prop := bz_sol (ed_X s) (ed_Y s) (ed_W s) s.1
def ed_sat (s : Nat × (Nat → Int32) × (Nat → Int32) × (Nat → Int32)) : Prop := ed_sol s (ed_it s 7)
/-- the array a reads, as integers, d -/
def ed_A (a : Nat → Int32) (d : Nat → Int) : Prop := ∀ j, j < 8 → (a j).toInt = d j
section
variable {s : Nat × (Nat → Int32) × (Nat → Int32) × (Nat → Int32)} {x y w : Nat → Int32}
theorem ed_H_push (h : ed_H s x y w) (a b c : Int32) : ed_H (ed_push s a b c) (upd x s.1 a) (upd y s.1 b) (upd w s.1 c) := by
  intro q hq
  have hq' : q < s.1 + 1 := hq
  show upd x s.1 a q = upd s.2.1 s.1 a q ∧ upd y s.1 b q = upd s.2.2.1 s.1 b q ∧ upd w s.1 c q = upd s.2.2.2 s.1 c q
  by_cases z : q = s.1
  · rw [z, ns_us, ns_us, ns_us, ns_us, ns_us, ns_us]
    exact ⟨rfl, rfl, rfl⟩
  · rw [ns_uo z, ns_uo z, ns_uo z, ns_uo z, ns_uo z, ns_uo z]
    exact h q (by omega)
theorem ed_G_push (h : ed_G s) {a b c : Int32} (ha : ed_V a) (hb : ed_V b) (h1 : -2001 ≤ c.toInt) (h2 : c.toInt ≤ 2001) : ed_G (ed_push s a b c) := by
  intro q hq
  have hq' : q < s.1 + 1 := hq
  show ed_V (upd s.2.1 s.1 a q) ∧ ed_V (upd s.2.2.1 s.1 b q) ∧ -2001 ≤ (upd s.2.2.2 s.1 c q).toInt ∧ (upd s.2.2.2 s.1 c q).toInt ≤ 2001
  by_cases z : q = s.1
  · rw [z, ns_us, ns_us, ns_us]
    exact ⟨ha, hb, h1, h2⟩
  · rw [ns_uo z, ns_uo z, ns_uo z]
    exact h q (by omega)
theorem ed_X8 (h : ed_G s) (q : Nat) (hq : q < s.1) : ed_X s q < 8 := by
  obtain ⟨⟨i, hi, e⟩, _⟩ := h q hq
  unfold ed_X
  rw [e, nI_clamp (by omega)]
  exact hi
theorem ed_Y8 (h : ed_G s) (q : Nat) (hq : q < s.1) : ed_Y s q < 8 := by
  obtain ⟨_, ⟨i, hi, e⟩, _⟩ := h q hq
  unfold ed_Y
  rw [e, nI_clamp (by omega)]
  exact hi
theorem ed_sat_of (h : ed_G s) {r : Nat} (hr : ed_sol s (ed_it s r)) : ed_sat s := bz_seven (ed_X8 h) (ed_Y8 h) hr
theorem ed_sat_it {r t : Nat} (hr : ed_sol s (ed_it s r)) : ed_sol s (ed_it s (r + t)) := by
  unfold ed_it
  rw [bz_keep hr t]
  exact hr
theorem ed_lo (h : ed_G s) (hm : s.1 ≤ 81) (r j : Nat) : -(162081 * (r : Int)) ≤ ed_it s r j :=
  bz_lo hm (fun q hq => (h q hq).2.2.1) r j
theorem ed_hi (r j : Nat) : ed_it s r j ≤ 0 := bz_np r j
/-- one edge, over the machine's numbers: what it adds and what it compares -/
theorem ed_sum {p c : Int32} (h1 : -2000000 ≤ p.toInt) (h2 : p.toInt ≤ 0) (h3 : -2001 ≤ c.toInt) (h4 : c.toInt ≤ 2001) : (p + c).toInt = p.toInt + c.toInt := by
  rw [Int32.toInt_add]
  exact Int.bmod_eq_of_le (by omega) (by omega)
/-- the pass from d up to q, its flag: 0 while every edge below q holds at d -/
def ed_F (s : Nat × (Nat → Int32) × (Nat → Int32) × (Nat → Int32)) (d : Nat → Int) (q : Nat) (f : Int32) : Prop :=
  (f = 0 ∧ ed_pass s d q = d ∧ ∀ i, i < q → d (ed_X s i) ≤ d (ed_Y s i) + ed_W s i) ∨
  (f = 1 ∧ ∃ i, i < q ∧ ¬ d (ed_X s i) ≤ d (ed_Y s i) + ed_W s i)
theorem ed_F0 (d : Nat → Int) : ed_F s d 0 0 := Or.inl ⟨rfl, rfl, fun _ h => absurd h (Nat.not_lt_zero _)⟩
theorem ed_F_t {d : Nat → Int} {q : Nat} {f : Int32} (h : ed_F s d q f) (hc : ed_pass s d q (ed_Y s q) + ed_W s q < ed_pass s d q (ed_X s q)) : ed_F s d (q + 1) 1 := by
  rcases h with ⟨_, h2, _⟩ | ⟨_, i, hi, h3⟩
  · rw [h2] at hc
    exact Or.inr ⟨rfl, q, by omega, by omega⟩
  · exact Or.inr ⟨rfl, i, by omega, h3⟩
theorem ed_F_f {d : Nat → Int} {q : Nat} {f : Int32} (h : ed_F s d q f) (hc : ¬ ed_pass s d q (ed_Y s q) + ed_W s q < ed_pass s d q (ed_X s q)) : ed_F s d (q + 1) f := by
  rcases h with ⟨h1, h2, h3⟩ | ⟨h1, i, hi, h3⟩
  · refine Or.inl ⟨h1, ?_, ?_⟩
    · show bz_step (ed_X s) (ed_Y s) (ed_W s) (ed_pass s d q) q = d
      funext j
      unfold bz_step
      rw [if_neg (fun z => hc z.2), h2]
    · intro i hi
      by_cases z : i = q
      · rw [h2] at hc
        rw [z]
        omega
      · exact h3 i (by omega)
  · exact Or.inr ⟨h1, i, by omega, h3⟩
theorem ed_F_e {d : Nat → Int} {f : Int32} (h : ed_F s d s.1 f) : (f = 0 ∧ ed_sol s d) ∨ (f = 1 ∧ ¬ ed_sol s d) := by
  rcases h with ⟨h1, _, h3⟩ | ⟨h1, i, hi, h3⟩
  · exact Or.inl ⟨h1, h3⟩
  · exact Or.inr ⟨h1, fun z => h3 (z i hi)⟩
/-- the array's step -/
theorem ed_A_t {a : Nat → Int32} {d : Nat → Int} {q : Nat} {t : Int32} (h : ed_A a (ed_pass s d q)) (hX : ed_X s q < 8)
    (hc : ed_pass s d q (ed_Y s q) + ed_W s q < ed_pass s d q (ed_X s q)) (ht : t.toInt = ed_pass s d q (ed_Y s q) + ed_W s q) : ed_A (upd a (ed_X s q) t) (ed_pass s d (q + 1)) := by
  intro j hj
  show _ = bz_step (ed_X s) (ed_Y s) (ed_W s) (ed_pass s d q) q j
  unfold bz_step
  by_cases z : j = ed_X s q
  · rw [if_pos ⟨z, hc⟩, z, ns_us]
    exact ht
  · rw [if_neg (fun w => z w.1), ns_uo z]
    exact h j hj
theorem ed_A_f {a : Nat → Int32} {d : Nat → Int} {q : Nat} (h : ed_A a (ed_pass s d q))
    (hc : ¬ ed_pass s d q (ed_Y s q) + ed_W s q < ed_pass s d q (ed_X s q)) : ed_A a (ed_pass s d (q + 1)) := by
  intro j hj
  show _ = bz_step (ed_X s) (ed_Y s) (ed_W s) (ed_pass s d q) q j
  unfold bz_step
  rw [if_neg (fun w => hc w.2)]
  exact h j hj
end
