/-! Passes of relaxation over the integers, in place, over eight vertices: if some later round is a solution, the seventh is -/
def bz_step (X Y : Nat → Nat) (W : Nat → Int) (d : Nat → Int) (q j : Nat) : Int :=
  if j = X q ∧ d (Y q) + W q < d (X q) then d (Y q) + W q else d j
def bz_pass (X Y : Nat → Nat) (W : Nat → Int) (d : Nat → Int) : Nat → (Nat → Int)
  | 0 => d
  | q + 1 => bz_step X Y W (bz_pass X Y W d q) q
def bz_it (X Y : Nat → Nat) (W : Nat → Int) (m : Nat) : Nat → (Nat → Int)
  | 0 => fun _ => 0
  | r + 1 => bz_pass X Y W (bz_it X Y W m r) m
def bz_sol (X Y : Nat → Nat) (W : Nat → Int) (m : Nat) (f : Nat → Int) : Prop :=
  ∀ q, q < m → f (X q) ≤ f (Y q) + W q
section
variable {X Y : Nat → Nat} {W : Nat → Int} {m : Nat}
theorem bz_step_le (d : Nat → Int) (q j : Nat) : bz_step X Y W d q j ≤ d j := by
  unfold bz_step
  by_cases h : j = X q ∧ d (Y q) + W q < d (X q)
  · rw [if_pos h, h.1]
    exact Int.le_of_lt h.2
  · rw [if_neg h]
    exact Int.le_refl _
theorem bz_pass_s (d : Nat → Int) (q : Nat) : bz_pass X Y W d (q + 1) = bz_step X Y W (bz_pass X Y W d q) q := rfl
theorem bz_it_s (r : Nat) : bz_it X Y W m (r + 1) = bz_pass X Y W (bz_it X Y W m r) m := rfl
theorem bz_pass_le (d : Nat → Int) (j : Nat) : ∀ q : Nat, bz_pass X Y W d q j ≤ d j := by
  intro q
  induction q with
  | zero => exact Int.le_refl _
  | succ q ih => exact Int.le_trans (bz_step_le _ q j) ih
theorem bz_pass_mono (d : Nat → Int) (j q : Nat) : ∀ t : Nat, bz_pass X Y W d (q + t) j ≤ bz_pass X Y W d q j := by
  intro t
  induction t with
  | zero => exact Int.le_refl _
  | succ t ih => exact Int.le_trans (bz_step_le _ (q + t) j) ih
theorem bz_step_ge {d f : Nat → Int} {q : Nat} (hf : f (X q) ≤ f (Y q) + W q) (h : ∀ j, f j ≤ d j) (j : Nat) : f j ≤ bz_step X Y W d q j := by
  unfold bz_step
  by_cases e : j = X q ∧ d (Y q) + W q < d (X q)
  · rw [if_pos e, e.1]
    have := h (Y q)
    omega
  · rw [if_neg e]
    exact h j
theorem bz_pass_ge {d f : Nat → Int} (hf : bz_sol X Y W m f) (h : ∀ j, f j ≤ d j) : ∀ q, q ≤ m → ∀ j, f j ≤ bz_pass X Y W d q j := by
  intro q
  induction q with
  | zero => exact fun _ => h
  | succ q ih => exact fun hq => bz_step_ge (hf q (by omega)) (ih (by omega))
theorem bz_step_ed (e : Nat → Int) (q : Nat) : bz_step X Y W e q (X q) ≤ e (Y q) + W q := by
  unfold bz_step
  by_cases h : X q = X q ∧ e (Y q) + W q < e (X q)
  · rw [if_pos h]
    exact Int.le_refl _
  · rw [if_neg h]
    have h2 : ¬ e (Y q) + W q < e (X q) := fun z => h ⟨rfl, z⟩
    omega
theorem bz_edge (d : Nat → Int) {q : Nat} (hq : q < m) : bz_pass X Y W d m (X q) ≤ d (Y q) + W q := by
  obtain ⟨t, rfl⟩ : ∃ t, m = q + 1 + t := ⟨m - (q + 1), by omega⟩
  have h1 := bz_pass_mono (X := X) (Y := Y) (W := W) d (X q) (q + 1) t
  have h2 := bz_step_ed (X := X) (Y := Y) (W := W) (bz_pass X Y W d q) q
  have h3 := bz_pass_le (X := X) (Y := Y) (W := W) d (Y q) q
  rw [bz_pass_s] at h1
  omega
theorem bz_fix {d : Nat → Int} (h : bz_sol X Y W m d) : ∀ q, q ≤ m → bz_pass X Y W d q = d := by
  intro q
  induction q with
  | zero => exact fun _ => rfl
  | succ q ih =>
    intro hq
    rw [bz_pass_s, ih (by omega)]
    funext j
    unfold bz_step
    have := h q (by omega)
    rw [if_neg (fun z => by have := z.2; omega)]
theorem bz_np : ∀ (r j : Nat), bz_it X Y W m r j ≤ 0 := by
  intro r
  induction r with
  | zero => exact fun _ => Int.le_refl _
  | succ r ih => exact fun j => Int.le_trans (bz_pass_le _ j m) (ih j)
theorem bz_top {f : Nat → Int} (hf : bz_sol X Y W m f) (h : ∀ j, f j ≤ 0) : ∀ (r j : Nat), f j ≤ bz_it X Y W m r j := by
  intro r
  induction r with
  | zero => exact h
  | succ r ih => exact bz_pass_ge hf ih m (Nat.le_refl m)
theorem bz_raise {R r v : Nat} (hD : bz_sol X Y W m (bz_it X Y W m R)) (hv : bz_it X Y W m r v ≠ bz_it X Y W m R v) :
    ∃ q, q < m ∧ bz_it X Y W m r (Y q) = bz_it X Y W m R (Y q) ∧ bz_it X Y W m r (X q) ≠ bz_it X Y W m R (X q) ∧ bz_it X Y W m R (X q) = bz_it X Y W m R (Y q) + W q := by
  apply Classical.byContradiction
  intro hn
  have hge : ∀ j, bz_it X Y W m R j ≤ bz_it X Y W m r j := bz_top hD (bz_np R) r
  have hnr : ∀ j, bz_it X Y W m r j ≤ 0 := bz_np r
  have hnR : ∀ j, bz_it X Y W m R j ≤ 0 := bz_np R
  have hS : bz_sol X Y W m (fun j => if bz_it X Y W m r j = bz_it X Y W m R j then bz_it X Y W m R j else bz_it X Y W m R j + 1) := by
    intro q hq
    have h1 := hD q hq
    dsimp only
    by_cases hx : bz_it X Y W m r (X q) = bz_it X Y W m R (X q)
    · rw [if_pos hx]
      by_cases hy : bz_it X Y W m r (Y q) = bz_it X Y W m R (Y q)
      · rw [if_pos hy]; omega
      · rw [if_neg hy]; omega
    · rw [if_neg hx]
      by_cases hy : bz_it X Y W m r (Y q) = bz_it X Y W m R (Y q)
      · rw [if_pos hy]
        have h2 : ¬ bz_it X Y W m R (X q) = bz_it X Y W m R (Y q) + W q := fun z => hn ⟨q, hq, hy, hx, z⟩
        omega
      · rw [if_neg hy]; omega
  have hN : ∀ j, (fun j => if bz_it X Y W m r j = bz_it X Y W m R j then bz_it X Y W m R j else bz_it X Y W m R j + 1) j ≤ 0 := by
    intro j
    dsimp only
    have h1 := hge j
    have h2 := hnr j
    have h3 := hnR j
    by_cases hx : bz_it X Y W m r j = bz_it X Y W m R j
    · rw [if_pos hx]; omega
    · rw [if_neg hx]; omega
  have hT := bz_top hS hN R v
  rw [if_neg hv] at hT
  omega
end
def bz_cn (f g : Nat → Int) : Nat → Nat
  | 0 => 0
  | k + 1 => bz_cn f g k + (if f k = g k then 1 else 0)
theorem bz_cn_le (f g : Nat → Int) : ∀ k, bz_cn f g k ≤ k := by
  intro k
  induction k with
  | zero => exact Nat.le_refl _
  | succ k ih =>
    unfold bz_cn
    by_cases h : f k = g k
    · rw [if_pos h]; omega
    · rw [if_neg h]; omega
theorem bz_cn_all {f g : Nat → Int} : ∀ k, k ≤ bz_cn f g k → ∀ j, j < k → f j = g j := by
  intro k
  induction k with
  | zero => exact fun _ j hj => absurd hj (Nat.not_lt_zero j)
  | succ k ih =>
    intro h j hj
    have h1 := bz_cn_le f g k
    unfold bz_cn at h
    by_cases e : f k = g k
    · rw [if_pos e] at h
      by_cases z : j = k
      · rw [z]; exact e
      · exact ih (by omega) j (by omega)
    · rw [if_neg e] at h
      omega
theorem bz_cn_mono {f f' g : Nat → Int} (h : ∀ j, f j = g j → f' j = g j) : ∀ k, bz_cn f g k ≤ bz_cn f' g k := by
  intro k
  induction k with
  | zero => exact Nat.le_refl _
  | succ k ih =>
    unfold bz_cn
    by_cases e : f k = g k
    · rw [if_pos e, if_pos (h k e)]; omega
    · rw [if_neg e]; omega
theorem bz_cn_lt {f f' g : Nat → Int} (h : ∀ j, f j = g j → f' j = g j) {v : Nat} (h1 : ¬ f v = g v) (h2 : f' v = g v) : ∀ k, v < k → bz_cn f g k < bz_cn f' g k := by
  intro k
  induction k with
  | zero => exact fun z => absurd z (Nat.not_lt_zero v)
  | succ k ih =>
    intro hv
    unfold bz_cn
    by_cases z : v = k
    · subst z
      rw [if_neg h1, if_pos h2]
      have := bz_cn_mono h v
      omega
    · have := ih (by omega)
      by_cases e : f k = g k
      · rw [if_pos e, if_pos (h k e)]; omega
      · rw [if_neg e]; omega
theorem bz_cn_pos {f g : Nat → Int} {v : Nat} (h : f v = g v) : ∀ k, v < k → 1 ≤ bz_cn f g k := by
  intro k
  induction k with
  | zero => exact fun z => absurd z (Nat.not_lt_zero v)
  | succ k ih =>
    intro hv
    unfold bz_cn
    by_cases z : v = k
    · subst z
      rw [if_pos h]; omega
    · have := ih (by omega)
      omega
section
variable {X Y : Nat → Nat} {W : Nat → Int} {m : Nat}
theorem bz_grow (hX : ∀ q, q < m → X q < 8) (hY : ∀ q, q < m → Y q < 8) {R : Nat} (hD : bz_sol X Y W m (bz_it X Y W m R)) :
    ∀ r, (∀ v, bz_it X Y W m r v = bz_it X Y W m R v) ∨ r + 1 ≤ bz_cn (bz_it X Y W m r) (bz_it X Y W m R) 8 := by
  have hge : ∀ r j, bz_it X Y W m R j ≤ bz_it X Y W m r j := bz_top hD (bz_np R)
  have hk : ∀ r j, bz_it X Y W m r j = bz_it X Y W m R j → bz_it X Y W m (r + 1) j = bz_it X Y W m R j := by
    intro r j e
    have h1 := hge (r + 1) j
    have h2 : bz_it X Y W m (r + 1) j ≤ bz_it X Y W m r j := bz_pass_le _ j m
    omega
  intro r
  induction r with
  | zero =>
    by_cases h : ∃ v, bz_it X Y W m 0 v ≠ bz_it X Y W m R v
    · obtain ⟨v, hv⟩ := h
      obtain ⟨q, hq, h1, _, _⟩ := bz_raise hD hv
      exact Or.inr (bz_cn_pos h1 8 (hY q hq))
    · exact Or.inl fun v => Classical.byContradiction fun z => h ⟨v, z⟩
  | succ r ih =>
    cases ih with
    | inl ih => exact Or.inl fun v => hk r v (ih v)
    | inr ih =>
      by_cases h : ∃ v, bz_it X Y W m r v ≠ bz_it X Y W m R v
      · obtain ⟨v, hv⟩ := h
        obtain ⟨q, hq, h1, h2, h3⟩ := bz_raise hD hv
        have h4 : bz_it X Y W m (r + 1) (X q) = bz_it X Y W m R (X q) := by
          have h5 := hge (r + 1) (X q)
          have h6 : bz_it X Y W m (r + 1) (X q) ≤ bz_it X Y W m r (Y q) + W q := bz_edge _ hq
          omega
        have h7 := bz_cn_lt (hk r) h2 h4 8 (hX q hq)
        exact Or.inr (by omega)
      · exact Or.inl fun v => hk r v (Classical.byContradiction fun z => h ⟨v, z⟩)
theorem bz_seven (hX : ∀ q, q < m → X q < 8) (hY : ∀ q, q < m → Y q < 8) {R : Nat} (hD : bz_sol X Y W m (bz_it X Y W m R)) : bz_sol X Y W m (bz_it X Y W m 7) := by
  have h : ∀ v, v < 8 → bz_it X Y W m 7 v = bz_it X Y W m R v := by
    cases bz_grow hX hY hD 7 with
    | inl h => exact fun v _ => h v
    | inr h => exact bz_cn_all 8 h
  intro q hq
  rw [h _ (hX q hq), h _ (hY q hq)]
  exact hD q hq
theorem bz_keep {r : Nat} (h : bz_sol X Y W m (bz_it X Y W m r)) : ∀ t, bz_it X Y W m (r + t) = bz_it X Y W m r := by
  intro t
  induction t with
  | zero => rfl
  | succ t ih =>
    show bz_pass X Y W (bz_it X Y W m (r + t)) m = _
    rw [ih]
    exact bz_fix h m (Nat.le_refl m)
theorem bz_lo_p {d : Nat → Int} {L : Int} (hW : ∀ q, q < m → -2001 ≤ W q) (h : ∀ j, -L ≤ d j) : ∀ q, q ≤ m → ∀ j, -L - 2001 * (q : Int) ≤ bz_pass X Y W d q j := by
  intro q
  induction q with
  | zero =>
    intro _ j
    have h1 := h j
    show _ ≤ d j
    omega
  | succ q ih =>
    intro hq j
    have h1 := ih (by omega)
    have h2 := hW q (by omega)
    rw [bz_pass_s]
    unfold bz_step
    by_cases e : j = X q ∧ bz_pass X Y W d q (Y q) + W q < bz_pass X Y W d q (X q)
    · rw [if_pos e]
      have := h1 (Y q)
      omega
    · rw [if_neg e]
      have := h1 j
      omega
theorem bz_lo (hm : m ≤ 81) (hW : ∀ q, q < m → -2001 ≤ W q) : ∀ r j : Nat, -(162081 * (r : Int)) ≤ bz_it X Y W m r j := by
  intro r
  induction r with
  | zero => exact fun j => by show _ ≤ (0 : Int); omega
  | succ r ih =>
    intro j
    have h := bz_lo_p (X := X) (Y := Y) hW ih m (Nat.le_refl m) j
    rw [bz_it_s]
    omega
end
