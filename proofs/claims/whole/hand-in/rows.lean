section
/-! Passes of relaxation over the integers, in place, over eight vertices: if some later round is a solution, the seventh is -/
def bz_step (X Y : Nat → Nat) (W : Nat → Int) (d : Nat → Int) (q j : Nat) : Int :=
  if j = X q ∧ d (Y q) + W q < d (X q) then d (Y q) + W q else d j
def bz_pass (X Y : Nat → Nat) (W : Nat → Int) (d : Nat → Int) : Nat → (Nat → Int)
  | 0 => d
  | q + 1 => bz_step X Y W (bz_pass X Y W d q) q
def bz_it (X Y : Nat → Nat) (W : Nat → Int) (m : Nat) : Nat → (Nat → Int)
  | 0 => fun _ => 0
  | r + 1 => bz_pass X Y W (bz_it X Y W m r) m
def bz_sol (X Y : Nat → Nat) (W : Nat → Int) (m : Nat) (f : Nat → Int) : Prop :=
  ∀ q, q < m → f (X q) ≤ f (Y q) + W q
section
variable {X Y : Nat → Nat} {W : Nat → Int} {m : Nat}
theorem bz_step_le (d : Nat → Int) (q j : Nat) : bz_step X Y W d q j ≤ d j := by
  unfold bz_step
  by_cases h : j = X q ∧ d (Y q) + W q < d (X q)
  · rw [if_pos h, h.1]
    exact Int.le_of_lt h.2
  · rw [if_neg h]
    exact Int.le_refl _
theorem bz_pass_s (d : Nat → Int) (q : Nat) : bz_pass X Y W d (q + 1) = bz_step X Y W (bz_pass X Y W d q) q := rfl
theorem bz_it_s (r : Nat) : bz_it X Y W m (r + 1) = bz_pass X Y W (bz_it X Y W m r) m := rfl
theorem bz_pass_le (d : Nat → Int) (j : Nat) : ∀ q : Nat, bz_pass X Y W d q j ≤ d j := by
  intro q
  induction q with
  | zero => exact Int.le_refl _
  | succ q ih => exact Int.le_trans (bz_step_le _ q j) ih
theorem bz_pass_mono (d : Nat → Int) (j q : Nat) : ∀ t : Nat, bz_pass X Y W d (q + t) j ≤ bz_pass X Y W d q j := by
  intro t
  induction t with
  | zero => exact Int.le_refl _
  | succ t ih => exact Int.le_trans (bz_step_le _ (q + t) j) ih
theorem bz_step_ge {d f : Nat → Int} {q : Nat} (hf : f (X q) ≤ f (Y q) + W q) (h : ∀ j, f j ≤ d j) (j : Nat) : f j ≤ bz_step X Y W d q j := by
  unfold bz_step
  by_cases e : j = X q ∧ d (Y q) + W q < d (X q)
  · rw [if_pos e, e.1]
    have := h (Y q)
    omega
  · rw [if_neg e]
    exact h j
theorem bz_pass_ge {d f : Nat → Int} (hf : bz_sol X Y W m f) (h : ∀ j, f j ≤ d j) : ∀ q, q ≤ m → ∀ j, f j ≤ bz_pass X Y W d q j := by
  intro q
  induction q with
  | zero => exact fun _ => h
  | succ q ih => exact fun hq => bz_step_ge (hf q (by omega)) (ih (by omega))
theorem bz_step_ed (e : Nat → Int) (q : Nat) : bz_step X Y W e q (X q) ≤ e (Y q) + W q := by
  unfold bz_step
  by_cases h : X q = X q ∧ e (Y q) + W q < e (X q)
  · rw [if_pos h]
    exact Int.le_refl _
  · rw [if_neg h]
    have h2 : ¬ e (Y q) + W q < e (X q) := fun z => h ⟨rfl, z⟩
    omega
theorem bz_edge (d : Nat → Int) {q : Nat} (hq : q < m) : bz_pass X Y W d m (X q) ≤ d (Y q) + W q := by
  obtain ⟨t, rfl⟩ : ∃ t, m = q + 1 + t := ⟨m - (q + 1), by omega⟩
  have h1 := bz_pass_mono (X := X) (Y := Y) (W := W) d (X q) (q + 1) t
  have h2 := bz_step_ed (X := X) (Y := Y) (W := W) (bz_pass X Y W d q) q
  have h3 := bz_pass_le (X := X) (Y := Y) (W := W) d (Y q) q
  rw [bz_pass_s] at h1
  omega
theorem bz_fix {d : Nat → Int} (h : bz_sol X Y W m d) : ∀ q, q ≤ m → bz_pass X Y W d q = d := by
  intro q
  induction q with
  | zero => exact fun _ => rfl
  | succ q ih =>
    intro hq
    rw [bz_pass_s, ih (by omega)]
    funext j
    unfold bz_step
    have := h q (by omega)
    rw [if_neg (fun z => by have := z.2; omega)]
theorem bz_np : ∀ (r j : Nat), bz_it X Y W m r j ≤ 0 := by
  intro r
  induction r with
  | zero => exact fun _ => Int.le_refl _
  | succ r ih => exact fun j => Int.le_trans (bz_pass_le _ j m) (ih j)
theorem bz_top {f : Nat → Int} (hf : bz_sol X Y W m f) (h : ∀ j, f j ≤ 0) : ∀ (r j : Nat), f j ≤ bz_it X Y W m r j := by
  intro r
  induction r with
  | zero => exact h
  | succ r ih => exact bz_pass_ge hf ih m (Nat.le_refl m)
theorem bz_raise {R r v : Nat} (hD : bz_sol X Y W m (bz_it X Y W m R)) (hv : bz_it X Y W m r v ≠ bz_it X Y W m R v) :
    ∃ q, q < m ∧ bz_it X Y W m r (Y q) = bz_it X Y W m R (Y q) ∧ bz_it X Y W m r (X q) ≠ bz_it X Y W m R (X q) ∧ bz_it X Y W m R (X q) = bz_it X Y W m R (Y q) + W q := by
  apply Classical.byContradiction
  intro hn
  have hge : ∀ j, bz_it X Y W m R j ≤ bz_it X Y W m r j := bz_top hD (bz_np R) r
  have hnr : ∀ j, bz_it X Y W m r j ≤ 0 := bz_np r
  have hnR : ∀ j, bz_it X Y W m R j ≤ 0 := bz_np R
  have hS : bz_sol X Y W m (fun j => if bz_it X Y W m r j = bz_it X Y W m R j then bz_it X Y W m R j else bz_it X Y W m R j + 1) := by
    intro q hq
    have h1 := hD q hq
    dsimp only
    by_cases hx : bz_it X Y W m r (X q) = bz_it X Y W m R (X q)
    · rw [if_pos hx]
      by_cases hy : bz_it X Y W m r (Y q) = bz_it X Y W m R (Y q)
      · rw [if_pos hy]; omega
      · rw [if_neg hy]; omega
    · rw [if_neg hx]
      by_cases hy : bz_it X Y W m r (Y q) = bz_it X Y W m R (Y q)
      · rw [if_pos hy]
        have h2 : ¬ bz_it X Y W m R (X q) = bz_it X Y W m R (Y q) + W q := fun z => hn ⟨q, hq, hy, hx, z⟩
        omega
      · rw [if_neg hy]; omega
  have hN : ∀ j, (fun j => if bz_it X Y W m r j = bz_it X Y W m R j then bz_it X Y W m R j else bz_it X Y W m R j + 1) j ≤ 0 := by
    intro j
    dsimp only
    have h1 := hge j
    have h2 := hnr j
    have h3 := hnR j
    by_cases hx : bz_it X Y W m r j = bz_it X Y W m R j
    · rw [if_pos hx]; omega
    · rw [if_neg hx]; omega
  have hT := bz_top hS hN R v
  rw [if_neg hv] at hT
  omega
end
def bz_cn (f g : Nat → Int) : Nat → Nat
  | 0 => 0
  | k + 1 => bz_cn f g k + (if f k = g k then 1 else 0)
theorem bz_cn_le (f g : Nat → Int) : ∀ k, bz_cn f g k ≤ k := by
  intro k
  induction k with
  | zero => exact Nat.le_refl _
  | succ k ih =>
    unfold bz_cn
    by_cases h : f k = g k
    · rw [if_pos h]; omega
    · rw [if_neg h]; omega
theorem bz_cn_all {f g : Nat → Int} : ∀ k, k ≤ bz_cn f g k → ∀ j, j < k → f j = g j := by
  intro k
  induction k with
  | zero => exact fun _ j hj => absurd hj (Nat.not_lt_zero j)
  | succ k ih =>
    intro h j hj
    have h1 := bz_cn_le f g k
    unfold bz_cn at h
    by_cases e : f k = g k
    · rw [if_pos e] at h
      by_cases z : j = k
      · rw [z]; exact e
      · exact ih (by omega) j (by omega)
    · rw [if_neg e] at h
      omega
theorem bz_cn_mono {f f' g : Nat → Int} (h : ∀ j, f j = g j → f' j = g j) : ∀ k, bz_cn f g k ≤ bz_cn f' g k := by
  intro k
  induction k with
  | zero => exact Nat.le_refl _
  | succ k ih =>
    unfold bz_cn
    by_cases e : f k = g k
    · rw [if_pos e, if_pos (h k e)]; omega
    · rw [if_neg e]; omega
theorem bz_cn_lt {f f' g : Nat → Int} (h : ∀ j, f j = g j → f' j = g j) {v : Nat} (h1 : ¬ f v = g v) (h2 : f' v = g v) : ∀ k, v < k → bz_cn f g k < bz_cn f' g k := by
  intro k
  induction k with
  | zero => exact fun z => absurd z (Nat.not_lt_zero v)
  | succ k ih =>
    intro hv
    unfold bz_cn
    by_cases z : v = k
    · subst z
      rw [if_neg h1, if_pos h2]
      have := bz_cn_mono h v
      omega
    · have := ih (by omega)
      by_cases e : f k = g k
      · rw [if_pos e, if_pos (h k e)]; omega
      · rw [if_neg e]; omega
theorem bz_cn_pos {f g : Nat → Int} {v : Nat} (h : f v = g v) : ∀ k, v < k → 1 ≤ bz_cn f g k := by
  intro k
  induction k with
  | zero => exact fun z => absurd z (Nat.not_lt_zero v)
  | succ k ih =>
    intro hv
    unfold bz_cn
    by_cases z : v = k
    · subst z
      rw [if_pos h]; omega
    · have := ih (by omega)
      omega
section
variable {X Y : Nat → Nat} {W : Nat → Int} {m : Nat}
theorem bz_grow (hX : ∀ q, q < m → X q < 8) (hY : ∀ q, q < m → Y q < 8) {R : Nat} (hD : bz_sol X Y W m (bz_it X Y W m R)) :
    ∀ r, (∀ v, bz_it X Y W m r v = bz_it X Y W m R v) ∨ r + 1 ≤ bz_cn (bz_it X Y W m r) (bz_it X Y W m R) 8 := by
  have hge : ∀ r j, bz_it X Y W m R j ≤ bz_it X Y W m r j := bz_top hD (bz_np R)
  have hk : ∀ r j, bz_it X Y W m r j = bz_it X Y W m R j → bz_it X Y W m (r + 1) j = bz_it X Y W m R j := by
    intro r j e
    have h1 := hge (r + 1) j
    have h2 : bz_it X Y W m (r + 1) j ≤ bz_it X Y W m r j := bz_pass_le _ j m
    omega
  intro r
  induction r with
  | zero =>
    by_cases h : ∃ v, bz_it X Y W m 0 v ≠ bz_it X Y W m R v
    · obtain ⟨v, hv⟩ := h
      obtain ⟨q, hq, h1, _, _⟩ := bz_raise hD hv
      exact Or.inr (bz_cn_pos h1 8 (hY q hq))
    · exact Or.inl fun v => Classical.byContradiction fun z => h ⟨v, z⟩
  | succ r ih =>
    cases ih with
    | inl ih => exact Or.inl fun v => hk r v (ih v)
    | inr ih =>
      by_cases h : ∃ v, bz_it X Y W m r v ≠ bz_it X Y W m R v
      · obtain ⟨v, hv⟩ := h
        obtain ⟨q, hq, h1, h2, h3⟩ := bz_raise hD hv
        have h4 : bz_it X Y W m (r + 1) (X q) = bz_it X Y W m R (X q) := by
          have h5 := hge (r + 1) (X q)
          have h6 : bz_it X Y W m (r + 1) (X q) ≤ bz_it X Y W m r (Y q) + W q := bz_edge _ hq
          omega
        have h7 := bz_cn_lt (hk r) h2 h4 8 (hX q hq)
        exact Or.inr (by omega)
      · exact Or.inl fun v => hk r v (Classical.byContradiction fun z => h ⟨v, z⟩)
theorem bz_seven (hX : ∀ q, q < m → X q < 8) (hY : ∀ q, q < m → Y q < 8) {R : Nat} (hD : bz_sol X Y W m (bz_it X Y W m R)) : bz_sol X Y W m (bz_it X Y W m 7) := by
  have h : ∀ v, v < 8 → bz_it X Y W m 7 v = bz_it X Y W m R v := by
    cases bz_grow hX hY hD 7 with
    | inl h => exact fun v _ => h v
    | inr h => exact bz_cn_all 8 h
  intro q hq
  rw [h _ (hX q hq), h _ (hY q hq)]
  exact hD q hq
theorem bz_keep {r : Nat} (h : bz_sol X Y W m (bz_it X Y W m r)) : ∀ t, bz_it X Y W m (r + t) = bz_it X Y W m r := by
  intro t
  induction t with
  | zero => rfl
  | succ t ih =>
    show bz_pass X Y W (bz_it X Y W m (r + t)) m = _
    rw [ih]
    exact bz_fix h m (Nat.le_refl m)
theorem bz_lo_p {d : Nat → Int} {L : Int} (hW : ∀ q, q < m → -2001 ≤ W q) (h : ∀ j, -L ≤ d j) : ∀ q, q ≤ m → ∀ j, -L - 2001 * (q : Int) ≤ bz_pass X Y W d q j := by
  intro q
  induction q with
  | zero =>
    intro _ j
    have h1 := h j
    show _ ≤ d j
    omega
  | succ q ih =>
    intro hq j
    have h1 := ih (by omega)
    have h2 := hW q (by omega)
    rw [bz_pass_s]
    unfold bz_step
    by_cases e : j = X q ∧ bz_pass X Y W d q (Y q) + W q < bz_pass X Y W d q (X q)
    · rw [if_pos e]
      have := h1 (Y q)
      omega
    · rw [if_neg e]
      have := h1 j
      omega
theorem bz_lo (hm : m ≤ 81) (hW : ∀ q, q < m → -2001 ≤ W q) : ∀ r j : Nat, -(162081 * (r : Int)) ≤ bz_it X Y W m r j := by
  intro r
  induction r with
  | zero => exact fun j => by show _ ≤ (0 : Int); omega
  | succ r ih =>
    intro j
    have h := bz_lo_p (X := X) (Y := Y) hW ih m (Nat.le_refl m) j
    rw [bz_it_s]
    omega
end
end
section
/-! Nesting: what a scan from the block at j has seen when it stands before cell n: pending at a depth, or ended by the END at e -/
def ns_nx (o : Nat → Int32) (i : Nat) : Sum Nat Nat → Sum Nat Nat
  | .inr e => .inr e
  | .inl d => if o i = 1 ∨ o i = 2 then .inl (d + 1) else if o i = 3 then (if d = 0 then .inr i else .inl (d - 1)) else .inl d
def ns_at (o : Nat → Int32) (j : Nat) : Nat → Sum Nat Nat
  | 0 => .inl 0
  | n + 1 => if n ≤ j then .inl 0 else ns_nx o n (ns_at o j n)
def ns_B (x : Int32) : Prop := x = 1 ∨ x = 2
def ns_res : Sum Nat Nat → Int32
  | .inl _ => -1
  | .inr e => nI e
theorem ns_3B {x : Int32} (h : x = 3) : ¬ ns_B x := by
  rw [h]; intro z; cases z with
  | inl z => exact absurd z (by decide)
  | inr z => exact absurd z (by decide)
theorem ns_ne {d e : Nat} (h : (Sum.inl d : Sum Nat Nat) = .inr e) : False := by cases h
theorem ns_inl {d e : Nat} (h : (Sum.inl d : Sum Nat Nat) = .inl e) : d = e := by cases h; rfl
theorem ns_inr {d e : Nat} (h : (Sum.inr d : Sum Nat Nat) = .inr e) : d = e := by cases h; rfl
section
variable {o : Nat → Int32}
theorem ns_le {j n : Nat} (h : n ≤ j + 1) : ns_at o j n = .inl 0 := by
  cases n with
  | zero => rfl
  | succ n => exact if_pos (by omega)
theorem ns_s {j n : Nat} (h : j < n) : ns_at o j (n + 1) = ns_nx o n (ns_at o j n) := if_neg (by omega)
theorem ns_xr (i e : Nat) : ns_nx o i (.inr e) = .inr e := rfl
theorem ns_xB {i : Nat} (d : Nat) (h : ns_B (o i)) : ns_nx o i (.inl d) = .inl (d + 1) := if_pos h
theorem ns_x0 {i : Nat} (h : o i = 3) : ns_nx o i (.inl 0) = .inr i := by
  show (if o i = 1 ∨ o i = 2 then _ else _) = _
  rw [if_neg (show ¬ (o i = 1 ∨ o i = 2) from ns_3B h), if_pos h, if_pos rfl]
theorem ns_xS {i : Nat} (d : Nat) (h : o i = 3) : ns_nx o i (.inl (d + 1)) = .inl d := by
  show (if o i = 1 ∨ o i = 2 then _ else _) = _
  rw [if_neg (show ¬ (o i = 1 ∨ o i = 2) from ns_3B h), if_pos h, if_neg (show ¬ d + 1 = 0 by omega)]
  rfl
theorem ns_xo {i : Nat} (d : Nat) (h : ¬ ns_B (o i)) (h3 : ¬ o i = 3) : ns_nx o i (.inl d) = .inl d := by
  show (if o i = 1 ∨ o i = 2 then _ else _) = _
  rw [if_neg (show ¬ (o i = 1 ∨ o i = 2) from h), if_neg h3]
theorem ns_keep {j n e : Nat} (h : ns_at o j n = .inr e) : ∀ t, ns_at o j (n + t) = .inr e := by
  intro t
  induction t with
  | zero => exact h
  | succ t ih =>
    have hj : j < n + t := by
      apply Classical.byContradiction
      intro z
      rw [ns_le (by omega)] at ih
      exact ns_ne ih
    show ns_at o j (n + t + 1) = _
    rw [ns_s hj, ih, ns_xr]
theorem ns_keep' {j n n' e : Nat} (h : ns_at o j n = .inr e) (hn : n ≤ n') : ns_at o j n' = .inr e := by
  obtain ⟨t, rfl⟩ : ∃ t, n' = n + t := ⟨n' - n, by omega⟩
  exact ns_keep h t
theorem ns_back {j n n' d : Nat} (h : ns_at o j n' = .inl d) (hn : n ≤ n') : ∃ c, ns_at o j n = .inl c := by
  cases e : ns_at o j n with
  | inl c => exact ⟨c, rfl⟩
  | inr c =>
    rw [ns_keep' e hn] at h
    cases h
theorem ns_fnd {j e : Nat} : ∀ n, ns_at o j n = .inr e → j < e ∧ e < n ∧ o e = 3 ∧ ns_at o j e = .inl 0 := by
  intro n
  induction n with
  | zero => intro h; cases h
  | succ n ih =>
    intro h
    by_cases hj : j < n
    · rw [ns_s hj] at h
      cases q : ns_at o j n with
      | inr c =>
        rw [q, ns_xr] at h
        cases h
        have := ih q
        exact ⟨this.1, by omega, this.2.2⟩
      | inl d =>
        rw [q] at h
        by_cases hB : ns_B (o n)
        · rw [ns_xB d hB] at h; cases h
        · by_cases h3 : o n = 3
          · cases d with
            | zero =>
              rw [ns_x0 h3] at h
              cases h
              exact ⟨hj, by omega, h3, q⟩
            | succ d => rw [ns_xS d h3] at h; cases h
          · rw [ns_xo d hB h3] at h; cases h
    · rw [ns_le (by omega)] at h
      cases h
/-- a depth is at most the place -/
theorem ns_dl {j : Nat} : ∀ n d, ns_at o j n = .inl d → d ≤ n := by
  intro n
  induction n with
  | zero => intro d h; cases h; exact Nat.le_refl _
  | succ n ih =>
    intro d h
    by_cases hj : j < n
    · rw [ns_s hj] at h
      cases q : ns_at o j n with
      | inr c => rw [q, ns_xr] at h; cases h
      | inl c =>
        have hc := ih c q
        rw [q] at h
        by_cases hB : ns_B (o n)
        · rw [ns_xB c hB] at h; cases h; omega
        · by_cases h3 : o n = 3
          · cases c with
            | zero => rw [ns_x0 h3] at h; cases h
            | succ c => rw [ns_xS c h3] at h; cases h; omega
          · rw [ns_xo c hB h3] at h; cases h; omega
    · rw [ns_le (by omega)] at h
      cases h
      omega
theorem ns_cl {j e : Nat} (hj : j < e) (h : ns_at o j e = .inl 0) (h3 : o e = 3) : ns_at o j (e + 1) = .inr e := by
  rw [ns_s hj, h, ns_x0 h3]
theorem ns_ext {o' : Nat → Int32} {j : Nat} : ∀ n, (∀ i, i < n → o' i = o i) → ns_at o' j n = ns_at o j n := by
  intro n
  induction n with
  | zero => exact fun _ => rfl
  | succ n ih =>
    intro h
    have e := ih (fun i hi => h i (by omega))
    by_cases hj : j < n
    · rw [ns_s hj, ns_s hj, e]
      cases ns_at o j n with
      | inr c => rfl
      | inl d =>
        show (if o' n = 1 ∨ o' n = 2 then _ else _) = (if o n = 1 ∨ o n = 2 then _ else _)
        rw [h n (by omega)]
    · rw [ns_le (by omega), ns_le (by omega)]
theorem ns_lock {j b d : Nat} (hj : j < b) (hb : ns_B (o b)) (h : ns_at o j b = .inl d) : ∀ t c, ns_at o b (b + 1 + t) = .inl c → ns_at o j (b + 1 + t) = .inl (d + 1 + c) := by
  intro t
  induction t with
  | zero =>
    intro c hc
    have h0 : ns_at o b (b + 1 + 0) = .inl 0 := ns_le (by omega)
    rw [h0] at hc
    cases hc
    show ns_at o j (b + 1) = _
    rw [ns_s hj, h, ns_xB d hb]
  | succ t ih =>
    intro c hc
    have hc2 : ns_nx o (b + 1 + t) (ns_at o b (b + 1 + t)) = .inl c := by
      rw [← ns_s (by omega)]; exact hc
    show ns_at o j (b + 1 + t + 1) = _
    rw [ns_s (by omega)]
    cases q : ns_at o b (b + 1 + t) with
    | inr g => rw [q, ns_xr] at hc2; cases hc2
    | inl g =>
      rw [ih g q]
      rw [q] at hc2
      by_cases hB : ns_B (o (b + 1 + t))
      · rw [ns_xB g hB] at hc2
        cases hc2
        rw [ns_xB _ hB]
        rfl
      · by_cases h3 : o (b + 1 + t) = 3
        · cases g with
          | zero => rw [ns_x0 h3] at hc2; cases hc2
          | succ g =>
            rw [ns_xS g h3] at hc2
            cases hc2
            exact ns_xS _ h3
        · rw [ns_xo g hB h3] at hc2
          cases hc2
          exact ns_xo _ hB h3
theorem ns_lock' {j b d n c : Nat} (hj : j < b) (hb : ns_B (o b)) (h : ns_at o j b = .inl d) (hn : b < n) (hc : ns_at o b n = .inl c) : ns_at o j n = .inl (d + 1 + c) := by
  obtain ⟨t, rfl⟩ : ∃ t, n = b + 1 + t := ⟨n - (b + 1), by omega⟩
  exact ns_lock hj hb h t c hc
/-- inside a block that is closed at e every block is closed at e -/
theorem ns_in {b e j : Nat} (hb : ns_at o b e = .inl 0) (h1 : b < j) (h2 : j < e) (hj : ns_B (o j)) : ∃ g, ns_at o j e = .inr g := by
  cases q : ns_at o j e with
  | inr g => exact ⟨g, rfl⟩
  | inl c =>
    obtain ⟨d, hd⟩ := ns_back hb (Nat.le_of_lt h2)
    have := ns_lock' h1 hj hd h2 q
    rw [hb] at this
    have := ns_inl this
    omega
/-- pending behind a jump over the block at p: pending at p -/
theorem ns_skip {p e j d : Nat} (hp : p < e) (he : ns_at o p e = .inl 0) (h3 : o e = 3) (hj : j < e + 1) (hB : ns_B (o j)) (h : ns_at o j (e + 1) = .inl d) : j < p ∧ ∃ c, ns_at o j p = .inl c := by
  by_cases h1 : j < p
  · exact ⟨h1, ns_back h (by omega)⟩
  · by_cases h2 : j = p
    · subst h2
      rw [ns_cl hp he h3] at h
      cases h
    · by_cases h4 : j = e
      · subst h4
        exact absurd hB (ns_3B h3)
      · obtain ⟨g, hg⟩ := ns_in he (show p < j by omega) (show j < e by omega) hB
        rw [ns_keep' hg (by omega)] at h
        cases h
/-- pending behind the head of the block at b: pending at its END -/
theorem ns_loop {b e j d : Nat} (hb : b < e) (hB : ns_B (o b)) (he : ns_at o b e = .inl 0) (hj : j < b + 1) (h : ns_at o j (b + 1) = .inl d) : j < e ∧ ∃ c, ns_at o j e = .inl c := by
  refine ⟨by omega, ?_⟩
  by_cases h1 : j = b
  · subst h1
    exact ⟨0, he⟩
  · obtain ⟨c, hc⟩ := ns_back h (show b ≤ b + 1 by omega)
    exact ⟨_, ns_lock' (show j < b by omega) hB hc hb he⟩
/-- pending behind a cell: pending before it -/
theorem ns_next {p j d : Nat} (h : ns_at o j (p + 1) = .inl d) : ∃ c, ns_at o j p = .inl c := ns_back h (by omega)
end
/-! The program as the component keeps it: partners and the stack of pending blocks -/
def ns_PI (o P : Nat → Int32) (s : Nat → Nat) (n m : Nat) : Prop :=
  (∀ i, i < m → s i < n ∧ ns_B (o (s i)) ∧ P (s i) = -1 ∧ ∃ d, ns_at o (s i) n = .inl d ∧ d + i + 1 = m) ∧
  (∀ j, j < n → ns_B (o j) → (∃ i, i < m ∧ s i = j) ∨ (∃ e, e < n ∧ P j = nI e ∧ P e = nI j ∧ ns_at o j n = .inr e)) ∧
  (∀ e, e < n → o e = 3 → ∃ j, j < e ∧ ns_B (o j) ∧ P e = nI j ∧ P j = nI e ∧ ns_at o j n = .inr e)
theorem ns_PI0 (o P : Nat → Int32) (s : Nat → Nat) : ns_PI o P s 0 0 :=
  ⟨fun _ h => absurd h (Nat.not_lt_zero _), fun _ h => absurd h (Nat.not_lt_zero _), fun _ h => absurd h (Nat.not_lt_zero _)⟩
def ns_updN (s : Nat → Nat) (k x : Nat) : Nat → Nat := fun j => if j = k then x else s j
section
variable {o P : Nat → Int32} {s : Nat → Nat} {n m : Nat}
theorem ns_uo {f : Nat → Int32} {k i : Nat} {x : Int32} (h : i ≠ k) : upd f k x i = f i := if_neg h
theorem ns_us {f : Nat → Int32} {k : Nat} {x : Int32} : upd f k x k = x := if_pos rfl
theorem ns_ux {x : Int32} {j : Nat} : ns_at (upd o n x) j n = ns_at o j n := ns_ext n fun i hi => ns_uo (by omega)
theorem ns_PI_B {x : Int32} (h : ns_PI o P s n m) (hx : ns_B x) : ns_PI (upd o n x) (upd P n (-1)) (ns_updN s m n) (n + 1) (m + 1) := by
  obtain ⟨hA, hB, hC⟩ := h
  have hn : ns_B (upd o n x n) := by rw [ns_us]; exact hx
  refine ⟨fun i hi => ?_, fun j hj hb => ?_, fun e he h3 => ?_⟩
  · by_cases z : i = m
    · subst z
      have e : ns_updN s i n i = n := if_pos rfl
      rw [e]
      exact ⟨by omega, hn, ns_us, 0, ns_le (by omega), by omega⟩
    · have e : ns_updN s m n i = s i := if_neg z
      rw [e]
      obtain ⟨h1, h2, h3, d, h4, h5⟩ := hA i (by omega)
      refine ⟨by omega, by rw [ns_uo (by omega)]; exact h2, by rw [ns_uo (by omega)]; exact h3, d + 1, ?_, by omega⟩
      rw [ns_s h1, ns_ux, h4, ns_xB d hn]
  · by_cases z : j = n
    · subst z
      exact Or.inl ⟨m, by omega, if_pos rfl⟩
    · rw [ns_uo z] at hb
      cases hB j (by omega) hb with
      | inl h =>
        obtain ⟨i, hi, e⟩ := h
        exact Or.inl ⟨i, by omega, by rw [← e]; exact if_neg (by omega)⟩
      | inr h =>
        obtain ⟨e, h1, h2, h3, h4⟩ := h
        exact Or.inr ⟨e, by omega, by rw [ns_uo z]; exact h2, by rw [ns_uo (by omega)]; exact h3, by rw [ns_s (by omega), ns_ux, h4, ns_xr]⟩
  · by_cases z : e = n
    · subst z
      exact absurd hn (ns_3B h3)
    · rw [ns_uo z] at h3
      obtain ⟨j, h1, h2, h4, h5, h6⟩ := hC e (by omega) h3
      exact ⟨j, h1, by rw [ns_uo (by omega)]; exact h2, by rw [ns_uo z]; exact h4, by rw [ns_uo (by omega)]; exact h5, by rw [ns_s (by omega), ns_ux, h6, ns_xr]⟩
theorem ns_PI_o {x : Int32} (h : ns_PI o P s n m) (hx : ¬ ns_B x) (hx3 : ¬ x = 3) : ns_PI (upd o n x) (upd P n (-1)) s (n + 1) m := by
  obtain ⟨hA, hB, hC⟩ := h
  have hn : ¬ ns_B (upd o n x n) := by rw [ns_us]; exact hx
  have hn3 : ¬ upd o n x n = 3 := by rw [ns_us]; exact hx3
  refine ⟨fun i hi => ?_, fun j hj hb => ?_, fun e he h3 => ?_⟩
  · obtain ⟨h1, h2, h3, d, h4, h5⟩ := hA i hi
    refine ⟨by omega, by rw [ns_uo (by omega)]; exact h2, by rw [ns_uo (by omega)]; exact h3, d, ?_, h5⟩
    rw [ns_s h1, ns_ux, h4, ns_xo d hn hn3]
  · by_cases z : j = n
    · subst z
      exact absurd hb hn
    · rw [ns_uo z] at hb
      cases hB j (by omega) hb with
      | inl h => exact Or.inl h
      | inr h =>
        obtain ⟨e, h1, h2, h3, h4⟩ := h
        exact Or.inr ⟨e, by omega, by rw [ns_uo z]; exact h2, by rw [ns_uo (by omega)]; exact h3, by rw [ns_s (by omega), ns_ux, h4, ns_xr]⟩
  · by_cases z : e = n
    · subst z
      exact absurd h3 hn3
    · rw [ns_uo z] at h3
      obtain ⟨j, h1, h2, h4, h5, h6⟩ := hC e (by omega) h3
      exact ⟨j, h1, by rw [ns_uo (by omega)]; exact h2, by rw [ns_uo z]; exact h4, by rw [ns_uo (by omega)]; exact h5, by rw [ns_s (by omega), ns_ux, h6, ns_xr]⟩
theorem ns_PI_E {x : Int32} {k : Int32} (h : ns_PI o P s n (m + 1)) (hx : x = 3) : ns_PI (upd o n x) (upd (upd (upd P n k) (s m) (nI n)) n (nI (s m))) s (n + 1) m := by
  obtain ⟨hA, hB, hC⟩ := h
  have hn3 : upd o n x n = 3 := by rw [ns_us]; exact hx
  have hn : ¬ ns_B (upd o n x n) := ns_3B hn3
  obtain ⟨g1, g2, _, d0, g4, g5⟩ := hA m (by omega)
  have hd0 : d0 = 0 := by omega
  subst hd0
  have hP : ∀ j, j ≠ n → j ≠ s m → upd (upd (upd P n k) (s m) (nI n)) n (nI (s m)) j = P j := by
    intro j z1 z2
    rw [ns_uo z1, ns_uo z2, ns_uo z1]
  have hPs : upd (upd (upd P n k) (s m) (nI n)) n (nI (s m)) (s m) = nI n := by
    rw [ns_uo (by omega), ns_us]
  have hPn : upd (upd (upd P n k) (s m) (nI n)) n (nI (s m)) n = nI (s m) := ns_us
  refine ⟨fun i hi => ?_, fun j hj hb => ?_, fun e he h3 => ?_⟩
  · obtain ⟨h1, h2, h3, d, h4, h5⟩ := hA i (by omega)
    obtain ⟨d', rfl⟩ : ∃ d', d = d' + 1 := ⟨d - 1, by omega⟩
    have hne : s i ≠ s m := by
      intro z
      rw [z, g4] at h4
      have := ns_inl h4
      omega
    refine ⟨by omega, by rw [ns_uo (by omega)]; exact h2, by rw [hP _ (by omega) hne]; exact h3, d', ?_, by omega⟩
    rw [ns_s h1, ns_ux, h4, ns_xS d' hn3]
  · by_cases z : j = n
    · subst z
      exact absurd hb hn
    · rw [ns_uo z] at hb
      cases hB j (by omega) hb with
      | inl h =>
        obtain ⟨i, hi, e⟩ := h
        by_cases zi : i = m
        · subst zi
          subst e
          exact Or.inr ⟨n, by omega, hPs, hPn, by rw [ns_s g1, ns_ux, g4, ns_x0 hn3]⟩
        · exact Or.inl ⟨i, by omega, e⟩
      | inr h =>
        obtain ⟨e, h1, h2, h3, h4⟩ := h
        have hjm : j ≠ s m := by
          intro w
          rw [w, g4] at h4
          cases h4
        have he3 := (ns_fnd n h4).2.2.1
        have hem : e ≠ s m := by
          intro w
          rw [w] at he3
          exact ns_3B he3 g2
        exact Or.inr ⟨e, by omega, by rw [hP j z hjm]; exact h2, by rw [hP e (by omega) hem]; exact h3, by rw [ns_s (by omega), ns_ux, h4, ns_xr]⟩
  · by_cases z : e = n
    · subst z
      exact ⟨s m, g1, by rw [ns_uo (by omega)]; exact g2, hPn, hPs, by rw [ns_s g1, ns_ux, g4, ns_x0 hn3]⟩
    · rw [ns_uo z] at h3
      obtain ⟨j, h1, h2, h4, h5, h6⟩ := hC e (by omega) h3
      have hjm : j ≠ s m := by
        intro w
        rw [w, g4] at h6
        cases h6
      have hem : e ≠ s m := by
        intro w
        rw [w] at h3
        exact ns_3B h3 g2
      exact ⟨j, h1, by rw [ns_uo (by omega)]; exact h2, by rw [hP e z hem]; exact h4, by rw [hP j (by omega) hjm]; exact h5, by rw [ns_s (by omega), ns_ux, h6, ns_xr]⟩
/-- what the reference's search for an END answers is the partner that the component keeps -/
theorem ns_me (h : ns_PI o P s n m) {j : Nat} (hj : j < n) (hb : ns_B (o j)) : ns_res (ns_at o j n) = P j := by
  cases h.2.1 j hj hb with
  | inl z =>
    obtain ⟨i, hi, rfl⟩ := z
    obtain ⟨_, _, h3, d, h4, _⟩ := h.1 i hi
    rw [h4, h3]
    rfl
  | inr z =>
    obtain ⟨e, _, h2, _, h4⟩ := z
    rw [h4, h2]
    rfl
theorem ns_op (h : ns_PI o P s n m) {j d : Nat} (hj : j < n) (hb : ns_B (o j)) (hd : ns_at o j n = .inl d) : ∃ i, i < m ∧ s i = j := by
  cases h.2.1 j hj hb with
  | inl z => exact z
  | inr z =>
    obtain ⟨e, _, _, _, h4⟩ := z
    rw [hd] at h4
    cases h4
theorem ns_uq (h : ns_PI o P s n m) (hn : n < 2 ^ 31) {j j' e : Nat} (hj : j < n) (hb : ns_B (o j)) (h1 : ns_at o j n = .inr e) (hj' : j' < n) (hb' : ns_B (o j')) (h2 : ns_at o j' n = .inr e) : j = j' := by
  have key : ∀ i, i < n → ns_B (o i) → ns_at o i n = .inr e → P e = nI i := by
    intro i hi hbi hei
    cases h.2.1 i hi hbi with
    | inl z =>
      obtain ⟨q, hq, rfl⟩ := z
      obtain ⟨_, _, _, d, h4, _⟩ := h.1 q hq
      rw [hei] at h4
      cases h4
    | inr z =>
      obtain ⟨g, _, _, g3, g4⟩ := z
      rw [hei] at g4
      cases g4
      exact g3
  have e1 := key j hj hb h1
  rw [key j' hj' hb' h2] at e1
  exact ((nI_eq (by omega) (by omega)).mp e1).symm
end
/-! Bound variables and well-formed instructions -/
def ns_Bd (o a : Nat → Int32) (p : Nat) (x : Int32) : Prop :=
  (0 ≤ x.toInt ∧ x.toInt ≤ 3) ∨ ∃ j d, j < p ∧ o j = 1 ∧ a j = x ∧ ns_at o j p = .inl d
def ns_K (x : Int32) : Prop := -1000 ≤ x.toInt ∧ x.toInt ≤ 1000
def ns_WF (o a v c : Nat → Int32) (p : Nat) : Prop :=
  (o p = 1 ∧ (4 ≤ (a p).toInt ∧ (a p).toInt ≤ 7) ∧ (∀ j d, j < p → o j = 1 → ns_at o j p = .inl d → a j ≠ a p) ∧ ns_Bd o a p (v p) ∧ ns_K (c p)) ∨
  (o p = 2 ∧ ns_Bd o a p (a p) ∧ ns_Bd o a p (v p) ∧ ns_K (c p)) ∨
  o p = 3 ∨
  (o p = 4 ∧ ns_K (c p)) ∨
  ((o p = 5 ∨ o p = 6 ∨ o p = 7) ∧ (0 ≤ (a p).toInt ∧ (a p).toInt ≤ 3) ∧ ns_Bd o a p (v p) ∧ ns_K (c p))
theorem ns_Bd_x {o a o' a' : Nat → Int32} {p : Nat} {x : Int32} (ho : ∀ i, i < p → o' i = o i) (ha : ∀ i, i < p → a' i = a i) (h : ns_Bd o a p x) : ns_Bd o' a' p x := by
  cases h with
  | inl h => exact Or.inl h
  | inr h =>
    obtain ⟨j, d, h1, h2, h3, h4⟩ := h
    exact Or.inr ⟨j, d, h1, by rw [ho j h1]; exact h2, by rw [ha j h1]; exact h3, by rw [ns_ext p ho]; exact h4⟩
theorem ns_WF_x {o a v c o' a' v' c' : Nat → Int32} {p : Nat} (ho : ∀ i, i < p + 1 → o' i = o i) (ha : ∀ i, i < p + 1 → a' i = a i) (hv : v' p = v p) (hc : c' p = c p) (h : ns_WF o a v c p) : ns_WF o' a' v' c' p := by
  have ho' : ∀ i, i < p → o' i = o i := fun i hi => ho i (by omega)
  have ha' : ∀ i, i < p → a' i = a i := fun i hi => ha i (by omega)
  unfold ns_WF
  rw [ho p (by omega), ha p (by omega), hv, hc]
  rcases h with h | h | h | h | h
  · refine Or.inl ⟨h.1, h.2.1, ?_, ns_Bd_x ho' ha' h.2.2.2.1, h.2.2.2.2⟩
    intro j d hj h1 h2
    rw [ho' j hj] at h1
    rw [ns_ext p ho'] at h2
    rw [ha' j hj]
    exact h.2.2.1 j d hj h1 h2
  · exact Or.inr (Or.inl ⟨h.1, ns_Bd_x ho' ha' h.2.1, ns_Bd_x ho' ha' h.2.2.1, h.2.2.2⟩)
  · exact Or.inr (Or.inr (Or.inl h))
  · exact Or.inr (Or.inr (Or.inr (Or.inl h)))
  · exact Or.inr (Or.inr (Or.inr (Or.inr ⟨h.1, h.2.1, ns_Bd_x ho' ha' h.2.2.1, h.2.2.2⟩)))
end
section
/-! A store of difference constraints: a count and three columns; both sides hold the same store, each in arrays of its own -/
def ed_push (s : Nat × (Nat → Int32) × (Nat → Int32) × (Nat → Int32)) (x y w : Int32) : Nat × (Nat → Int32) × (Nat → Int32) × (Nat → Int32) :=
  (s.1 + 1, upd s.2.1 s.1 x, upd s.2.2.1 s.1 y, upd s.2.2.2 s.1 w)
def ed_H (s : Nat × (Nat → Int32) × (Nat → Int32) × (Nat → Int32)) (x y w : Nat → Int32) : Prop :=
  ∀ q, q < s.1 → x q = s.2.1 q ∧ y q = s.2.2.1 q ∧ w q = s.2.2.2 q
def ed_V (x : Int32) : Prop := ∃ i : Nat, i < 8 ∧ x = nI i
def ed_G (s : Nat × (Nat → Int32) × (Nat → Int32) × (Nat → Int32)) : Prop :=
  ∀ q, q < s.1 → ed_V (s.2.1 q) ∧ ed_V (s.2.2.1 q) ∧ -2001 ≤ (s.2.2.2 q).toInt ∧ (s.2.2.2 q).toInt ≤ 2001
def ed_X (s : Nat × (Nat → Int32) × (Nat → Int32) × (Nat → Int32)) (q : Nat) : Nat := (s.2.1 q).toNatClampNeg
def ed_Y (s : Nat × (Nat → Int32) × (Nat → Int32) × (Nat → Int32)) (q : Nat) : Nat := (s.2.2.1 q).toNatClampNeg
def ed_W (s : Nat × (Nat → Int32) × (Nat → Int32) × (Nat → Int32)) (q : Nat) : Int := (s.2.2.2 q).toInt
def ed_it (s : Nat × (Nat → Int32) × (Nat → Int32) × (Nat → Int32)) : Nat → Nat → Int := bz_it (ed_X s) (ed_Y s) (ed_W s) s.1
def ed_pass (s : Nat × (Nat → Int32) × (Nat → Int32) × (Nat → Int32)) : (Nat → Int) → Nat → (Nat → Int) := bz_pass (ed_X s) (ed_Y s) (ed_W s)
def ed_sol (s : Nat × (Nat → Int32) × (Nat → Int32) × (Nat → Int32)) : (Nat → Int) → Prop := bz_sol (ed_X s) (ed_Y s) (ed_W s) s.1
def ed_sat (s : Nat × (Nat → Int32) × (Nat → Int32) × (Nat → Int32)) : Prop := ed_sol s (ed_it s 7)
/-- the array a reads, as integers, d -/
def ed_A (a : Nat → Int32) (d : Nat → Int) : Prop := ∀ j, j < 8 → (a j).toInt = d j
section
variable {s : Nat × (Nat → Int32) × (Nat → Int32) × (Nat → Int32)} {x y w : Nat → Int32}
theorem ed_H_push (h : ed_H s x y w) (a b c : Int32) : ed_H (ed_push s a b c) (upd x s.1 a) (upd y s.1 b) (upd w s.1 c) := by
  intro q hq
  have hq' : q < s.1 + 1 := hq
  show upd x s.1 a q = upd s.2.1 s.1 a q ∧ upd y s.1 b q = upd s.2.2.1 s.1 b q ∧ upd w s.1 c q = upd s.2.2.2 s.1 c q
  by_cases z : q = s.1
  · rw [z, ns_us, ns_us, ns_us, ns_us, ns_us, ns_us]
    exact ⟨rfl, rfl, rfl⟩
  · rw [ns_uo z, ns_uo z, ns_uo z, ns_uo z, ns_uo z, ns_uo z]
    exact h q (by omega)
theorem ed_G_push (h : ed_G s) {a b c : Int32} (ha : ed_V a) (hb : ed_V b) (h1 : -2001 ≤ c.toInt) (h2 : c.toInt ≤ 2001) : ed_G (ed_push s a b c) := by
  intro q hq
  have hq' : q < s.1 + 1 := hq
  show ed_V (upd s.2.1 s.1 a q) ∧ ed_V (upd s.2.2.1 s.1 b q) ∧ -2001 ≤ (upd s.2.2.2 s.1 c q).toInt ∧ (upd s.2.2.2 s.1 c q).toInt ≤ 2001
  by_cases z : q = s.1
  · rw [z, ns_us, ns_us, ns_us]
    exact ⟨ha, hb, h1, h2⟩
  · rw [ns_uo z, ns_uo z, ns_uo z]
    exact h q (by omega)
theorem ed_X8 (h : ed_G s) (q : Nat) (hq : q < s.1) : ed_X s q < 8 := by
  obtain ⟨⟨i, hi, e⟩, _⟩ := h q hq
  unfold ed_X
  rw [e, nI_clamp (by omega)]
  exact hi
theorem ed_Y8 (h : ed_G s) (q : Nat) (hq : q < s.1) : ed_Y s q < 8 := by
  obtain ⟨_, ⟨i, hi, e⟩, _⟩ := h q hq
  unfold ed_Y
  rw [e, nI_clamp (by omega)]
  exact hi
theorem ed_sat_of (h : ed_G s) {r : Nat} (hr : ed_sol s (ed_it s r)) : ed_sat s := bz_seven (ed_X8 h) (ed_Y8 h) hr
theorem ed_sat_it {r t : Nat} (hr : ed_sol s (ed_it s r)) : ed_sol s (ed_it s (r + t)) := by
  unfold ed_it
  rw [bz_keep hr t]
  exact hr
theorem ed_lo (h : ed_G s) (hm : s.1 ≤ 81) (r j : Nat) : -(162081 * (r : Int)) ≤ ed_it s r j :=
  bz_lo hm (fun q hq => (h q hq).2.2.1) r j
theorem ed_hi (r j : Nat) : ed_it s r j ≤ 0 := bz_np r j
/-- one edge, over the machine's numbers: what it adds and what it compares -/
theorem ed_sum {p c : Int32} (h1 : -2000000 ≤ p.toInt) (h2 : p.toInt ≤ 0) (h3 : -2001 ≤ c.toInt) (h4 : c.toInt ≤ 2001) : (p + c).toInt = p.toInt + c.toInt := by
  rw [Int32.toInt_add]
  exact Int.bmod_eq_of_le (by omega) (by omega)
/-- the pass from d up to q, its flag: 0 while every edge below q holds at d -/
def ed_F (s : Nat × (Nat → Int32) × (Nat → Int32) × (Nat → Int32)) (d : Nat → Int) (q : Nat) (f : Int32) : Prop :=
  (f = 0 ∧ ed_pass s d q = d ∧ ∀ i, i < q → d (ed_X s i) ≤ d (ed_Y s i) + ed_W s i) ∨
  (f = 1 ∧ ∃ i, i < q ∧ ¬ d (ed_X s i) ≤ d (ed_Y s i) + ed_W s i)
theorem ed_F0 (d : Nat → Int) : ed_F s d 0 0 := Or.inl ⟨rfl, rfl, fun _ h => absurd h (Nat.not_lt_zero _)⟩
theorem ed_F_t {d : Nat → Int} {q : Nat} {f : Int32} (h : ed_F s d q f) (hc : ed_pass s d q (ed_Y s q) + ed_W s q < ed_pass s d q (ed_X s q)) : ed_F s d (q + 1) 1 := by
  rcases h with ⟨_, h2, _⟩ | ⟨_, i, hi, h3⟩
  · rw [h2] at hc
    exact Or.inr ⟨rfl, q, by omega, by omega⟩
  · exact Or.inr ⟨rfl, i, by omega, h3⟩
theorem ed_F_f {d : Nat → Int} {q : Nat} {f : Int32} (h : ed_F s d q f) (hc : ¬ ed_pass s d q (ed_Y s q) + ed_W s q < ed_pass s d q (ed_X s q)) : ed_F s d (q + 1) f := by
  rcases h with ⟨h1, h2, h3⟩ | ⟨h1, i, hi, h3⟩
  · refine Or.inl ⟨h1, ?_, ?_⟩
    · show bz_step (ed_X s) (ed_Y s) (ed_W s) (ed_pass s d q) q = d
      funext j
      unfold bz_step
      rw [if_neg (fun z => hc z.2), h2]
    · intro i hi
      by_cases z : i = q
      · rw [h2] at hc
        rw [z]
        omega
      · exact h3 i (by omega)
  · exact Or.inr ⟨h1, i, by omega, h3⟩
theorem ed_F_e {d : Nat → Int} {f : Int32} (h : ed_F s d s.1 f) : (f = 0 ∧ ed_sol s d) ∨ (f = 1 ∧ ¬ ed_sol s d) := by
  rcases h with ⟨h1, _, h3⟩ | ⟨h1, i, hi, h3⟩
  · exact Or.inl ⟨h1, h3⟩
  · exact Or.inr ⟨h1, fun z => h3 (z i hi)⟩
/-- the array's step -/
theorem ed_A_t {a : Nat → Int32} {d : Nat → Int} {q : Nat} {t : Int32} (h : ed_A a (ed_pass s d q)) (hX : ed_X s q < 8)
    (hc : ed_pass s d q (ed_Y s q) + ed_W s q < ed_pass s d q (ed_X s q)) (ht : t.toInt = ed_pass s d q (ed_Y s q) + ed_W s q) : ed_A (upd a (ed_X s q) t) (ed_pass s d (q + 1)) := by
  intro j hj
  show _ = bz_step (ed_X s) (ed_Y s) (ed_W s) (ed_pass s d q) q j
  unfold bz_step
  by_cases z : j = ed_X s q
  · rw [if_pos ⟨z, hc⟩, z, ns_us]
    exact ht
  · rw [if_neg (fun w => z w.1), ns_uo z]
    exact h j hj
theorem ed_A_f {a : Nat → Int32} {d : Nat → Int} {q : Nat} (h : ed_A a (ed_pass s d q))
    (hc : ¬ ed_pass s d q (ed_Y s q) + ed_W s q < ed_pass s d q (ed_X s q)) : ed_A a (ed_pass s d (q + 1)) := by
  intro j hj
  show _ = bz_step (ed_X s) (ed_Y s) (ed_W s) (ed_pass s d q) q j
  unfold bz_step
  rw [if_neg (fun w => hc w.2)]
  exact h j hj
end
end
section
/-! Branches read as integers; the small tests of both sides -/
theorem zq_lt {x y : Int32} {p q : Int} {A B : Prop} (hx : x.toInt = p) (hy : y.toInt = q) (f : p < q → A) (g : q ≤ p → B) : (x < y → A) ∧ (¬ x < y → B) := by
  rw [Int32.lt_iff_toInt_lt, hx, hy]
  exact ⟨f, fun z => g (by omega)⟩
theorem zq_le {x y : Int32} {p q : Int} {A B : Prop} (hx : x.toInt = p) (hy : y.toInt = q) (f : p ≤ q → A) (g : q < p → B) : (x ≤ y → A) ∧ (¬ x ≤ y → B) := by
  rw [Int32.le_iff_toInt_le, hx, hy]
  exact ⟨f, fun z => g (by omega)⟩
theorem zq_0 : (0 : Int32).toInt = 0 := by decide
theorem zq_1 : (1 : Int32).toInt = 1 := by decide
theorem zq_3 : (3 : Int32).toInt = 3 := by decide
theorem zq_4 : (4 : Int32).toInt = 4 := by decide
theorem zq_5 : (5 : Int32).toInt = 5 := by decide
theorem zq_7 : (7 : Int32).toInt = 7 := by decide
theorem zq_8 : (8 : Int32).toInt = 8 := by decide
theorem zq_15 : (15 : Int32).toInt = 15 := by decide
theorem zq_16 : (16 : Int32).toInt = 16 := by decide
theorem zq_32 : (32 : Int32).toInt = 32 := by decide
theorem zq_k : (1000 : Int32).toInt = 1000 := by decide
theorem zq_mk : (-1000 : Int32).toInt = -1000 := by decide
theorem zq_m1 : (-1 : Int32).toInt = -1 := by decide
theorem zq_in {x : Int32} {n : Nat} (h0 : 0 ≤ x.toInt) (h1 : x.toInt < n) : vp_in x n := vp_in_iff.mpr ⟨h0, h1⟩
/-- a number between 0 and k is a natural's -/
theorem zq_n {x : Int32} {k : Nat} (h0 : 0 ≤ x.toInt) (h1 : x.toInt ≤ k) : ∃ j : Nat, j ≤ k ∧ x = nI j ∧ x.toInt = j := by
  have h : ¬ x < 0 := by rw [Int32.lt_iff_toInt_lt, zq_0]; omega
  obtain ⟨j, hj, rfl⟩ := nI_of h
  rw [nI_toInt hj] at h1
  exact ⟨j, by omega, rfl, nI_toInt hj⟩
theorem zq_pm (n : Nat) : nI (n + 1) + (-1) = nI n := by
  rw [← nI_1, Int32.add_assoc, show (1 : Int32) + (-1) = 0 from rfl, Int32.add_zero]
def zS (x : Int32) : Prop := 0 ≤ x.toInt ∧ x.toInt ≤ 3
section
variable {post : Int32 → Prop} {p : Int32}
theorem sx_sv (h1 : zS p → post 1) (h0 : ¬ zS p → post 0) : wpX_isSizeVariable post p :=
  zq_lt rfl zq_0 (fun h => h0 (fun z => by have := z.1; omega)) (fun h => zq_le zq_4 rfl (fun g => h0 (fun z => by have := z.2; omega)) (fun g => h1 ⟨h, by omega⟩))
theorem sx_ar (h1 : zS p → post 1) (h0 : ¬ zS p → post 0) : wpX_isArray post p :=
  zq_lt rfl zq_0 (fun h => h0 (fun z => by have := z.1; omega)) (fun h => zq_le zq_4 rfl (fun g => h0 (fun z => by have := z.2; omega)) (fun g => h1 ⟨h, by omega⟩))
theorem sx_k (h1 : ns_K p → post 1) (h0 : ¬ ns_K p → post 0) : wpX_isConstant post p :=
  zq_lt rfl zq_mk (fun h => h0 (fun z => by have := z.1; omega)) (fun h => zq_lt zq_k rfl (fun g => h0 (fun z => by have := z.2; omega)) (fun g => h1 ⟨h, g⟩))
theorem sx_ci (h1 : 0 ≤ p.toInt ∧ p.toInt ≤ 15 → post 1) (h0 : ¬ (0 ≤ p.toInt ∧ p.toInt ≤ 15) → post 0) : wpX_isCellIndex post p :=
  zq_lt rfl zq_0 (fun h => h0 (by omega)) (fun h => zq_le zq_16 rfl (fun g => h0 (by omega)) (fun g => h1 (by omega)))
theorem sx_lv (h1 : 4 ≤ p.toInt ∧ p.toInt ≤ 7 → post 1) (h0 : ¬ (4 ≤ p.toInt ∧ p.toInt ≤ 7) → post 0) : wpX_isLoopVariable post p :=
  zq_lt rfl zq_4 (fun h => h0 (by omega)) (fun h => zq_le zq_8 rfl (fun g => h0 (by omega)) (fun g => h1 (by omega)))
theorem sx_ac (h1 : p = 5 ∨ p = 6 ∨ p = 7 → post 1) (h0 : ¬ (p = 5 ∨ p = 6 ∨ p = 7) → post 0) : wpX_isAccess post p :=
  br_c (fun h => h1 (Or.inl h)) (fun h => br_c (fun g => h1 (Or.inr (Or.inl g))) (fun g => br_c (fun k => h1 (Or.inr (Or.inr k))) (fun k => h0 (fun z => z.elim h (fun z => z.elim g k)))))
variable {K1 K2 fn fp fa ft fe : Int32} {ro ra rv rc px py pc lv lc vy ce ex ey ew ds hi : Nat → Int32}
theorem sy_bc (h0 : ns_K p → post 0) (h1 : ¬ ns_K p → post 1) : wpY_badC post (K1, K2, fn, fp, fa, ft, fe, ro, ra, rv, rc, px, py, pc, lv, lc, vy, ce, ex, ey, ew, ds, hi) p :=
  zq_lt rfl zq_mk (fun h => h1 (fun z => by have := z.1; omega)) (fun h => zq_le rfl zq_k (fun g => h0 ⟨h, g⟩) (fun g => h1 (fun z => by have := z.2; omega)))
theorem sy_ib {k : Nat} (hk : k < 32) (h1 : ns_B (ro k) → post 1) (h0 : ¬ ns_B (ro k) → post 0) : wpY_isBlock post (K1, K2, fn, fp, fa, ft, fe, ro, ra, rv, rc, px, py, pc, lv, lc, vy, ce, ex, ey, ew, ds, hi) (nI k) := by
  have e : (nI k).toNatClampNeg = k := nI_clamp (by omega)
  unfold wpY_isBlock
  dsimp only
  rw [e]
  exact ⟨vp_in_nI hk (by omega), br_c (fun h => h1 (Or.inl h)) (fun h => ⟨vp_in_nI hk (by omega), br_c (fun g => h1 (Or.inr g)) (fun g => h0 (fun z => z.elim h g))⟩)⟩
/-! the reference's searches -/
theorem sy_me_l {n j : Nat} (hn : n ≤ 32) (h : post (ns_res (ns_at ro j n))) : ∀ t k d : Nat, k + t = n → j < k → ns_at ro j k = .inl d → wY_matchEnd_6 post K1 K2 (nI n) fp fa ft fe ro ra rv rc px py pc lv lc vy ce ex ey ew ds hi (t + 1) (nI d) (nI k) := by
  intro t
  induction t with
  | zero =>
    intro k d hk hj hd
    have e : k = n := by omega
    subst e
    rw [hd] at h
    exact br_t (nI_le (by omega) (by omega)) h
  | succ t ih =>
    intro k d hk hj hd
    refine br_f (nI_ge (by omega) (by omega)) (sy_ib (by omega) (fun hB => ?_) (fun hB => ?_))
    · refine br_f (by decide) (nm_r (nI_1 d) (nm_r (nI_1 k) (ih (k + 1) (d + 1) (by omega) (by omega) ?_)))
      rw [ns_s hj, hd, ns_xB d hB]
    · refine br_t rfl ⟨vp_in_nI (by omega) (by omega), ?_⟩
      rw [nI_clamp (show k < 2 ^ 31 by omega)]
      by_cases h3 : ro k = 3
      · refine br_t h3 ?_
        cases d with
        | zero =>
          refine br_t rfl ?_
          have hf : ns_at ro j (k + 1) = .inr k := by rw [ns_s hj, hd, ns_x0 h3]
          rw [ns_keep' hf (by omega)] at h
          exact h
        | succ d =>
          have hdl := ns_dl k (d + 1) hd
          refine br_f (nI_ne0 (by omega) (by omega)) (nm_r (zq_pm d) (nm_r (nI_1 k) (ih (k + 1) d (by omega) (by omega) ?_)))
          rw [ns_s hj, hd, ns_xS d h3]
      · refine br_f h3 (nm_r (nI_1 k) (ih (k + 1) d (by omega) (by omega) ?_))
        rw [ns_s hj, hd, ns_xo d hB h3]
theorem sy_me {n j : Nat} (hn : n ≤ 32) (hj : j < n) (h : post (ns_res (ns_at ro j n))) : wpY_matchEnd post (K1, K2, nI n, fp, fa, ft, fe, ro, ra, rv, rc, px, py, pc, lv, lc, vy, ce, ex, ey, ew, ds, hi) (nI j) :=
  nm_r (nI_1 j) ⟨_, sy_me_l hn h (n - (j + 1)) (j + 1) 0 (by omega) (by omega) (ns_le (by omega))⟩
theorem sy_ao_l {n : Nat} (hn : n ≤ 32) (h1 : (∃ j d, j < n ∧ ns_B (ro j) ∧ ns_at ro j n = .inl d) → post 1) (h0 : ¬ (∃ j d, j < n ∧ ns_B (ro j) ∧ ns_at ro j n = .inl d) → post 0) :
    ∀ t k : Nat, k + t = n → (∀ j d, j < k → ns_B (ro j) → ¬ ns_at ro j n = .inl d) → wY_anyOpen_2 post K1 K2 (nI n) fp fa ft fe ro ra rv rc px py pc lv lc vy ce ex ey ew ds hi (t + 1) (nI k) := by
  intro t
  induction t with
  | zero =>
    intro k hk hp
    exact br_t (nI_le (by omega) (by omega)) (h0 fun z => by obtain ⟨j, d, a, b, c⟩ := z; exact hp j d (by omega) b c)
  | succ t ih =>
    intro k hk hp
    refine br_f (nI_ge (by omega) (by omega)) (sy_ib (by omega) (fun hB => ?_) (fun hB => ?_))
    · refine br_f (by decide) (sy_me hn (by omega) ?_)
      cases q : ns_at ro k n with
      | inl d => exact br_f (show ¬ (0 : Int32) ≤ -1 by decide) (h1 ⟨k, d, by omega, hB, q⟩)
      | inr e =>
        have he := ns_fnd n q
        refine br_t (nI_pos' (by omega)) (nm_r (nI_1 k) (ih (k + 1) (by omega) ?_))
        intro j d hj hb
        by_cases z : j = k
        · subst z
          rw [q]
          intro w
          cases w
        · exact hp j d (by omega) hb
    · refine br_t rfl (nm_r (nI_1 k) (ih (k + 1) (by omega) ?_))
      intro j d hj hb
      by_cases z : j = k
      · subst z
        exact absurd hb hB
      · exact hp j d (by omega) hb
theorem sy_ao {n : Nat} (hn : n ≤ 32) (h1 : (∃ j d, j < n ∧ ns_B (ro j) ∧ ns_at ro j n = .inl d) → post 1) (h0 : ¬ (∃ j d, j < n ∧ ns_B (ro j) ∧ ns_at ro j n = .inl d) → post 0) : wpY_anyOpen post (K1, K2, nI n, fp, fa, ft, fe, ro, ra, rv, rc, px, py, pc, lv, lc, vy, ce, ex, ey, ew, ds, hi) :=
  Exists.intro _ (sy_ao_l hn h1 h0 n 0 (by omega) (fun _ _ h => absurd h (Nat.not_lt_zero _)))
theorem sy_ol_l {n : Nat} {x : Int32} (hn : n ≤ 32) (h1 : (∃ j d, j < n ∧ ro j = 1 ∧ ra j = x ∧ ns_at ro j n = .inl d) → post 1) (h0 : ¬ (∃ j d, j < n ∧ ro j = 1 ∧ ra j = x ∧ ns_at ro j n = .inl d) → post 0) :
    ∀ t k : Nat, k + t = n → (∀ j d, j < k → ro j = 1 → ra j = x → ¬ ns_at ro j n = .inl d) → wY_openLoopVar_2 post x K1 K2 (nI n) fp fa ft fe ro ra rv rc px py pc lv lc vy ce ex ey ew ds hi (t + 1) (nI k) := by
  intro t
  induction t with
  | zero =>
    intro k hk hp
    exact br_t (nI_le (by omega) (by omega)) (h0 fun z => by obtain ⟨j, d, a, b, c, e⟩ := z; exact hp j d (by omega) b c e)
  | succ t ih =>
    intro k hk hp
    have ec : (nI k).toNatClampNeg = k := nI_clamp (by omega)
    refine br_f (nI_ge (by omega) (by omega)) ⟨vp_in_nI (by omega) (by omega), ?_⟩
    rw [ec]
    have nx : (∀ d, ro k = 1 → ra k = x → ¬ ns_at ro k n = .inl d) → wY_openLoopVar_2 post x K1 K2 (nI n) fp fa ft fe ro ra rv rc px py pc lv lc vy ce ex ey ew ds hi (t + 1) (nI (k + 1)) := by
      intro hk2
      refine ih (k + 1) (by omega) ?_
      intro j d hj h3 h4
      by_cases z : j = k
      · subst z
        exact hk2 d h3 h4
      · exact hp j d (by omega) h3 h4
    by_cases g1 : ro k = 1
    · refine br_t g1 ⟨vp_in_nI (by omega) (by omega), ?_⟩
      by_cases g2 : ra k = x
      · refine br_t g2 (sy_me hn (by omega) ?_)
        cases q : ns_at ro k n with
        | inl d => exact br_f (show ¬ (0 : Int32) ≤ -1 by decide) (h1 ⟨k, d, by omega, g1, g2, q⟩)
        | inr e =>
          have he := ns_fnd n q
          refine br_t (nI_pos' (by omega)) (nm_r (nI_1 k) (nx ?_))
          intro d _ _
          rw [q]
          intro w
          cases w
      · exact br_f g2 (nm_r (nI_1 k) (nx (fun _ _ z => absurd z g2)))
    · exact br_f g1 (nm_r (nI_1 k) (nx (fun _ z => absurd z g1)))
theorem sy_ol {n : Nat} {x : Int32} (hn : n ≤ 32) (h1 : (∃ j d, j < n ∧ ro j = 1 ∧ ra j = x ∧ ns_at ro j n = .inl d) → post 1) (h0 : ¬ (∃ j d, j < n ∧ ro j = 1 ∧ ra j = x ∧ ns_at ro j n = .inl d) → post 0) : wpY_openLoopVar post (K1, K2, nI n, fp, fa, ft, fe, ro, ra, rv, rc, px, py, pc, lv, lc, vy, ce, ex, ey, ew, ds, hi) x :=
  Exists.intro _ (sy_ol_l hn h1 h0 n 0 (by omega) (fun _ _ h => absurd h (Nat.not_lt_zero _)))
theorem sy_mo_l {n j0 e : Nat} (hn : n ≤ 32) (hj0 : j0 < e) (he : e < n) (hB : ns_B (ro j0)) (hf : ns_at ro j0 n = .inr e) (hu : ∀ j, j < n → ns_B (ro j) → ns_at ro j n = .inr e → j = j0) (h : post (nI j0)) :
    ∀ t : Nat, j0 + t < e → wY_matchOpen_4 post (nI e) K1 K2 (nI n) fp fa ft fe ro ra rv rc px py pc lv lc vy ce ex ey ew ds hi (t + 1) (nI (j0 + t)) := by
  intro t
  induction t with
  | zero =>
    intro hk
    refine br_f (nI_pos (by omega)) (sy_ib (by omega) (fun _ => ?_) (fun z => absurd hB z))
    refine br_f (by decide) (sy_me hn (by omega) ?_)
    show _ ∧ _
    rw [Nat.add_zero, hf]
    exact br_t rfl h
  | succ t ih =>
    intro hk
    refine br_f (nI_pos (by omega)) (sy_ib (by omega) (fun hb => ?_) (fun hb => ?_))
    · refine br_f (by decide) (sy_me hn (by omega) ?_)
      refine br_f ?_ (nm_r (zq_pm (j0 + t)) (ih (by omega)))
      intro z
      cases q : ns_at ro (j0 + (t + 1)) n with
      | inl d =>
        rw [q] at z
        have z2 := congrArg Int32.toInt z
        rw [nI_toInt (by omega)] at z2
        rw [show (ns_res (Sum.inl d)) = -1 from rfl, zq_m1] at z2
        omega
      | inr g =>
        have hg := ns_fnd n q
        rw [q] at z
        have z2 : g = e := (nI_eq (by omega) (by omega)).mp z
        subst z2
        have := hu _ (by omega) hb q
        omega
    · exact br_t rfl (nm_r (zq_pm (j0 + t)) (ih (by omega)))
theorem sy_mo {n j0 e : Nat} (hn : n ≤ 32) (hj0 : j0 < e) (he : e < n) (hB : ns_B (ro j0)) (hf : ns_at ro j0 n = .inr e) (hu : ∀ j, j < n → ns_B (ro j) → ns_at ro j n = .inr e → j = j0) (h : post (nI j0)) : wpY_matchOpen post (K1, K2, nI n, fp, fa, ft, fe, ro, ra, rv, rc, px, py, pc, lv, lc, vy, ce, ex, ey, ew, ds, hi) (nI e) := by
  obtain ⟨t, rfl⟩ : ∃ t, e = j0 + t + 1 := ⟨e - j0 - 1, by omega⟩
  exact nm_r (nI_pred (j0 + t)) ⟨_, sy_mo_l hn hj0 he hB hf hu h t (by omega)⟩
theorem sy_bd {n : Nat} {x : Int32} (hn : n ≤ 32) (hL : ∀ j, j < n → ro j = 1 → 4 ≤ (ra j).toInt ∧ (ra j).toInt ≤ 7) (h1 : ns_Bd ro ra n x → post 1) (h0 : ¬ ns_Bd ro ra n x → post 0) : wpY_bound post (K1, K2, nI n, fp, fa, ft, fe, ro, ra, rv, rc, px, py, pc, lv, lc, vy, ce, ex, ey, ew, ds, hi) x := by
  have key : ¬ (0 ≤ x.toInt ∧ x.toInt ≤ 3) → wY_bound_11 post x K1 K2 (nI n) fp fa ft fe ro ra rv rc px py pc lv lc vy ce ex ey ew ds hi := by
    intro hs
    have no : ¬ (4 ≤ x.toInt ∧ x.toInt ≤ 7) → ¬ ns_Bd ro ra n x := by
      intro hx z
      rcases z with z | ⟨j, d, hj, h2, h3, _⟩
      · exact hs z
      · have := hL j hj h2
        rw [h3] at this
        exact hx this
    refine zq_lt rfl zq_4 (fun h => h0 (no (by omega))) (fun h => zq_lt zq_7 rfl (fun g => h0 (no (by omega))) (fun g => ?_))
    refine sy_ol hn (fun z => br_f (by decide) (h1 (Or.inr ?_))) (fun z => br_t rfl (h0 ?_))
    · exact z
    · intro w
      rcases w with w | w
      · exact hs w
      · exact z w
  exact zq_lt rfl zq_0 (fun h => key (by omega)) (fun h => zq_lt zq_3 rfl (fun g => key (by omega)) (fun g => h1 (Or.inl ⟨h, g⟩)))
end
end
section
/-! The relation -/
def zR (kc pq n m np : Nat) (s : Nat → Nat) (ro ra rv rc rP rS px py pc lv lc vx vy : Nat → Int32) : Prop :=
  (kc ≤ 32 ∧ pq ≤ 16 ∧ n ≤ kc ∧ np ≤ pq ∧ m ≤ n) ∧
  (∀ i, i < m → rS i = nI (s i)) ∧ ns_PI ro rP s n m ∧ (∀ p, p < n → ns_WF ro ra rv rc p) ∧
  (∀ i, i < np → zS (px i) ∧ zS (py i) ∧ ns_K (pc i)) ∧ (∀ i, i < 4 → zS (lv i) ∧ ns_K (lc i)) ∧ (∀ i, i < 4 → vx i = vy i)
def i_Rel (_ : Nat) (u : SX) (v : SY) : Prop :=
  ∃ (kc pq n m np : Nat) (s : Nat → Nat) (fa ft fk fe : Int32) (ro ra rv rc rP rS px py pc lv lc ce vx le cx cy cw cd vy ex ey ew ds hi : Nat → Int32),
    u = (nI kc, nI pq, nI n, nI m, nI np, fa, ft, fk, ro, ra, rv, rc, rP, rS, px, py, pc, lv, lc, ce, vx, le, cx, cy, cw, cd) ∧ v = (nI kc, nI pq, nI n, nI np, fa, ft, fe, ro, ra, rv, rc, px, py, pc, lv, lc, vy, ce, ex, ey, ew, ds, hi) ∧
    zR kc pq n m np s ro ra rv rc rP rS px py pc lv lc vx vy
theorem i_up {k : Nat} {u : SX} {v : SY} (h : i_Rel k u v) : i_Rel (k + 5) u v := h
section
variable {kc pq n m np : Nat} {s : Nat → Nat} {K1 K2 fn fm fp fa ft fk fe : Int32} {ro ra rv rc rP rS px py pc lv lc ce vx le cx cy cw cd vy ex ey ew ds hi : Nat → Int32}
theorem zr_mk {k : Nat} (R : zR kc pq n m np s ro ra rv rc rP rS px py pc lv lc vx vy) :
    i_Rel k (nI kc, nI pq, nI n, nI m, nI np, fa, ft, fk, ro, ra, rv, rc, rP, rS, px, py, pc, lv, lc, ce, vx, le, cx, cy, cw, cd) (nI kc, nI pq, nI n, nI np, fa, ft, fe, ro, ra, rv, rc, px, py, pc, lv, lc, vy, ce, ex, ey, ew, ds, hi) :=
  ⟨kc, pq, n, m, np, s, fa, ft, fk, fe, ro, ra, rv, rc, rP, rS, px, py, pc, lv, lc, ce, vx, le, cx, cy, cw, cd, vy, ex, ey, ew, ds, hi, rfl, rfl, R⟩
theorem zr_loop (R : zR kc pq n m np s ro ra rv rc rP rS px py pc lv lc vx vy) : ∀ j, j < n → ro j = 1 → 4 ≤ (ra j).toInt ∧ (ra j).toInt ≤ 7 := by
  intro j hj h1
  rcases R.2.2.2.1 j hj with h | h | h | h | h
  · exact h.2.1
  · rw [h1] at h; exact absurd h.1 (by decide)
  · rw [h1] at h; exact absurd h (by decide)
  · rw [h1] at h; exact absurd h.1 (by decide)
  · rw [h1] at h; exact absurd h.1 (by decide)
/-- a variable bound at a place of the program is one of the eight -/
theorem zr_bd (R : zR kc pq n m np s ro ra rv rc rP rS px py pc lv lc vx vy) {p : Nat} {x : Int32} (hp : p ≤ n) (h : ns_Bd ro ra p x) : ed_V x := by
  have hx : 0 ≤ x.toInt ∧ x.toInt ≤ 7 := by
    rcases h with h | ⟨j, d, hj, h1, h2, _⟩
    · omega
    · have := zr_loop R j (by omega) h1
      rw [h2] at this
      omega
  obtain ⟨j, hj, e, _⟩ := zq_n (k := 7) hx.1 hx.2
  exact ⟨j, by omega, e⟩
/-- the stack holds what the scans find pending -/
theorem zr_ol (R : zR kc pq n m np s ro ra rv rc rP rS px py pc lv lc vx vy) {x : Int32} : (∃ i, i < m ∧ ro (s i) = 1 ∧ ra (s i) = x) ↔ (∃ j d, j < n ∧ ro j = 1 ∧ ra j = x ∧ ns_at ro j n = .inl d) := by
  constructor
  · intro ⟨i, hi, h1, h2⟩
    obtain ⟨g1, _, _, d, g4, _⟩ := R.2.2.1.1 i hi
    exact ⟨s i, d, g1, h1, h2, g4⟩
  · intro ⟨j, d, hj, h1, h2, h3⟩
    obtain ⟨i, hi, e⟩ := ns_op R.2.2.1 hj (Or.inl h1) h3
    exact ⟨i, hi, by rw [e]; exact h1, by rw [e]; exact h2⟩
theorem zr_ao (R : zR kc pq n m np s ro ra rv rc rP rS px py pc lv lc vx vy) : 0 < m ↔ (∃ j d, j < n ∧ ns_B (ro j) ∧ ns_at ro j n = .inl d) := by
  constructor
  · intro hm
    obtain ⟨g1, g2, _, d, g4, _⟩ := R.2.2.1.1 0 hm
    exact ⟨s 0, d, g1, g2, g4⟩
  · intro ⟨j, d, hj, h1, h3⟩
    obtain ⟨i, hi, _⟩ := ns_op R.2.2.1 hj h1 h3
    omega
end
/-! construction -/
theorem zi_cl (x : Int32) {lo hi : Int32} {l h : Nat} (hlo : lo = nI l) (hhi : hi = nI h) (hlh : l ≤ h) (hh : h < 2 ^ 31) : ∃ k : Nat, k ≤ h ∧ (∀ P : Int32 → Prop, P (nI k) → ((lo ≤ x → ((x ≤ hi → P x) ∧ (¬ x ≤ hi → P hi))) ∧ (¬ lo ≤ x → P lo))) := by
  by_cases a : lo ≤ x
  · by_cases b : x ≤ hi
    · have h0 : 0 ≤ x.toInt := by
        rw [hlo, Int32.le_iff_toInt_le, nI_toInt (by omega)] at a
        omega
      have h1 : x.toInt ≤ h := by
        rw [hhi, Int32.le_iff_toInt_le, nI_toInt hh] at b
        exact b
      obtain ⟨j, hj, e, _⟩ := zq_n h0 h1
      exact ⟨j, hj, fun P p => br_t a (br_t b (by rw [e]; exact p))⟩
    · exact ⟨h, Nat.le_refl _, fun P p => br_t a (br_f b (by rw [hhi]; exact p))⟩
  · exact ⟨l, hlh, fun P p => br_f a (by rw [hlo]; exact p)⟩
theorem zi_0 : zS 0 ∧ ns_K 0 := ⟨⟨by decide, by decide⟩, by decide, by decide⟩
theorem zi_Y {post : SY → Prop} {k0 k1 : Int32} {kc pq : Nat}
    (H1 : ∀ P : Int32 → Prop, P (nI kc) → ((8 ≤ k0 → ((k0 ≤ 32 → P k0) ∧ (¬ k0 ≤ 32 → P 32))) ∧ (¬ 8 ≤ k0 → P 8)))
    (H2 : ∀ P : Int32 → Prop, P (nI pq) → ((4 ≤ k1 → ((k1 ≤ 16 → P k1) ∧ (¬ k1 ≤ 16 → P 16))) ∧ (¬ 4 ≤ k1 → P 4)))
    (h : post (nI kc, nI pq, 0, 0, 0, -1, 0, (fun _ => 0), (fun _ => 0), (fun _ => 0), (fun _ => 0), (fun _ => 0), (fun _ => 0), (fun _ => 0), (fun _ => 0), (fun _ => 0), (fun _ => 0), (fun _ => 0), (fun _ => 0), (fun _ => 0), (fun _ => 0), (fun _ => 0), (fun _ => 0))) : wpY_init post k0 k1 :=
  H1 (fun z => wY_init_154 post k1 z 0 0 0 0 0 0 0 (fun _ => 0) (fun _ => 0) (fun _ => 0) (fun _ => 0) (fun _ => 0) (fun _ => 0) (fun _ => 0) (fun _ => 0) (fun _ => 0) (fun _ => 0) (fun _ => 0) (fun _ => 0) (fun _ => 0) (fun _ => 0) (fun _ => 0) (fun _ => 0)) (H2 (fun z => post (nI kc, z, 0, 0, 0, -1, 0, (fun _ => 0), (fun _ => 0), (fun _ => 0), (fun _ => 0), (fun _ => 0), (fun _ => 0), (fun _ => 0), (fun _ => 0), (fun _ => 0), (fun _ => 0), (fun _ => 0), (fun _ => 0), (fun _ => 0), (fun _ => 0), (fun _ => 0), (fun _ => 0))) h)
theorem i_vc0 (k0 : Int32) (k1 : Int32) : wpX_init (fun u => wpY_init (fun v => i_Rel 2 u v) k0 k1) k0 k1 := by
  obtain ⟨kc, h1, H1⟩ := zi_cl k0 (lo := 8) (hi := 32) (l := 8) (h := 32) rfl rfl (by omega) (by omega)
  obtain ⟨pq, h2, H2⟩ := zi_cl k1 (lo := 4) (hi := 16) (l := 4) (h := 16) rfl rfl (by omega) (by omega)
  have R : zR kc pq 0 0 0 (fun _ => 0) (fun _ => 0) (fun _ => 0) (fun _ => 0) (fun _ => 0) (fun _ => 0) (fun _ => 0) (fun _ => 0) (fun _ => 0) (fun _ => 0) (fun _ => 0) (fun _ => 0) (fun _ => 0) (fun _ => 0) :=
    ⟨⟨h1, h2, by omega, by omega, by omega⟩, fun _ h => absurd h (Nat.not_lt_zero _), ns_PI0 _ _ _, fun _ h => absurd h (Nat.not_lt_zero _), fun _ h => absurd h (Nat.not_lt_zero _), fun _ _ => zi_0, fun _ _ => rfl⟩
  have X1 : ∀ P : Int32 → Prop, P (nI kc) → wpX_clamp P k0 8 32 := fun P p => H1 P p
  have X2 : ∀ P : Int32 → Prop, P (nI pq) → wpX_clamp P k1 4 16 := fun P p => H2 P p
  unfold wpX_init
  refine X1 _ (X2 _ (zi_Y H1 H2 ?_))
  exact zr_mk (k := 2) R
/-! the calls that only read, and the small ones -/
theorem i_vc_acc {k : Nat} {u : SX} {v : SY} (I : i_Rel k u v) (hk : k + 5 ≤ 2562) : wpX_acc (fun r => wpY_acc (fun r' => r' = r ∧ i_Rel (k + 5) u v) v) u := by
  obtain ⟨kc, pq, n, m, np, s, fa, ft, fk, fe, ro, ra, rv, rc, rP, rS, px, py, pc, lv, lc, ce, vx, le, cx, cy, cw, cd, vy, ex, ey, ew, ds, hi, rfl, rfl, R⟩ := I
  exact ⟨rfl, zr_mk R⟩
theorem i_vc_trapAt {k : Nat} {u : SX} {v : SY} (I : i_Rel k u v) (hk : k + 5 ≤ 2562) : wpX_trapAt (fun r => wpY_trapAt (fun r' => r' = r ∧ i_Rel (k + 5) u v) v) u := by
  obtain ⟨kc, pq, n, m, np, s, fa, ft, fk, fe, ro, ra, rv, rc, rP, rS, px, py, pc, lv, lc, ce, vx, le, cx, cy, cw, cd, vy, ex, ey, ew, ds, hi, rfl, rfl, R⟩ := I
  exact ⟨rfl, zr_mk R⟩
theorem i_vc_size {k : Nat} {u : SX} {v : SY} (I : i_Rel k u v) (hk : k + 5 ≤ 2562) : wpX_size (fun r => wpY_size (fun r' => r' = r ∧ i_Rel (k + 5) u v) v) u := by
  obtain ⟨kc, pq, n, m, np, s, fa, ft, fk, fe, ro, ra, rv, rc, rP, rS, px, py, pc, lv, lc, ce, vx, le, cx, cy, cw, cd, vy, ex, ey, ew, ds, hi, rfl, rfl, R⟩ := I
  exact ⟨rfl, zr_mk R⟩
theorem i_vc_clearPre {k : Nat} {u : SX} {v : SY} (I : i_Rel k u v) (hk : k + 5 ≤ 2562) : wpX_clearPre (fun u' => wpY_clearPre (fun v' => i_Rel (k + 5) u' v') v) u := by
  obtain ⟨kc, pq, n, m, np, s, fa, ft, fk, fe, ro, ra, rv, rc, rP, rS, px, py, pc, lv, lc, ce, vx, le, cx, cy, cw, cd, vy, ex, ey, ew, ds, hi, rfl, rfl, R⟩ := I
  exact zr_mk (k := k + 5) (np := 0) ⟨⟨R.1.1, R.1.2.1, R.1.2.2.1, Nat.zero_le _, R.1.2.2.2.2⟩, R.2.1, R.2.2.1, R.2.2.2.1, fun _ h => absurd h (Nat.not_lt_zero _), R.2.2.2.2.2⟩
theorem i_vc_clearProgram {k : Nat} {u : SX} {v : SY} (I : i_Rel k u v) (hk : k + 5 ≤ 2562) : wpX_clearProgram (fun u' => wpY_clearProgram (fun v' => i_Rel (k + 5) u' v') v) u := by
  obtain ⟨kc, pq, n, m, np, s, fa, ft, fk, fe, ro, ra, rv, rc, rP, rS, px, py, pc, lv, lc, ce, vx, le, cx, cy, cw, cd, vy, ex, ey, ew, ds, hi, rfl, rfl, R⟩ := I
  exact zr_mk (k := k + 5) (n := 0) (m := 0) (s := s) ⟨⟨R.1.1, R.1.2.1, Nat.zero_le _, R.1.2.2.2.1, Nat.le_refl _⟩, fun _ h => absurd h (Nat.not_lt_zero _), ns_PI0 _ _ _, fun _ h => absurd h (Nat.not_lt_zero _), R.2.2.2.2⟩
theorem zr_lt {a b : Nat} (h : a < b) (hb : b < 2 ^ 31) : ¬ nI b ≤ nI a := nI_ge h hb
theorem i_vc_addPre {k : Nat} {u : SX} {v : SY} (I : i_Rel k u v) (hk : k + 5 ≤ 2562) (v1 : Int32) (v2 : Int32) (v3 : Int32) : wpX_addPre (fun r u' => wpY_addPre (fun r' v' => r' = r ∧ i_Rel (k + 5) u' v') v v1 v2 v3) u v1 v2 v3 := by
  obtain ⟨kc, pq, n, m, np, s, fa, ft, fk, fe, ro, ra, rv, rc, rP, rS, px, py, pc, lv, lc, ce, vx, le, cx, cy, cw, cd, vy, ex, ey, ew, ds, hi, rfl, rfl, R⟩ := I
  obtain ⟨⟨b1, b2, b3, b4, b5⟩, R2, R3, R4, R5, R6, R7⟩ := R
  have R0 : zR kc pq n m np s ro ra rv rc rP rS px py pc lv lc vx vy := ⟨⟨b1, b2, b3, b4, b5⟩, R2, R3, R4, R5, R6, R7⟩
  by_cases hc : np < pq
  · -- room is left
    have Yno : ¬ (zS v1 ∧ zS v2 ∧ ns_K v3) → wpY_addPre (fun r' v' => r' = 0 ∧ i_Rel (k + 5) (nI kc, nI pq, nI n, nI m, nI np, fa, ft, fk, ro, ra, rv, rc, rP, rS, px, py, pc, lv, lc, ce, vx, le, cx, cy, cw, cd) v') (nI kc, nI pq, nI n, nI np, fa, ft, fe, ro, ra, rv, rc, px, py, pc, lv, lc, vy, ce, ex, ey, ew, ds, hi) v1 v2 v3 := by
      intro hno
      refine br_t (nI_lt hc (by omega)) ?_
      refine zq_lt rfl zq_0 (fun _ => ⟨rfl, zr_mk R0⟩) (fun h1 => zq_lt zq_3 rfl (fun _ => ⟨rfl, zr_mk R0⟩) (fun h2 => zq_lt rfl zq_0 (fun _ => ⟨rfl, zr_mk R0⟩) (fun h3 => zq_le rfl zq_3 (fun h4 => ?_) (fun _ => ⟨rfl, zr_mk R0⟩))))
      exact sy_bc (fun h5 => absurd ⟨⟨h1, h2⟩, ⟨h3, h4⟩, h5⟩ hno) (fun _ => br_f (by decide) ⟨rfl, zr_mk R0⟩)
    refine br_f (nI_ge hc (by omega)) (sx_sv (fun g1 => br_f (by decide) (sx_sv (fun g2 => br_f (by decide) (sx_k (fun g3 => br_f (by decide) ?_) (fun g3 => br_t rfl (Yno (fun z => g3 z.2.2))))) (fun g2 => br_t rfl (Yno (fun z => g2 z.2.1))))) (fun g1 => br_t rfl (Yno (fun z => g1 z.1))))
    have e : (nI np).toNatClampNeg = np := nI_clamp (by omega)
    rw [e]
    refine ⟨vp_in_nI (by omega) (by omega), nm_e ⟨vp_in_nI (by omega) (by omega), nm_e ⟨vp_in_nI (by omega) (by omega), nm_e (nm_r (nI_1 np) ?_)⟩⟩⟩
    refine br_t (nI_lt hc (by omega)) (zq_lt rfl zq_0 (fun z => absurd g1.1 (by omega)) (fun _ => zq_lt zq_3 rfl (fun z => absurd g1.2 (by omega)) (fun _ => zq_lt rfl zq_0 (fun z => absurd g2.1 (by omega)) (fun _ => zq_le rfl zq_3 (fun _ => ?_) (fun z => absurd g2.2 (by omega))))))
    refine sy_bc (fun _ => br_t rfl ?_) (fun z => absurd g3 z)
    rw [e]
    refine ⟨vp_in_nI (by omega) (by omega), nm_e ⟨vp_in_nI (by omega) (by omega), nm_e ⟨vp_in_nI (by omega) (by omega), nm_e (nm_r (nI_1 np) ⟨rfl, zr_mk (np := np + 1) (s := s) ?_⟩)⟩⟩⟩
    refine ⟨⟨b1, b2, b3, by omega, b5⟩, R2, R3, R4, ?_, R6, R7⟩
    intro i hi
    by_cases z : i = np
    · rw [z, ns_us, ns_us, ns_us]
      exact ⟨g1, g2, g3⟩
    · rw [ns_uo z, ns_uo z, ns_uo z]
      exact R5 i (by omega)
  · exact br_t (nI_le (by omega) (by omega)) (br_f (nI_nlt (by omega) (by omega)) ⟨rfl, zr_mk R0⟩)
theorem i_vc_declare {k : Nat} {u : SX} {v : SY} (I : i_Rel k u v) (hk : k + 5 ≤ 2562) (v1 : Int32) (v2 : Int32) (v3 : Int32) : wpX_declare (fun r u' => wpY_declare (fun r' v' => r' = r ∧ i_Rel (k + 5) u' v') v v1 v2 v3) u v1 v2 v3 := by
  obtain ⟨kc, pq, n, m, np, s, fa, ft, fk, fe, ro, ra, rv, rc, rP, rS, px, py, pc, lv, lc, ce, vx, le, cx, cy, cw, cd, vy, ex, ey, ew, ds, hi, rfl, rfl, R⟩ := I
  obtain ⟨B, R2, R3, R4, R5, R6, R7⟩ := R
  have R0 : zR kc pq n m np s ro ra rv rc rP rS px py pc lv lc vx vy := ⟨B, R2, R3, R4, R5, R6, R7⟩
  have Yno : ¬ (zS v1 ∧ zS v2 ∧ ns_K v3) → wpY_declare (fun r' v' => r' = 0 ∧ i_Rel (k + 5) (nI kc, nI pq, nI n, nI m, nI np, fa, ft, fk, ro, ra, rv, rc, rP, rS, px, py, pc, lv, lc, ce, vx, le, cx, cy, cw, cd) v') (nI kc, nI pq, nI n, nI np, fa, ft, fe, ro, ra, rv, rc, px, py, pc, lv, lc, vy, ce, ex, ey, ew, ds, hi) v1 v2 v3 := by
    intro hno
    refine zq_lt rfl zq_0 (fun _ => ⟨rfl, zr_mk R0⟩) (fun h1 => zq_lt zq_3 rfl (fun _ => ⟨rfl, zr_mk R0⟩) (fun h2 => zq_lt rfl zq_0 (fun _ => ⟨rfl, zr_mk R0⟩) (fun h3 => zq_lt zq_3 rfl (fun _ => ⟨rfl, zr_mk R0⟩) (fun h4 => ?_))))
    exact sy_bc (fun h5 => absurd ⟨⟨h1, h2⟩, ⟨h3, h4⟩, h5⟩ hno) (fun _ => br_f (by decide) ⟨rfl, zr_mk R0⟩)
  unfold wpX_declare
  refine sx_ar (fun g1 => br_f (by decide) (sx_sv (fun g2 => br_f (by decide) (sx_k (fun g3 => br_f (by decide) ?_) (fun g3 => br_t rfl (Yno (fun z => g3 z.2.2))))) (fun g2 => br_t rfl (Yno (fun z => g2 z.2.1))))) (fun g1 => br_t rfl (Yno (fun z => g1 z.1)))
  obtain ⟨j, hj, e, ej⟩ := zq_n (k := 3) g1.1 g1.2
  have ec : v1.toNatClampNeg = j := by rw [e]; exact nI_clamp (by omega)
  have hin : vp_in v1 4 := by rw [e]; exact vp_in_nI (by omega) (by omega)
  rw [ec]
  refine ⟨hin, nm_e ⟨hin, nm_e ?_⟩⟩
  refine zq_lt rfl zq_0 (fun z => absurd g1.1 (by omega)) (fun _ => zq_lt zq_3 rfl (fun z => absurd g1.2 (by omega)) (fun _ => zq_lt rfl zq_0 (fun z => absurd g2.1 (by omega)) (fun _ => zq_lt zq_3 rfl (fun z => absurd g2.2 (by omega)) (fun _ => ?_))))
  refine sy_bc (fun _ => br_t rfl ?_) (fun z => absurd g3 z)
  rw [ec]
  refine ⟨hin, nm_e ⟨hin, nm_e ⟨rfl, zr_mk (s := s) ?_⟩⟩⟩
  refine ⟨B, R2, R3, R4, R5, ?_, R7⟩
  intro i hi2
  by_cases z : i = j
  · rw [z, ns_us, ns_us]
    exact ⟨g2, g3⟩
  · rw [ns_uo z, ns_uo z]
    exact R6 i hi2
theorem i_vc_setParam {k : Nat} {u : SX} {v : SY} (I : i_Rel k u v) (hk : k + 5 ≤ 2562) (v1 : Int32) (v2 : Int32) : wpX_setParam (fun r u' => wpY_setParam (fun r' v' => r' = r ∧ i_Rel (k + 5) u' v') v v1 v2) u v1 v2 := by
  obtain ⟨kc, pq, n, m, np, s, fa, ft, fk, fe, ro, ra, rv, rc, rP, rS, px, py, pc, lv, lc, ce, vx, le, cx, cy, cw, cd, vy, ex, ey, ew, ds, hi, rfl, rfl, R⟩ := I
  obtain ⟨B, R2, R3, R4, R5, R6, R7⟩ := R
  have R0 : zR kc pq n m np s ro ra rv rc rP rS px py pc lv lc vx vy := ⟨B, R2, R3, R4, R5, R6, R7⟩
  have Yno : ¬ ((1 ≤ v1.toInt ∧ v1.toInt ≤ 3) ∧ ns_K v2) → wpY_setParam (fun r' v' => r' = 0 ∧ i_Rel (k + 5) (nI kc, nI pq, nI n, nI m, nI np, fa, ft, fk, ro, ra, rv, rc, rP, rS, px, py, pc, lv, lc, ce, vx, le, cx, cy, cw, cd) v') (nI kc, nI pq, nI n, nI np, fa, ft, fe, ro, ra, rv, rc, px, py, pc, lv, lc, vy, ce, ex, ey, ew, ds, hi) v1 v2 := by
    intro hno
    refine zq_lt rfl zq_1 (fun _ => ⟨rfl, zr_mk R0⟩) (fun h1 => zq_lt zq_3 rfl (fun _ => ⟨rfl, zr_mk R0⟩) (fun h2 => ?_))
    exact sy_bc (fun h5 => absurd ⟨⟨h1, h2⟩, h5⟩ hno) (fun _ => br_f (by decide) ⟨rfl, zr_mk R0⟩)
  by_cases h0 : v1 = 0
  · refine br_t h0 (Yno (fun z => ?_))
    have := z.1.1
    rw [h0, zq_0] at this
    omega
  refine br_f h0 (sx_sv (fun g1 => br_f (by decide) (sx_k (fun g3 => br_f (by decide) ?_) (fun g3 => br_t rfl (Yno (fun z => g3 z.2))))) (fun g1 => br_t rfl (Yno (fun z => g1 ⟨by have := z.1.1; omega, z.1.2⟩))))
  obtain ⟨j, hj, e, ej⟩ := zq_n (k := 3) g1.1 g1.2
  have hj0 : 1 ≤ v1.toInt := by
    apply Classical.byContradiction
    intro z
    apply h0
    have : j = 0 := by omega
    rw [e, this]
    rfl
  have g12 := g1.2
  have ec : v1.toNatClampNeg = j := by rw [e]; exact nI_clamp (by omega)
  have hin : vp_in v1 8 := by rw [e]; exact vp_in_nI (by omega) (by omega)
  rw [ec]
  refine ⟨hin, nm_e ?_⟩
  refine zq_lt rfl zq_1 (fun z => absurd hj0 (by omega)) (fun _ => zq_lt zq_3 rfl (fun z => absurd g12 (by omega)) (fun _ => ?_))
  refine sy_bc (fun _ => br_t rfl ?_) (fun z => absurd g3 z)
  rw [ec]
  refine ⟨hin, nm_e ⟨rfl, zr_mk (s := s) ?_⟩⟩
  refine ⟨B, R2, R3, R4, R5, R6, ?_⟩
  intro i hi2
  by_cases z : i = j
  · rw [z, ns_us, ns_us]
  · rw [ns_uo z, ns_uo z]
    exact R7 i hi2
theorem zq_ce {x y : Int32} (hx : zS x) (hy : 0 ≤ y.toInt ∧ y.toInt ≤ 15) : ∃ j : Nat, j < 64 ∧ x * 16 + y = nI j := by
  obtain ⟨i, hi, e, _⟩ := zq_n (k := 3) hx.1 hx.2
  obtain ⟨j, hj, f, _⟩ := zq_n (k := 15) hy.1 hy.2
  refine ⟨i * 16 + j, by omega, ?_⟩
  rw [e, f, ← nI_add]
  show nI i * nI 16 + nI j = _
  rw [show nI i * nI 16 = nI (i * 16) from (Int32.ofNat_mul i 16).symm]
theorem i_vc_setCell {k : Nat} {u : SX} {v : SY} (I : i_Rel k u v) (hk : k + 5 ≤ 2562) (v1 : Int32) (v2 : Int32) (v3 : Int32) : wpX_setCell (fun r u' => wpY_setCell (fun r' v' => r' = r ∧ i_Rel (k + 5) u' v') v v1 v2 v3) u v1 v2 v3 := by
  obtain ⟨kc, pq, n, m, np, s, fa, ft, fk, fe, ro, ra, rv, rc, rP, rS, px, py, pc, lv, lc, ce, vx, le, cx, cy, cw, cd, vy, ex, ey, ew, ds, hi, rfl, rfl, R⟩ := I
  have Yno : ¬ (zS v1 ∧ (0 ≤ v2.toInt ∧ v2.toInt ≤ 15)) → wpY_setCell (fun r' v' => r' = 0 ∧ i_Rel (k + 5) (nI kc, nI pq, nI n, nI m, nI np, fa, ft, fk, ro, ra, rv, rc, rP, rS, px, py, pc, lv, lc, ce, vx, le, cx, cy, cw, cd) v') (nI kc, nI pq, nI n, nI np, fa, ft, fe, ro, ra, rv, rc, px, py, pc, lv, lc, vy, ce, ex, ey, ew, ds, hi) v1 v2 v3 := by
    intro hno
    exact zq_lt rfl zq_0 (fun _ => ⟨rfl, zr_mk R⟩) (fun h1 => zq_lt zq_3 rfl (fun _ => ⟨rfl, zr_mk R⟩) (fun h2 => zq_lt rfl zq_0 (fun _ => ⟨rfl, zr_mk R⟩) (fun h3 => zq_le rfl zq_15 (fun h4 => absurd ⟨⟨h1, h2⟩, h3, h4⟩ hno) (fun _ => ⟨rfl, zr_mk R⟩))))
  unfold wpX_setCell
  refine sx_ar (fun g1 => br_f (by decide) (sx_ci (fun g2 => br_f (by decide) ?_) (fun g2 => br_t rfl (Yno (fun z => g2 z.2))))) (fun g1 => br_t rfl (Yno (fun z => g1 z.1)))
  obtain ⟨j, hj, e⟩ := zq_ce g1 g2
  have hin : vp_in (v1 * 16 + v2) 64 := by rw [e]; exact vp_in_nI hj (by omega)
  refine ⟨hin, nm_e ?_⟩
  refine zq_lt rfl zq_0 (fun z => absurd g1.1 (by omega)) (fun _ => zq_lt zq_3 rfl (fun z => absurd g1.2 (by omega)) (fun _ => zq_lt rfl zq_0 (fun z => absurd g2.1 (by omega)) (fun _ => zq_le rfl zq_15 (fun _ => ?_) (fun z => absurd g2.2 (by omega)))))
  exact ⟨hin, nm_e ⟨rfl, zr_mk R⟩⟩
theorem i_vc_cell {k : Nat} {u : SX} {v : SY} (I : i_Rel k u v) (hk : k + 5 ≤ 2562) (v1 : Int32) (v2 : Int32) : wpX_cell (fun r => wpY_cell (fun r' => r' = r ∧ i_Rel (k + 5) u v) v v1 v2) u v1 v2 := by
  obtain ⟨kc, pq, n, m, np, s, fa, ft, fk, fe, ro, ra, rv, rc, rP, rS, px, py, pc, lv, lc, ce, vx, le, cx, cy, cw, cd, vy, ex, ey, ew, ds, hi, rfl, rfl, R⟩ := I
  have Yno : ¬ (zS v1 ∧ (0 ≤ v2.toInt ∧ v2.toInt ≤ 15)) → wpY_cell (fun r' => r' = 0 ∧ i_Rel (k + 5) (nI kc, nI pq, nI n, nI m, nI np, fa, ft, fk, ro, ra, rv, rc, rP, rS, px, py, pc, lv, lc, ce, vx, le, cx, cy, cw, cd) (nI kc, nI pq, nI n, nI np, fa, ft, fe, ro, ra, rv, rc, px, py, pc, lv, lc, vy, ce, ex, ey, ew, ds, hi)) (nI kc, nI pq, nI n, nI np, fa, ft, fe, ro, ra, rv, rc, px, py, pc, lv, lc, vy, ce, ex, ey, ew, ds, hi) v1 v2 := by
    intro hno
    exact zq_lt rfl zq_0 (fun _ => ⟨rfl, zr_mk R⟩) (fun h1 => zq_lt zq_3 rfl (fun _ => ⟨rfl, zr_mk R⟩) (fun h2 => zq_lt rfl zq_0 (fun _ => ⟨rfl, zr_mk R⟩) (fun h3 => zq_le rfl zq_15 (fun h4 => absurd ⟨⟨h1, h2⟩, h3, h4⟩ hno) (fun _ => ⟨rfl, zr_mk R⟩))))
  unfold wpX_cell
  refine sx_ar (fun g1 => br_f (by decide) (sx_ci (fun g2 => br_f (by decide) ?_) (fun g2 => br_t rfl (Yno (fun z => g2 z.2))))) (fun g1 => br_t rfl (Yno (fun z => g1 z.1)))
  obtain ⟨j, hj, e⟩ := zq_ce g1 g2
  have hin : vp_in (v1 * 16 + v2) 64 := by rw [e]; exact vp_in_nI hj (by omega)
  refine ⟨hin, ?_⟩
  refine zq_lt rfl zq_0 (fun z => absurd g1.1 (by omega)) (fun _ => zq_lt zq_3 rfl (fun z => absurd g1.2 (by omega)) (fun _ => zq_lt rfl zq_0 (fun z => absurd g2.1 (by omega)) (fun _ => zq_le rfl zq_15 (fun _ => ?_) (fun z => absurd g2.2 (by omega)))))
  exact ⟨hin, rfl, zr_mk R⟩
end
section
/-! Gathering: both sides fill their arrays with the same store -/
def ed_ctx (s0 : Nat × (Nat → Int32) × (Nat → Int32) × (Nat → Int32)) (ro ra rv rc rP : Nat → Int32) (k : Nat) : Nat → Nat × (Nat → Int32) × (Nat → Int32) × (Nat → Int32)
  | 0 => s0
  | j + 1 =>
    if (ro j = 1 ∨ ro j = 2) ∧ (rP j = -1 ∨ nI k < rP j) then
      (if ro j = 1 then ed_push (ed_push (ed_ctx s0 ro ra rv rc rP k j) 0 (ra j) 0) (ra j) (rv j) (rc j - 1)
       else ed_push (ed_ctx s0 ro ra rv rc rP k j) (ra j) (rv j) (rc j))
    else ed_ctx s0 ro ra rv rc rP k j
section
variable {s0 : Nat × (Nat → Int32) × (Nat → Int32) × (Nat → Int32)} {ro ra rv rc rP : Nat → Int32} {k : Nat}
theorem ed_cn {j : Nat} (h : ¬ ((ro j = 1 ∨ ro j = 2) ∧ (rP j = -1 ∨ nI k < rP j))) : ed_ctx s0 ro ra rv rc rP k (j + 1) = ed_ctx s0 ro ra rv rc rP k j := if_neg h
theorem ed_cl {j : Nat} (h : (ro j = 1 ∨ ro j = 2) ∧ (rP j = -1 ∨ nI k < rP j)) (h1 : ro j = 1) : ed_ctx s0 ro ra rv rc rP k (j + 1) = ed_push (ed_push (ed_ctx s0 ro ra rv rc rP k j) 0 (ra j) 0) (ra j) (rv j) (rc j - 1) := by
  show (if _ then _ else _) = _
  rw [if_pos h, if_pos h1]
theorem ed_ci {j : Nat} (h : (ro j = 1 ∨ ro j = 2) ∧ (rP j = -1 ∨ nI k < rP j)) (h1 : ¬ ro j = 1) : ed_ctx s0 ro ra rv rc rP k (j + 1) = ed_push (ed_ctx s0 ro ra rv rc rP k j) (ra j) (rv j) (rc j) := by
  show (if _ then _ else _) = _
  rw [if_pos h, if_neg h1]
theorem ed_c1 : ∀ j, (ed_ctx s0 ro ra rv rc rP k j).1 ≤ s0.1 + 2 * j := by
  intro j
  induction j with
  | zero => exact Nat.le_refl _
  | succ j ih =>
    by_cases h : (ro j = 1 ∨ ro j = 2) ∧ (rP j = -1 ∨ nI k < rP j)
    · by_cases h1 : ro j = 1
      · rw [ed_cl h h1]
        show (ed_ctx s0 ro ra rv rc rP k j).1 + 1 + 1 ≤ _
        omega
      · rw [ed_ci h h1]
        show (ed_ctx s0 ro ra rv rc rP k j).1 + 1 ≤ _
        omega
    · rw [ed_cn h]
      omega
theorem zq_s1 {x : Int32} (h1 : -2000 ≤ x.toInt) (h2 : x.toInt ≤ 2000) : (x - 1).toInt = x.toInt - 1 := by
  rw [Int32.toInt_sub, zq_1]
  exact Int.bmod_eq_of_le (by omega) (by omega)
theorem ed_V0 : ed_V 0 := ⟨0, by omega, rfl⟩
theorem ed_Gc (h0 : ed_G s0) : ∀ j, (∀ i, i < j → ns_B (ro i) → ed_V (ra i) ∧ ed_V (rv i) ∧ ns_K (rc i)) → ed_G (ed_ctx s0 ro ra rv rc rP k j) := by
  intro j
  induction j with
  | zero => exact fun _ => h0
  | succ j ih =>
    intro hw
    have hg := ih (fun i hi => hw i (by omega))
    by_cases h : (ro j = 1 ∨ ro j = 2) ∧ (rP j = -1 ∨ nI k < rP j)
    · obtain ⟨w1, w2, w3⟩ := hw j (by omega) h.1
      have w4 := w3.1
      have w5 := w3.2
      by_cases h1 : ro j = 1
      · rw [ed_cl h h1]
        have hs := zq_s1 (x := rc j) (by omega) (by omega)
        exact ed_G_push (ed_G_push hg ed_V0 w1 (by decide) (by decide)) w1 w2 (by omega) (by omega)
      · rw [ed_ci h h1]
        exact ed_G_push hg w1 w2 (by omega) (by omega)
    · rw [ed_cn h]
      exact hg
end
section
variable {post : SX → Prop} {K1 K2 fn fm fp fa ft fk : Int32} {ro ra rv rc rP rS px py pc lv lc ce vx le cx cy cw cd : Nat → Int32}
theorem gx_add {k : Nat} (hk : k < 81) (x y w : Int32) (h : post (K1, K2, fn, fm, fp, fa, ft, nI (k + 1), ro, ra, rv, rc, rP, rS, px, py, pc, lv, lc, ce, vx, le, upd cx k x, upd cy k y, upd cw k w, cd)) : wpX_addConstraint post (K1, K2, fn, fm, fp, fa, ft, nI k, ro, ra, rv, rc, rP, rS, px, py, pc, lv, lc, ce, vx, le, cx, cy, cw, cd) x y w :=
  have e : (nI k).toNatClampNeg = k := nI_clamp (by omega)
  And.intro (vp_in_nI hk (by omega)) (nm_r (by rw [e]) (And.intro (vp_in_nI hk (by omega)) (nm_r (by rw [e]) (And.intro (vp_in_nI hk (by omega)) (nm_r (by rw [e]) (nm_r (nI_1 k) h))))))
theorem ed_Hp {px py pc cx cy cw : Nat → Int32} {i : Nat} (h : ed_H (i, px, py, pc) cx cy cw) : ed_H (i + 1, px, py, pc) (upd cx i (px i)) (upd cy i (py i)) (upd cw i (pc i)) := by
  intro q hq
  have hq' : q < i + 1 := hq
  by_cases z : q = i
  · rw [z, ns_us, ns_us, ns_us]
    exact ⟨rfl, rfl, rfl⟩
  · rw [ns_uo z, ns_uo z, ns_uo z]
    exact h q (show q < i by omega)
theorem gx_pre_l {np : Nat} (hnp : np ≤ 16) (h : ∀ cx cy cw : Nat → Int32, ed_H (np, px, py, pc) cx cy cw → post (K1, K2, fn, fm, nI np, fa, ft, nI np, ro, ra, rv, rc, rP, rS, px, py, pc, lv, lc, ce, vx, le, cx, cy, cw, cd)) :
    ∀ (t i : Nat) (cx cy cw : Nat → Int32), i + t = np → ed_H (i, px, py, pc) cx cy cw → wX_gatherPreconditions_7 post (t + 1) (nI i) K1 K2 fn fm (nI np) fa ft (nI i) ro ra rv rc rP rS px py pc lv lc ce vx le cx cy cw cd := by
  intro t
  induction t with
  | zero =>
    intro i cx cy cw hi hH
    have e : i = np := by omega
    subst e
    exact br_t (nI_le (Nat.le_refl _) (by omega)) (h cx cy cw hH)
  | succ t ih =>
    intro i cx cy cw hi hH
    have e : (nI i).toNatClampNeg = i := nI_clamp (by omega)
    have z := ih (i + 1) _ _ _ (by omega) (ed_Hp hH)
    refine br_f (nI_ge (by omega) (by omega)) (And.intro (vp_in_nI (by omega) (by omega)) (And.intro (vp_in_nI (by omega) (by omega)) (And.intro (vp_in_nI (by omega) (by omega)) ?_)))
    rw [e]
    exact gx_add (by omega) _ _ _ (nm_r (nI_1 i) z)
theorem gx_pre {np : Nat} (hnp : np ≤ 16) (h : ∀ cx cy cw : Nat → Int32, ed_H (np, px, py, pc) cx cy cw → post (K1, K2, fn, fm, nI np, fa, ft, nI np, ro, ra, rv, rc, rP, rS, px, py, pc, lv, lc, ce, vx, le, cx, cy, cw, cd)) : wpX_gatherPreconditions post (K1, K2, fn, fm, nI np, fa, ft, fk, ro, ra, rv, rc, rP, rS, px, py, pc, lv, lc, ce, vx, le, cx, cy, cw, cd) :=
  Exists.intro _ (gx_pre_l hnp h np 0 cx cy cw (by omega) (fun _ hq => absurd hq (Nat.not_lt_zero _)))
theorem gx_enc {P : Int32 → Prop} {j k : Nat} (hj : j < 32) (h1 : (ro j = 1 ∨ ro j = 2) ∧ (rP j = -1 ∨ nI k < rP j) → P 1) (h0 : ¬ ((ro j = 1 ∨ ro j = 2) ∧ (rP j = -1 ∨ nI k < rP j)) → P 0) : wpX_encloses P (K1, K2, fn, fm, fp, fa, ft, fk, ro, ra, rv, rc, rP, rS, px, py, pc, lv, lc, ce, vx, le, cx, cy, cw, cd) (nI j) (nI k) := by
  have e : (nI j).toNatClampNeg = j := nI_clamp (by omega)
  have hin : vp_in (nI j) 32 := vp_in_nI hj (by omega)
  have key : (ro j = 1 ∨ ro j = 2) → wX_encloses_25 P (nI j) (nI k) 1 K1 K2 fn fm fp fa ft fk ro ra rv rc rP rS px py pc lv lc ce vx le cx cy cw cd := by
    intro hb
    refine br_f (by decide) (And.intro hin ?_)
    rw [e]
    exact br_c (fun z => h1 ⟨hb, Or.inl z⟩) (fun z => And.intro hin (br_c (fun w => h0 (fun q => q.2.elim z (fun q2 => absurd w (Int32.not_le.mpr q2)))) (fun w => h1 ⟨hb, Or.inr (Int32.not_le.mp w)⟩)))
  refine And.intro hin ?_
  rw [e]
  exact br_c (fun z => key (Or.inl z)) (fun z => And.intro hin (br_c (fun w => key (Or.inr w)) (fun w => br_t rfl (h0 (fun q => q.1.elim z w)))))
theorem gx_ctx_l {k np : Nat} (hk : k ≤ 32) (hnp : np ≤ 16) (h : ∀ cx cy cw : Nat → Int32, ed_H (ed_ctx (np, px, py, pc) ro ra rv rc rP k k) cx cy cw → post (K1, K2, fn, fm, fp, fa, ft, nI (ed_ctx (np, px, py, pc) ro ra rv rc rP k k).1, ro, ra, rv, rc, rP, rS, px, py, pc, lv, lc, ce, vx, le, cx, cy, cw, cd)) :
    ∀ (t j : Nat) (cx cy cw : Nat → Int32), j + t = k → ed_H (ed_ctx (np, px, py, pc) ro ra rv rc rP k j) cx cy cw → wX_gatherContext_6 post (nI k) (t + 1) (nI j) K1 K2 fn fm fp fa ft (nI (ed_ctx (np, px, py, pc) ro ra rv rc rP k j).1) ro ra rv rc rP rS px py pc lv lc ce vx le cx cy cw cd := by
  intro t
  induction t with
  | zero =>
    intro j cx cy cw hj hH
    have e : j = k := by omega
    subst e
    exact br_t (nI_le (Nat.le_refl _) (by omega)) (h cx cy cw hH)
  | succ t ih =>
    intro j cx cy cw hj hH
    have e : (nI j).toNatClampNeg = j := nI_clamp (by omega)
    have hin : vp_in (nI j) 32 := vp_in_nI (by omega) (by omega)
    have hc := ed_c1 (s0 := (np, px, py, pc)) (ro := ro) (ra := ra) (rv := rv) (rc := rc) (rP := rP) (k := k) j
    have hc' : (ed_ctx (np, px, py, pc) ro ra rv rc rP k j).1 ≤ np + 2 * j := hc
    refine br_f (nI_ge (by omega) (by omega)) (gx_enc (by omega) (fun g => ?_) (fun g => ?_))
    · refine br_f (by decide) (And.intro hin ?_)
      rw [e]
      by_cases h1 : ro j = 1
      · have E := ed_cl (s0 := (np, px, py, pc)) (ra := ra) (rv := rv) (rc := rc) g h1
        have z := ih (j + 1) _ _ _ (by omega) (by rw [E]; exact ed_H_push (ed_H_push hH 0 (ra j) 0) (ra j) (rv j) (rc j - 1))
        rw [E] at z
        exact br_t h1 (And.intro hin (gx_add (by omega) _ _ _ (And.intro hin (And.intro hin (And.intro hin (gx_add (by omega) _ _ _ (nm_r (nI_1 j) z)))))))
      · have E := ed_ci (s0 := (np, px, py, pc)) (ra := ra) (rv := rv) (rc := rc) g h1
        have z := ih (j + 1) _ _ _ (by omega) (by rw [E]; exact ed_H_push hH (ra j) (rv j) (rc j))
        rw [E] at z
        exact br_f h1 (And.intro hin (And.intro hin (And.intro hin (gx_add (by omega) _ _ _ (nm_r (nI_1 j) z)))))
    · have E := ed_cn (s0 := (np, px, py, pc)) (ra := ra) (rv := rv) (rc := rc) g
      have z := ih (j + 1) cx cy cw (by omega) (by rw [E]; exact hH)
      rw [E] at z
      exact br_t rfl (nm_r (nI_1 j) z)
theorem gx_ctx {k np : Nat} (hk : k ≤ 32) (hnp : np ≤ 16) (h : ∀ cx cy cw : Nat → Int32, ed_H (ed_ctx (np, px, py, pc) ro ra rv rc rP k k) cx cy cw → post (K1, K2, fn, fm, nI np, fa, ft, nI (ed_ctx (np, px, py, pc) ro ra rv rc rP k k).1, ro, ra, rv, rc, rP, rS, px, py, pc, lv, lc, ce, vx, le, cx, cy, cw, cd)) : wpX_gatherContext post (K1, K2, fn, fm, nI np, fa, ft, fk, ro, ra, rv, rc, rP, rS, px, py, pc, lv, lc, ce, vx, le, cx, cy, cw, cd) (nI k) :=
  gx_pre (fk := fk) hnp (fun cx cy cw hH => Exists.intro _ (gx_ctx_l hk hnp h k 0 cx cy cw (by omega) hH))
end
section
variable {post : SY → Prop} {K1 K2 fn fp fa ft fe : Int32} {ro ra rv rc px py pc lv lc vy ce ex ey ew ds hi : Nat → Int32}
theorem gy_add {k : Nat} (hk : k < 96) (x y w : Int32) (h : post (K1, K2, fn, fp, fa, ft, nI (k + 1), ro, ra, rv, rc, px, py, pc, lv, lc, vy, ce, upd ex k x, upd ey k y, upd ew k w, ds, hi)) : wpY_addEdge post (K1, K2, fn, fp, fa, ft, nI k, ro, ra, rv, rc, px, py, pc, lv, lc, vy, ce, ex, ey, ew, ds, hi) x y w :=
  have e : (nI k).toNatClampNeg = k := nI_clamp (by omega)
  br_f (nI_ge (b := 96) hk (by decide)) (And.intro (vp_in_nI hk (by omega)) (nm_r (by rw [e]) (And.intro (vp_in_nI hk (by omega)) (nm_r (by rw [e]) (And.intro (vp_in_nI hk (by omega)) (nm_r (by rw [e]) (nm_r (nI_1 k) h)))))))
theorem gy_87 {rP : Nat → Int32} {n np k j : Nat} {J : Int32 → Int32 → Int32 → Int32 → Int32 → Int32 → Int32 → Int32 → (Nat → Int32) → (Nat → Int32) → (Nat → Int32) → (Nat → Int32) → (Nat → Int32) → (Nat → Int32) → (Nat → Int32) → (Nat → Int32) → (Nat → Int32) → (Nat → Int32) → (Nat → Int32) → (Nat → Int32) → (Nat → Int32) → (Nat → Int32) → (Nat → Int32) → (Nat → Int32) → Prop}
    (hj : j < 32) (hnp : np ≤ 16) (hH : ed_H (ed_ctx (np, px, py, pc) ro ra rv rc rP k j) ex ey ew) (g : (ro j = 1 ∨ ro j = 2) ∧ (rP j = -1 ∨ nI k < rP j))
    (h : ∀ ex ey ew : Nat → Int32, ed_H (ed_ctx (np, px, py, pc) ro ra rv rc rP k (j + 1)) ex ey ew → J (nI (j + 1)) K1 K2 (nI n) fp fa ft (nI (ed_ctx (np, px, py, pc) ro ra rv rc rP k (j + 1)).1) ro ra rv rc px py pc lv lc vy ce ex ey ew ds hi) :
    wY_base_87 post J (nI k) (nI j) K1 K2 (nI n) fp fa ft (nI (ed_ctx (np, px, py, pc) ro ra rv rc rP k j).1) ro ra rv rc px py pc lv lc vy ce ex ey ew ds hi := by
  have e : (nI j).toNatClampNeg = j := nI_clamp (by omega)
  have hin : vp_in (nI j) 32 := vp_in_nI hj (by omega)
  have hc' : (ed_ctx (np, px, py, pc) ro ra rv rc rP k j).1 ≤ np + 2 * j := ed_c1 j
  refine And.intro hin ?_
  rw [e]
  by_cases h1 : ro j = 1
  · have E := ed_cl (s0 := (np, px, py, pc)) (ra := ra) (rv := rv) (rc := rc) g h1
    have z := h _ _ _ (by rw [E]; exact ed_H_push (ed_H_push hH 0 (ra j) 0) (ra j) (rv j) (rc j - 1))
    rw [E] at z
    exact br_t h1 (And.intro hin (gy_add (by omega) _ _ _ (And.intro hin (And.intro hin (And.intro hin (gy_add (by omega) _ _ _ (nm_r (nI_1 j) z)))))))
  · have E := ed_ci (s0 := (np, px, py, pc)) (ra := ra) (rv := rv) (rc := rc) g h1
    have z := h _ _ _ (by rw [E]; exact ed_H_push hH (ra j) (rv j) (rc j))
    rw [E] at z
    exact br_f h1 (And.intro hin (And.intro hin (And.intro hin (gy_add (by omega) _ _ _ (nm_r (nI_1 j) z)))))
theorem gy_ctx_l {rP : Nat → Int32} {n k np : Nat} (hk : k ≤ n) (hn : n ≤ 32) (hnp : np ≤ 16) (hP : ∀ j, j < n → ns_B (ro j) → ns_res (ns_at ro j n) = rP j)
    (h : ∀ ex ey ew : Nat → Int32, ed_H (ed_ctx (np, px, py, pc) ro ra rv rc rP k k) ex ey ew → post (K1, K2, nI n, fp, fa, ft, nI (ed_ctx (np, px, py, pc) ro ra rv rc rP k k).1, ro, ra, rv, rc, px, py, pc, lv, lc, vy, ce, ex, ey, ew, ds, hi)) :
    ∀ (t j : Nat) (ex ey ew : Nat → Int32), j + t = k → ed_H (ed_ctx (np, px, py, pc) ro ra rv rc rP k j) ex ey ew → wY_base_45 post (nI k) (t + 1) (nI j) K1 K2 (nI n) fp fa ft (nI (ed_ctx (np, px, py, pc) ro ra rv rc rP k j).1) ro ra rv rc px py pc lv lc vy ce ex ey ew ds hi := by
  intro t
  induction t with
  | zero =>
    intro j ex ey ew hj hH
    have e : j = k := by omega
    subst e
    exact br_t (nI_le (Nat.le_refl _) (by omega)) (h ex ey ew hH)
  | succ t ih =>
    intro j ex ey ew hj hH
    have skip : ¬ ((ro j = 1 ∨ ro j = 2) ∧ (rP j = -1 ∨ nI k < rP j)) → wY_base_45 post (nI k) (t + 1) (nI (j + 1)) K1 K2 (nI n) fp fa ft (nI (ed_ctx (np, px, py, pc) ro ra rv rc rP k j).1) ro ra rv rc px py pc lv lc vy ce ex ey ew ds hi := by
      intro g
      have E := ed_cn (s0 := (np, px, py, pc)) (ra := ra) (rv := rv) (rc := rc) g
      have z := ih (j + 1) ex ey ew (by omega) (by rw [E]; exact hH)
      rw [E] at z
      exact z
    refine br_f (nI_ge (by omega) (by omega)) (br_f (nI_ge (by omega) (by omega)) (sy_ib (by omega) (fun hB => ?_) (fun hB => ?_)))
    · refine br_f (by decide) (sy_me hn (by omega) ?_)
      have hPj := hP j (by omega) hB
      rw [hPj]
      cases q : ns_at ro j n with
      | inl d =>
        have r1 : rP j = -1 := by rw [← hPj, q]; rfl
        refine br_t ?_ (gy_87 (by omega) hnp hH ⟨hB, Or.inl r1⟩ (fun ex ey ew z => ih (j + 1) ex ey ew (by omega) z))
        rw [r1]
        decide
      | inr g =>
        have hg := ns_fnd n q
        have r1 : rP j = nI g := by rw [← hPj, q]; rfl
        refine br_f ?_ (br_c (fun w => gy_87 (by omega) hnp hH ⟨hB, Or.inr w⟩ (fun ex ey ew z => ih (j + 1) ex ey ew (by omega) z)) (fun w => nm_r (nI_1 j) (skip (fun z => z.2.elim (fun z2 => ?_) (fun z2 => w z2)))))
        · rw [r1]
          exact nI_pos (by omega)
        · rw [r1] at z2
          have z3 := congrArg Int32.toInt z2
          rw [nI_toInt (by omega), zq_m1] at z3
          omega
    · exact br_t rfl (nm_r (nI_1 j) (skip (fun z => hB z.1)))
theorem gy_pre_l {n k np : Nat} (hnp : np ≤ 16) (h : ∀ ex ey ew : Nat → Int32, ed_H (np, px, py, pc) ex ey ew → ∃ N, wY_base_45 post (nI k) N 0 K1 K2 (nI n) (nI np) fa ft (nI np) ro ra rv rc px py pc lv lc vy ce ex ey ew ds hi) :
    ∀ (t i : Nat) (ex ey ew : Nat → Int32), i + t = np → ed_H (i, px, py, pc) ex ey ew → wY_base_7 post (nI k) (t + 1) (nI i) K1 K2 (nI n) (nI np) fa ft (nI i) ro ra rv rc px py pc lv lc vy ce ex ey ew ds hi := by
  intro t
  induction t with
  | zero =>
    intro i ex ey ew hi hH
    have e : i = np := by omega
    subst e
    exact br_t (nI_le (Nat.le_refl _) (by omega)) (h ex ey ew hH)
  | succ t ih =>
    intro i ex ey ew hi hH
    have e : (nI i).toNatClampNeg = i := nI_clamp (by omega)
    have z := ih (i + 1) _ _ _ (by omega) (ed_Hp hH)
    refine br_f (nI_ge (by omega) (by omega)) (And.intro (vp_in_nI (by omega) (by omega)) (And.intro (vp_in_nI (by omega) (by omega)) (And.intro (vp_in_nI (by omega) (by omega)) ?_)))
    rw [e]
    exact gy_add (by omega) _ _ _ (nm_r (nI_1 i) z)
theorem gy_base {rP : Nat → Int32} {n k np : Nat} (hk : k ≤ n) (hn : n ≤ 32) (hnp : np ≤ 16) (hP : ∀ j, j < n → ns_B (ro j) → ns_res (ns_at ro j n) = rP j)
    (h : ∀ ex ey ew : Nat → Int32, ed_H (ed_ctx (np, px, py, pc) ro ra rv rc rP k k) ex ey ew → post (K1, K2, nI n, nI np, fa, ft, nI (ed_ctx (np, px, py, pc) ro ra rv rc rP k k).1, ro, ra, rv, rc, px, py, pc, lv, lc, vy, ce, ex, ey, ew, ds, hi)) : wpY_base post (K1, K2, nI n, nI np, fa, ft, fe, ro, ra, rv, rc, px, py, pc, lv, lc, vy, ce, ex, ey, ew, ds, hi) (nI k) :=
  Exists.intro _ (gy_pre_l hnp (fun ex ey ew hH => Exists.intro _ (gy_ctx_l hk hn hnp hP h k 0 ex ey ew (by omega) hH)) np 0 ex ey ew (by omega) (fun _ hq => absurd hq (Nat.not_lt_zero _)))
end
end
section
/-! The solver loops of both sides against ed_sat -/
section
variable {s : Nat × (Nat → Int32) × (Nat → Int32) × (Nat → Int32)}
/-- one edge of a pass, as both machines read it -/
theorem so_step {x y w a : Nat → Int32} {d : Nat → Int} {q : Nat} (hG : ed_G s) (hH : ed_H s x y w) (hq : q < s.1) (hm : s.1 ≤ 81) (hA : ed_A a (ed_pass s d q)) (h0 : ∀ j, d j ≤ 0) (hl : ∀ j, -1600000 ≤ d j) :
    (∃ i j : Nat, i < 8 ∧ j < 8 ∧ x q = nI i ∧ y q = nI j ∧ ed_X s q = i ∧ ed_Y s q = j ∧
      (a j + w q).toInt = ed_pass s d q (ed_Y s q) + ed_W s q ∧ (a i).toInt = ed_pass s d q (ed_X s q)) := by
  obtain ⟨⟨i, hi, ei⟩, ⟨j, hj, ej⟩, w1, w2⟩ := hG q hq
  obtain ⟨e1, e2, e3⟩ := hH q hq
  have eX : ed_X s q = i := by unfold ed_X; rw [ei]; exact nI_clamp (by omega)
  have eY : ed_Y s q = j := by unfold ed_Y; rw [ej]; exact nI_clamp (by omega)
  have b1 : ed_pass s d q j ≤ d j := bz_pass_le d j q
  have b2 : -1600000 - 2001 * (q : Int) ≤ ed_pass s d q j := bz_lo_p (m := s.1) (L := 1600000) (fun q hq => (hG q hq).2.2.1) hl q (by omega) j
  have b3 := h0 j
  refine ⟨i, j, hi, hj, by rw [e1, ei], by rw [e2, ej], eX, eY, ?_, ?_⟩
  · rw [e3, ed_sum (by rw [hA j hj]; omega) (by rw [hA j hj]; omega) w1 w2, hA j hj, eY]
    rfl
  · rw [hA i hi, eX]
end
section
variable {s : Nat × (Nat → Int32) × (Nat → Int32) × (Nat → Int32)} {post : Int32 → SX → Prop} {K1 K2 fn fm fp fa ft fk : Int32} {ro ra rv rc rP rS px py pc lv lc ce vx le cx cy cw cd : Nat → Int32}
theorem so_x1_l {d : Nat → Int} (hG : ed_G s) (hH : ed_H s cx cy cw) (hm : s.1 ≤ 81) (h0 : ∀ j, d j ≤ 0) (hl : ∀ j, -1600000 ≤ d j)
    (h : ∀ (f : Int32) (cd : Nat → Int32), ((f = 0 ∧ ed_sol s d) ∨ (f = 1 ∧ ¬ ed_sol s d)) → ed_A cd (ed_pass s d s.1) → post f (K1, K2, fn, fm, fp, fa, ft, nI s.1, ro, ra, rv, rc, rP, rS, px, py, pc, lv, lc, ce, vx, le, cx, cy, cw, cd)) :
    ∀ (t q : Nat) (f : Int32) (cd : Nat → Int32), q + t = s.1 → ed_F s d q f → ed_A cd (ed_pass s d q) → wX_lowerCandidates_4 post K1 K2 fn fm fp fa ft (nI s.1) (t + 1) f (nI q) ro ra rv rc rP rS px py pc lv lc ce vx le cx cy cw cd := by
  intro t
  induction t with
  | zero =>
    intro q f cd hq hF hA
    have e : q = s.1 := by omega
    subst e
    have hf := ed_F_e hF
    refine br_t (nI_le (Nat.le_refl _) (by omega)) (And.intro ?_ (h f cd hf hA))
    rcases hf with hf | hf
    · rw [hf.1]; rfl
    · rw [hf.1]; rfl
  | succ t ih =>
    intro q f cd hq hF hA
    have e : (nI q).toNatClampNeg = q := nI_clamp (by omega)
    have hin : vp_in (nI q) 81 := vp_in_nI (by omega) (by omega)
    obtain ⟨i, j, hi, hj, ex, ey, eX, eY, hs, hx⟩ := so_step hG hH (show q < s.1 by omega) hm hA h0 hl
    have ei : (nI i).toNatClampNeg = i := nI_clamp (by omega)
    have ej : (nI j).toNatClampNeg = j := nI_clamp (by omega)
    refine br_f (nI_ge (by omega) (by omega)) ?_
    rw [e, ex, ey, ei, ej]
    refine And.intro hin (And.intro (vp_in_nI hj (by omega)) (And.intro hin (nm_e (And.intro hin (And.intro (vp_in_nI hi (by omega)) ?_)))))
    refine zq_le hx hs (fun c => nm_r (nI_1 q) (ih (q + 1) f cd (by omega) (ed_F_f hF (by omega)) (ed_A_f hA (by omega)))) (fun c => And.intro hin (And.intro (vp_in_nI hi (by omega)) (nm_e (nm_r (nI_1 q) (ih (q + 1) 1 _ (by omega) (ed_F_t hF c) ?_)))))
    have hA2 := ed_A_t hA (by omega) c hs
    rw [eX] at hA2
    exact hA2
theorem so_x1 {d : Nat → Int} (hG : ed_G s) (hH : ed_H s cx cy cw) (hm : s.1 ≤ 81) (h0 : ∀ j, d j ≤ 0) (hl : ∀ j, -1600000 ≤ d j) (hA : ed_A cd d)
    (h : ∀ (f : Int32) (cd : Nat → Int32), ((f = 0 ∧ ed_sol s d) ∨ (f = 1 ∧ ¬ ed_sol s d)) → ed_A cd (ed_pass s d s.1) → post f (K1, K2, fn, fm, fp, fa, ft, nI s.1, ro, ra, rv, rc, rP, rS, px, py, pc, lv, lc, ce, vx, le, cx, cy, cw, cd)) : wpX_lowerCandidates post (K1, K2, fn, fm, fp, fa, ft, nI s.1, ro, ra, rv, rc, rP, rS, px, py, pc, lv, lc, ce, vx, le, cx, cy, cw, cd) :=
  Exists.intro _ (so_x1_l hG hH hm h0 hl h s.1 0 0 cd (by omega) (ed_F0 d) hA)
theorem so_x8 (hG : ed_G s) (hH : ed_H s cx cy cw) (hm : s.1 ≤ 81) (h1 : ed_sat s → ∀ cd : Nat → Int32, post 1 (K1, K2, fn, fm, fp, fa, ft, nI s.1, ro, ra, rv, rc, rP, rS, px, py, pc, lv, lc, ce, vx, le, cx, cy, cw, cd)) (h0 : ¬ ed_sat s → ∀ cd : Nat → Int32, post 0 (K1, K2, fn, fm, fp, fa, ft, nI s.1, ro, ra, rv, rc, rP, rS, px, py, pc, lv, lc, ce, vx, le, cx, cy, cw, cd)) :
    ∀ (t r : Nat) (cd : Nat → Int32), r + t = 8 → (∀ i, i < r → ¬ ed_sol s (ed_it s i)) → ed_A cd (ed_it s r) → wX_constraintsHaveSolution_23 post (t + 1) (nI r) K1 K2 fn fm fp fa ft (nI s.1) ro ra rv rc rP rS px py pc lv lc ce vx le cx cy cw cd := by
  intro t
  induction t with
  | zero =>
    intro r cd hr hn hA
    have e : r = 8 := by omega
    subst e
    exact br_t (nI_le (a := 8) (b := 8) (by omega) (by omega)) (h0 (hn 7 (by omega)) cd)
  | succ t ih =>
    intro r cd hr hn hA
    refine br_f (nI_ge (b := 8) (by omega) (by decide)) (so_x1 hG hH hm (ed_hi r) (fun j => ?_) hA (fun f cd2 hf hA2 => ?_))
    · have := ed_lo hG hm r j
      omega
    · rcases hf with ⟨hf, hs⟩ | ⟨hf, hs⟩
      · exact br_t hf (h1 (ed_sat_of hG hs) cd2)
      · refine br_f (by rw [hf]; decide) (nm_r (nI_1 r) (ih (r + 1) cd2 (by omega) ?_ hA2))
        intro i hi
        by_cases z : i = r
        · rw [z]; exact hs
        · exact hn i (by omega)
theorem so_x0 {k : Nat} (h : ∀ cd : Nat → Int32, (∀ j, j < 8 → cd j = 0) → ∃ N, wX_constraintsHaveSolution_23 post N 0 K1 K2 fn fm fp fa ft (nI k) ro ra rv rc rP rS px py pc lv lc ce vx le cx cy cw cd) :
    ∀ (t i : Nat) (cd : Nat → Int32), i + t = 8 → (∀ j, j < i → cd j = 0) → wX_constraintsHaveSolution_2 post K1 K2 fn fm fp fa ft (nI k) (t + 1) (nI i) ro ra rv rc rP rS px py pc lv lc ce vx le cx cy cw cd := by
  intro t
  induction t with
  | zero =>
    intro i cd hi hz
    have e : i = 8 := by omega
    subst e
    exact br_t (nI_le (a := 8) (b := 8) (by omega) (by omega)) (h cd hz)
  | succ t ih =>
    intro i cd hi hz
    have e : (nI i).toNatClampNeg = i := nI_clamp (by omega)
    refine br_f (nI_ge (b := 8) (by omega) (by decide)) (And.intro (vp_in_nI (by omega) (by omega)) (nm_r (by rw [e]) (nm_r (nI_1 i) (ih (i + 1) (upd cd i 0) (by omega) ?_))))
    intro j hj
    by_cases z : j = i
    · rw [z, ns_us]
    · rw [ns_uo z]; exact hz j (by omega)
theorem so_x (hG : ed_G s) (hH : ed_H s cx cy cw) (hm : s.1 ≤ 81) (h1 : ed_sat s → ∀ cd : Nat → Int32, post 1 (K1, K2, fn, fm, fp, fa, ft, nI s.1, ro, ra, rv, rc, rP, rS, px, py, pc, lv, lc, ce, vx, le, cx, cy, cw, cd)) (h0 : ¬ ed_sat s → ∀ cd : Nat → Int32, post 0 (K1, K2, fn, fm, fp, fa, ft, nI s.1, ro, ra, rv, rc, rP, rS, px, py, pc, lv, lc, ce, vx, le, cx, cy, cw, cd)) : wpX_constraintsHaveSolution post (K1, K2, fn, fm, fp, fa, ft, nI s.1, ro, ra, rv, rc, rP, rS, px, py, pc, lv, lc, ce, vx, le, cx, cy, cw, cd) :=
  Exists.intro _ (so_x0 (fun cd hz => Exists.intro _ (so_x8 hG hH hm h1 h0 8 0 cd (by omega) (fun _ h => absurd h (Nat.not_lt_zero _)) (fun j hj => by rw [hz j hj]; rfl))) 8 0 cd (by omega) (fun _ h => absurd h (Nat.not_lt_zero _)))
end
section
variable {s : Nat × (Nat → Int32) × (Nat → Int32) × (Nat → Int32)} {post : Int32 → SY → Prop} {K1 K2 fn fp fa ft fe : Int32} {ro ra rv rc px py pc lv lc vy ce ex ey ew ds hi : Nat → Int32}
theorem so_y1_l {d : Nat → Int} {p : Int32} {J : Int32 → Int32 → (Nat → Int32) → (Nat → Int32) → (Nat → Int32) → (Nat → Int32) → (Nat → Int32) → (Nat → Int32) → (Nat → Int32) → (Nat → Int32) → (Nat → Int32) → (Nat → Int32) → (Nat → Int32) → (Nat → Int32) → (Nat → Int32) → (Nat → Int32) → (Nat → Int32) → (Nat → Int32) → Prop}
    (hG : ed_G s) (hH : ed_H s ex ey ew) (hm : s.1 ≤ 81) (h0 : ∀ j, d j ≤ 0) (hl : ∀ j, -1600000 ≤ d j)
    (h : ∀ (f : Int32) (ds : Nat → Int32), ((f = 0 ∧ ed_sol s d) ∨ (f = 1 ∧ ¬ ed_sol s d)) → ed_A ds (ed_pass s d s.1) → J f (p + 1) ro ra rv rc px py pc lv lc vy ce ex ey ew ds hi) :
    ∀ (t q : Nat) (f : Int32) (ds : Nat → Int32), q + t = s.1 → ed_F s d q f → ed_A ds (ed_pass s d q) → wY_feasible_35 post J p K1 K2 fn fp fa ft (nI s.1) (t + 1) f (nI q) ro ra rv rc px py pc lv lc vy ce ex ey ew ds hi := by
  intro t
  induction t with
  | zero =>
    intro q f ds hq hF hA
    have e : q = s.1 := by omega
    subst e
    exact br_t (nI_le (Nat.le_refl _) (by omega)) (nm_e (h f ds (ed_F_e hF) hA))
  | succ t ih =>
    intro q f ds hq hF hA
    have e : (nI q).toNatClampNeg = q := nI_clamp (by omega)
    have hin : vp_in (nI q) 96 := vp_in_nI (by omega) (by omega)
    obtain ⟨i, j, hi, hj, ex, ey, eX, eY, hs, hx⟩ := so_step hG hH (show q < s.1 by omega) hm hA h0 hl
    have ei : (nI i).toNatClampNeg = i := nI_clamp (by omega)
    have ej : (nI j).toNatClampNeg = j := nI_clamp (by omega)
    refine br_f (nI_ge (by omega) (by omega)) ?_
    rw [e, ex, ey, ei, ej]
    refine And.intro hin (And.intro (vp_in_nI hj (by omega)) (And.intro hin (nm_e (And.intro hin (And.intro (vp_in_nI hi (by omega)) ?_)))))
    refine zq_le hx hs (fun c => nm_r (nI_1 q) (ih (q + 1) f ds (by omega) (ed_F_f hF (by omega)) (ed_A_f hA (by omega)))) (fun c => And.intro hin (And.intro (vp_in_nI hi (by omega)) (nm_e (nm_r (nI_1 q) (ih (q + 1) 1 _ (by omega) (ed_F_t hF c) ?_)))))
    have hA2 := ed_A_t hA (by omega) c hs
    rw [eX] at hA2
    exact hA2
theorem so_y9 (hG : ed_G s) (hH : ed_H s ex ey ew) (hm : s.1 ≤ 81) (h1 : ed_sat s → ∀ ds : Nat → Int32, post 1 (K1, K2, fn, fp, fa, ft, nI s.1, ro, ra, rv, rc, px, py, pc, lv, lc, vy, ce, ex, ey, ew, ds, hi)) (h0 : ¬ ed_sat s → ∀ ds : Nat → Int32, post 0 (K1, K2, fn, fp, fa, ft, nI s.1, ro, ra, rv, rc, px, py, pc, lv, lc, vy, ce, ex, ey, ew, ds, hi)) :
    ∀ (t r : Nat) (f : Int32) (ds : Nat → Int32), r + t = 9 → (∀ i, r = i + 1 → ((f = 0 ∧ ed_sol s (ed_it s i)) ∨ (f = 1 ∧ ¬ ed_sol s (ed_it s i)))) → ed_A ds (ed_it s r) → wY_feasible_25 post K1 K2 fn fp fa ft (nI s.1) (t + 1) f (nI r) ro ra rv rc px py pc lv lc vy ce ex ey ew ds hi := by
  intro t
  induction t with
  | zero =>
    intro r f ds hr hn hA
    have e : r = 9 := by omega
    subst e
    refine br_t (nI_le (a := 9) (b := 9) (by omega) (by omega)) ?_
    rcases hn 8 rfl with ⟨hf, hs⟩ | ⟨hf, hs⟩
    · exact br_t hf (h1 (ed_sat_of hG hs) ds)
    · exact br_f (by rw [hf]; decide) (h0 (fun z => hs (ed_sat_it (r := 7) (t := 1) z)) ds)
  | succ t ih =>
    intro r f ds hr hn hA
    refine br_f (nI_ge (b := 9) (by omega) (by decide)) (Exists.intro _ (so_y1_l hG hH hm (ed_hi r) (fun j => ?_) (fun f2 ds2 hf hA2 => ?_) s.1 0 0 ds (by omega) (ed_F0 _) hA))
    · have := ed_lo hG hm r j
      omega
    · rw [nI_1 r]
      refine ih (r + 1) f2 ds2 (by omega) ?_ hA2
      intro i hi
      have e : i = r := by omega
      rw [e]
      exact hf
theorem so_y0 {k : Nat} (h : ∀ ds : Nat → Int32, (∀ j, j < 8 → ds j = 0) → ∃ N, wY_feasible_25 post K1 K2 fn fp fa ft (nI k) N 0 0 ro ra rv rc px py pc lv lc vy ce ex ey ew ds hi) :
    ∀ (t i : Nat) (ds : Nat → Int32), i + t = 8 → (∀ j, j < i → ds j = 0) → wY_feasible_2 post K1 K2 fn fp fa ft (nI k) (t + 1) (nI i) ro ra rv rc px py pc lv lc vy ce ex ey ew ds hi := by
  intro t
  induction t with
  | zero =>
    intro i ds hi hz
    have e : i = 8 := by omega
    subst e
    exact br_t (nI_le (a := 8) (b := 8) (by omega) (by omega)) (h ds hz)
  | succ t ih =>
    intro i ds hi hz
    have e : (nI i).toNatClampNeg = i := nI_clamp (by omega)
    refine br_f (nI_ge (b := 8) (by omega) (by decide)) (And.intro (vp_in_nI (by omega) (by omega)) (nm_r (by rw [e]) (nm_r (nI_1 i) (ih (i + 1) (upd ds i 0) (by omega) ?_))))
    intro j hj
    by_cases z : j = i
    · rw [z, ns_us]
    · rw [ns_uo z]; exact hz j (by omega)
theorem so_y (hG : ed_G s) (hH : ed_H s ex ey ew) (hm : s.1 ≤ 81) (h1 : ed_sat s → ∀ ds : Nat → Int32, post 1 (K1, K2, fn, fp, fa, ft, nI s.1, ro, ra, rv, rc, px, py, pc, lv, lc, vy, ce, ex, ey, ew, ds, hi)) (h0 : ¬ ed_sat s → ∀ ds : Nat → Int32, post 0 (K1, K2, fn, fp, fa, ft, nI s.1, ro, ra, rv, rc, px, py, pc, lv, lc, vy, ce, ex, ey, ew, ds, hi)) : wpY_feasible post (K1, K2, fn, fp, fa, ft, nI s.1, ro, ra, rv, rc, px, py, pc, lv, lc, vy, ce, ex, ey, ew, ds, hi) :=
  Exists.intro _ (so_y0 (fun ds hz => Exists.intro _ (so_y9 hG hH hm h1 h0 9 0 0 ds (by omega) (fun i hi => absurd hi (by omega)) (fun j hj => by rw [hz j hj]; rfl))) 8 0 ds (by omega) (fun _ h => absurd h (Nat.not_lt_zero _)))
end
end
section
/-! The questions: consistent, implies, accessStatus, check -/
section
variable {s : Nat × (Nat → Int32) × (Nat → Int32) × (Nat → Int32)} {post : Int32 → SX → Prop} {K1 K2 fn fm fp fa ft fk : Int32} {ro ra rv rc rP rS px py pc lv lc ce vx le cx cy cw cd : Nat → Int32}
/-- the component's entailment: the answer is that the store with the negated goal has no solution; the count is as before -/
theorem qx_en {x y c : Int32} (hG : ed_G (ed_push s y x ((-c) - 1))) (hH : ed_H s cx cy cw) (hm : s.1 < 81)
    (h1 : ¬ ed_sat (ed_push s y x ((-c) - 1)) → ∀ cx cy cw cd : Nat → Int32, ed_H s cx cy cw → post 1 (K1, K2, fn, fm, fp, fa, ft, nI s.1, ro, ra, rv, rc, rP, rS, px, py, pc, lv, lc, ce, vx, le, cx, cy, cw, cd))
    (h0 : ed_sat (ed_push s y x ((-c) - 1)) → ∀ cx cy cw cd : Nat → Int32, ed_H s cx cy cw → post 0 (K1, K2, fn, fm, fp, fa, ft, nI s.1, ro, ra, rv, rc, rP, rS, px, py, pc, lv, lc, ce, vx, le, cx, cy, cw, cd)) : wpX_constraintsEntail post (K1, K2, fn, fm, fp, fa, ft, nI s.1, ro, ra, rv, rc, rP, rS, px, py, pc, lv, lc, ce, vx, le, cx, cy, cw, cd) x y c := by
  have hH2 := ed_H_push hH y x ((-c) - 1)
  have hH3 : ed_H s (upd cx s.1 y) (upd cy s.1 x) (upd cw s.1 ((-c) - 1)) := by
    intro q hq
    rw [ns_uo (by omega), ns_uo (by omega), ns_uo (by omega)]
    exact hH q hq
  unfold wpX_constraintsEntail
  refine gx_add hm _ _ _ ?_
  refine so_x (s := ed_push s y x ((-c) - 1)) hG hH2 (by show s.1 + 1 ≤ 81; omega) (fun z cd => ?_) (fun z cd => ?_)
  · exact br_f (by decide) (h0 z _ _ _ cd hH3)
  · exact br_t rfl (h1 z _ _ _ cd hH3)
end
section
variable {kc pq n m np : Nat} {s : Nat → Nat} {K1 K2 fn fm fp fa ft fk fe : Int32} {ro ra rv rc rP rS px py pc lv lc ce vx le cx cy cw cd vy ex ey ew ds hi : Nat → Int32}
theorem zr_G0 (R : zR kc pq n m np s ro ra rv rc rP rS px py pc lv lc vx vy) : ed_G (np, px, py, pc) := by
  intro q hq
  obtain ⟨h1, h2, h3⟩ := R.2.2.2.2.1 q hq
  have h31 := h3.1
  have h32 := h3.2
  obtain ⟨i, hi, e, _⟩ := zq_n (k := 3) h1.1 h1.2
  obtain ⟨j, hj, f, _⟩ := zq_n (k := 3) h2.1 h2.2
  refine ⟨⟨i, by omega, e⟩, ⟨j, by omega, f⟩, ?_, ?_⟩
  · show -2001 ≤ (pc q).toInt
    omega
  · show (pc q).toInt ≤ 2001
    omega
theorem zS_V {x : Int32} (h : zS x) : ed_V x := by
  obtain ⟨i, hi, e, _⟩ := zq_n (k := 3) h.1 h.2
  exact ⟨i, by omega, e⟩
theorem zr_w (R : zR kc pq n m np s ro ra rv rc rP rS px py pc lv lc vx vy) {j : Nat} (hj : j < n) (hb : ns_B (ro j)) : ed_V (ra j) ∧ ed_V (rv j) ∧ ns_K (rc j) := by
  rcases R.2.2.2.1 j hj with h | h | h | h | h
  · have h2 := h.2.1
    obtain ⟨i, hi, e, _⟩ := zq_n (x := ra j) (k := 7) (by omega) (by omega)
    exact ⟨⟨i, by omega, e⟩, zr_bd R (by omega) h.2.2.2.1, h.2.2.2.2⟩
  · exact ⟨zr_bd R (by omega) h.2.1, zr_bd R (by omega) h.2.2.1, h.2.2.2⟩
  · exact absurd hb (ns_3B h)
  · rw [h.1] at hb; exact absurd (show (4 : Int32) = 1 ∨ (4 : Int32) = 2 from hb) (by decide)
  · rcases h.1 with z | z | z
    · rw [z] at hb; exact absurd (show (5 : Int32) = 1 ∨ (5 : Int32) = 2 from hb) (by decide)
    · rw [z] at hb; exact absurd (show (6 : Int32) = 1 ∨ (6 : Int32) = 2 from hb) (by decide)
    · rw [z] at hb; exact absurd (show (7 : Int32) = 1 ∨ (7 : Int32) = 2 from hb) (by decide)
theorem zr_Gc (R : zR kc pq n m np s ro ra rv rc rP rS px py pc lv lc vx vy) {k : Nat} (hk : k ≤ n) : ed_G (ed_ctx (np, px, py, pc) ro ra rv rc rP k k) :=
  ed_Gc (zr_G0 R) k (fun _ hi hb => zr_w R (by omega) hb)
theorem zr_P (R : zR kc pq n m np s ro ra rv rc rP rS px py pc lv lc vx vy) : ∀ j, j < n → ns_B (ro j) → ns_res (ns_at ro j n) = rP j := fun _ hj hb => ns_me R.2.2.1 hj hb
theorem zq_ng {c : Int32} (h1 : -2000 ≤ c.toInt) (h2 : c.toInt ≤ 2000) : ((-c) - 1).toInt = -c.toInt - 1 := by
  rw [Int32.toInt_sub, Int32.toInt_neg, zq_1, Int.bmod_eq_of_le (n := -c.toInt) (by omega) (by omega)]
  exact Int.bmod_eq_of_le (by omega) (by omega)
theorem zq_df {c d : Int32} (h : ns_K c) (g : ns_K d) : (c - d).toInt = c.toInt - d.toInt := by
  have h1 := h.1
  have h2 := h.2
  have g1 := g.1
  have g2 := g.2
  rw [Int32.toInt_sub]
  exact Int.bmod_eq_of_le (by omega) (by omega)
theorem zq_hi (c l : Int32) : (-((l - 1) - c)) - 1 = c - l := by
  grind
end
theorem i_vc_consistent {k : Nat} {u : SX} {v : SY} (I : i_Rel k u v) (hk : k + 5 ≤ 2562) : wpX_consistent (fun r u' => wpY_consistent (fun r' v' => r' = r ∧ i_Rel (k + 5) u' v') v) u := by
  obtain ⟨kc, pq, n, m, np, s, fa, ft, fk, fe, ro, ra, rv, rc, rP, rS, px, py, pc, lv, lc, ce, vx, le, cx, cy, cw, cd, vy, ex, ey, ew, ds, hi, rfl, rfl, R⟩ := I
  have b := R.1
  have hG := zr_G0 R
  refine gx_pre (fk := fk) (by omega) (fun cx cy cw hH => so_x (s := (np, px, py, pc)) hG hH (by show np ≤ 81; omega) (fun z cd => And.intro rfl ?_) (fun z cd => And.intro rfl ?_))
  · exact gy_base (fe := fe) (k := 0) (by omega) (by omega) (by omega) (zr_P R) (fun ex ey ew hY => so_y (s := (np, px, py, pc)) hG hY (by show np ≤ 81; omega) (fun _ ds => And.intro rfl ⟨rfl, zr_mk R⟩) (fun w => absurd z w))
  · exact gy_base (fe := fe) (k := 0) (by omega) (by omega) (by omega) (zr_P R) (fun ex ey ew hY => so_y (s := (np, px, py, pc)) hG hY (by show np ≤ 81; omega) (fun w => absurd w z) (fun _ ds => And.intro rfl ⟨rfl, zr_mk R⟩))
theorem i_vc_implies {k : Nat} {u : SX} {v : SY} (I : i_Rel k u v) (hk : k + 5 ≤ 2562) (v1 : Int32) (v2 : Int32) (v3 : Int32) : wpX_implies (fun r u' => wpY_implies (fun r' v' => r' = r ∧ i_Rel (k + 5) u' v') v v1 v2 v3) u v1 v2 v3 := by
  obtain ⟨kc, pq, n, m, np, s, fa, ft, fk, fe, ro, ra, rv, rc, rP, rS, px, py, pc, lv, lc, ce, vx, le, cx, cy, cw, cd, vy, ex, ey, ew, ds, hi, rfl, rfl, R⟩ := I
  have b := R.1
  have hG := zr_G0 R
  have Yno : ¬ (zS v1 ∧ zS v2 ∧ ns_K v3) → wpY_implies (fun r' v' => r' = 0 ∧ i_Rel (k + 5) (nI kc, nI pq, nI n, nI m, nI np, fa, ft, fk, ro, ra, rv, rc, rP, rS, px, py, pc, lv, lc, ce, vx, le, cx, cy, cw, cd) v') (nI kc, nI pq, nI n, nI np, fa, ft, fe, ro, ra, rv, rc, px, py, pc, lv, lc, vy, ce, ex, ey, ew, ds, hi) v1 v2 v3 := by
    intro hno
    refine zq_lt rfl zq_0 (fun _ => ⟨rfl, zr_mk R⟩) (fun h1 => zq_lt zq_3 rfl (fun _ => ⟨rfl, zr_mk R⟩) (fun h2 => zq_lt rfl zq_0 (fun _ => ⟨rfl, zr_mk R⟩) (fun h3 => zq_lt zq_3 rfl (fun _ => ⟨rfl, zr_mk R⟩) (fun h4 => ?_))))
    exact sy_bc (fun h5 => absurd ⟨⟨h1, h2⟩, ⟨h3, h4⟩, h5⟩ hno) (fun _ => br_f (by decide) ⟨rfl, zr_mk R⟩)
  unfold wpX_implies
  refine sx_sv (fun g1 => br_f (by decide) (sx_sv (fun g2 => br_f (by decide) (sx_k (fun g3 => br_f (by decide) ?_) (fun g3 => br_t rfl (Yno (fun z => g3 z.2.2))))) (fun g2 => br_t rfl (Yno (fun z => g2 z.2.1))))) (fun g1 => br_t rfl (Yno (fun z => g1 z.1)))
  have g31 := g3.1
  have g32 := g3.2
  have en := zq_ng (c := v3) (by omega) (by omega)
  have hG2 : ed_G (ed_push (np, px, py, pc) v2 v1 ((-v3) - 1)) := ed_G_push hG (zS_V g2) (zS_V g1) (by omega) (by omega)
  have Yyes : ∀ (r : Int32) (U : SX), (∀ v' : SY, (∃ fe ex ey ew ds, v' = (nI kc, nI pq, nI n, nI np, fa, ft, fe, ro, ra, rv, rc, px, py, pc, lv, lc, vy, ce, ex, ey, ew, ds, hi)) → i_Rel (k + 5) U v') → ((ed_sat (ed_push (np, px, py, pc) v2 v1 ((-v3) - 1)) ∧ r = 0) ∨ (¬ ed_sat (ed_push (np, px, py, pc) v2 v1 ((-v3) - 1)) ∧ r = 1)) → wpY_implies (fun r' v' => r' = r ∧ i_Rel (k + 5) U v') (nI kc, nI pq, nI n, nI np, fa, ft, fe, ro, ra, rv, rc, px, py, pc, lv, lc, vy, ce, ex, ey, ew, ds, hi) v1 v2 v3 := by
    intro r U hU hr
    refine zq_lt rfl zq_0 (fun z => absurd g1.1 (by omega)) (fun _ => zq_lt zq_3 rfl (fun z => absurd g1.2 (by omega)) (fun _ => zq_lt rfl zq_0 (fun z => absurd g2.1 (by omega)) (fun _ => zq_lt zq_3 rfl (fun z => absurd g2.2 (by omega)) (fun _ => ?_))))
    refine sy_bc (fun _ => br_t rfl ?_) (fun z => absurd g3 z)
    refine gy_base (fe := fe) (k := 0) (by omega) (by omega) (by omega) (zr_P R) (fun ex ey ew hY => gy_add (show np < 96 by omega) _ _ _ ?_)
    refine so_y (s := ed_push (np, px, py, pc) v2 v1 ((-v3) - 1)) hG2 (ed_H_push hY _ _ _) (by show np + 1 ≤ 81; omega) (fun z ds => br_f (by decide) ⟨?_, hU _ ⟨_, _, _, _, _, rfl⟩⟩) (fun z ds => br_t rfl ⟨?_, hU _ ⟨_, _, _, _, _, rfl⟩⟩)
    · rcases hr with hr | hr
      · exact hr.2.symm
      · exact absurd z hr.1
    · rcases hr with hr | hr
      · exact absurd hr.1 z
      · exact hr.2.symm
  refine gx_pre (fk := fk) (by omega) (fun cx cy cw hH => qx_en (s := (np, px, py, pc)) hG2 hH (by show np < 81; omega) (fun z cx cy cw cd _ => And.intro rfl (Yyes 1 _ ?_ (Or.inr ⟨z, rfl⟩))) (fun z cx cy cw cd _ => And.intro rfl (Yyes 0 _ ?_ (Or.inl ⟨z, rfl⟩))))
  · rintro _ ⟨fe, ex, ey, ew, ds, rfl⟩
    exact zr_mk R
  · rintro _ ⟨fe, ex, ey, ew, ds, rfl⟩
    exact zr_mk R
/-! the status of an access: one answer r for both sides -/
def qs_lo (np : Nat) (px py pc ro ra rv rc rP : Nat → Int32) (k : Nat) : Prop := ¬ ed_sat (ed_push (ed_ctx (np, px, py, pc) ro ra rv rc rP k k) (rv k) 0 ((-(rc k)) - 1))
def qs_hi (np : Nat) (px py pc ro ra rv rc rP lv lc : Nat → Int32) (k : Nat) : Prop := ¬ ed_sat (ed_push (ed_ctx (np, px, py, pc) ro ra rv rc rP k k) (lv (ra k).toNatClampNeg) (rv k) (rc k - lc (ra k).toNatClampNeg))
def qs_St (n np : Nat) (px py pc ro ra rv rc rP lv lc : Nat → Int32) (x r : Int32) : Prop :=
  ((∀ k, k < n → x = nI k → ¬ (ro k = 5 ∨ ro k = 6 ∨ ro k = 7)) ∧ r = 0) ∨
  ∃ k, k < n ∧ x = nI k ∧ (ro k = 5 ∨ ro k = 6 ∨ ro k = 7) ∧
    ((qs_lo np px py pc ro ra rv rc rP k ∧ qs_hi np px py pc ro ra rv rc rP lv lc k ∧ r = 1) ∨
     (¬ qs_lo np px py pc ro ra rv rc rP k ∧ qs_hi np px py pc ro ra rv rc rP lv lc k ∧ r = 2) ∨
     (qs_lo np px py pc ro ra rv rc rP k ∧ ¬ qs_hi np px py pc ro ra rv rc rP lv lc k ∧ r = 3) ∨
     (¬ qs_lo np px py pc ro ra rv rc rP k ∧ ¬ qs_hi np px py pc ro ra rv rc rP lv lc k ∧ r = 4))
section
variable {kc pq n m np : Nat} {s : Nat → Nat} {K1 K2 fn fm fp fa ft fk fe : Int32} {ro ra rv rc rP rS px py pc lv lc ce vx le cx cy cw cd vy ex ey ew ds hi : Nat → Int32}
theorem qs_ex (x : Int32) : ∃ r, qs_St n np px py pc ro ra rv rc rP lv lc x r := by
  by_cases h : ∃ k, k < n ∧ x = nI k ∧ (ro k = 5 ∨ ro k = 6 ∨ ro k = 7)
  · obtain ⟨k, h1, h2, h3⟩ := h
    by_cases a : qs_lo np px py pc ro ra rv rc rP k
    · by_cases b : qs_hi np px py pc ro ra rv rc rP lv lc k
      · exact ⟨1, Or.inr ⟨k, h1, h2, h3, Or.inl ⟨a, b, rfl⟩⟩⟩
      · exact ⟨3, Or.inr ⟨k, h1, h2, h3, Or.inr (Or.inr (Or.inl ⟨a, b, rfl⟩))⟩⟩
    · by_cases b : qs_hi np px py pc ro ra rv rc rP lv lc k
      · exact ⟨2, Or.inr ⟨k, h1, h2, h3, Or.inr (Or.inl ⟨a, b, rfl⟩)⟩⟩
      · exact ⟨4, Or.inr ⟨k, h1, h2, h3, Or.inr (Or.inr (Or.inr ⟨a, b, rfl⟩))⟩⟩
  · exact ⟨0, Or.inl ⟨fun k h1 h2 h3 => h ⟨k, h1, h2, h3⟩, rfl⟩⟩
theorem zr_ac (R : zR kc pq n m np s ro ra rv rc rP rS px py pc lv lc vx vy) {k : Nat} (hk : k < n) (h : ro k = 5 ∨ ro k = 6 ∨ ro k = 7) : zS (ra k) ∧ ns_Bd ro ra k (rv k) ∧ ns_K (rc k) := by
  rcases R.2.2.2.1 k hk with g | g | g | g | g
  · rw [g.1] at h; exact absurd h (by decide)
  · rw [g.1] at h; exact absurd h (by decide)
  · rw [g] at h; exact absurd h (by decide)
  · rw [g.1] at h; exact absurd h (by decide)
  · exact ⟨g.2.1, g.2.2.1, g.2.2.2⟩
/-- an instruction that isn't an access has a code below 5 -/
theorem zr_na (R : zR kc pq n m np s ro ra rv rc rP rS px py pc lv lc vx vy) {k : Nat} (hk : k < n) (h : ¬ (ro k = 5 ∨ ro k = 6 ∨ ro k = 7)) : ¬ 5 ≤ ro k := by
  rcases R.2.2.2.1 k hk with g | g | g | g | g
  · rw [g.1]; decide
  · rw [g.1]; decide
  · rw [g]; decide
  · rw [g.1]; decide
  · exact absurd g.1 h
theorem qs_x (R : zR kc pq n m np s ro ra rv rc rP rS px py pc lv lc vx vy) {x r : Int32} (hS : qs_St n np px py pc ro ra rv rc rP lv lc x r) {post : Int32 → SX → Prop}
    (h : ∀ (fk : Int32) (cx cy cw cd : Nat → Int32), post r (nI kc, nI pq, nI n, nI m, nI np, fa, ft, fk, ro, ra, rv, rc, rP, rS, px, py, pc, lv, lc, ce, vx, le, cx, cy, cw, cd)) : wpX_accessStatus post (nI kc, nI pq, nI n, nI m, nI np, fa, ft, fk, ro, ra, rv, rc, rP, rS, px, py, pc, lv, lc, ce, vx, le, cx, cy, cw, cd) x := by
  have b := R.1
  rcases hS with ⟨hno, rfl⟩ | ⟨k, hk, rfl, ha, hr⟩
  · by_cases h0 : x < 0
    · exact br_t h0 (h _ _ _ _ _)
    · obtain ⟨j, hj, rfl⟩ := nI_of h0
      by_cases h1 : j < n
      · refine br_f h0 (br_f (nI_ge h1 (by omega)) (And.intro (vp_in_nI (by omega) (by omega)) ?_))
        rw [nI_clamp hj]
        exact sx_ac (fun z => absurd z (hno j h1 rfl)) (fun _ => br_t rfl (h _ _ _ _ _))
      · exact br_f h0 (br_t (nI_le (by omega) hj) (h _ _ _ _ _))
  · obtain ⟨w1, w2, w3⟩ := zr_ac R hk ha
    have w31 := w3.1
    have w32 := w3.2
    have e : (nI k).toNatClampNeg = k := nI_clamp (by omega)
    have hin : vp_in (nI k) 32 := vp_in_nI (by omega) (by omega)
    have hV := zr_bd R (by omega) w2
    have hG := zr_Gc R (show k ≤ n by omega)
    have hc : (ed_ctx (np, px, py, pc) ro ra rv rc rP k k).1 ≤ np + 2 * k := ed_c1 k
    obtain ⟨j, hj, ej, _⟩ := zq_n (k := 3) w1.1 w1.2
    have ec : (ra k).toNatClampNeg = j := by rw [ej]; exact nI_clamp (by omega)
    have hin4 : vp_in (ra k) 4 := by rw [ej]; exact vp_in_nI (by omega) (by omega)
    obtain ⟨l1, l2⟩ := R.2.2.2.2.2.1 j (by omega)
    have en := zq_ng (c := rc k) (by omega) (by omega)
    have hG1 : ed_G (ed_push (ed_ctx (np, px, py, pc) ro ra rv rc rP k k) (rv k) 0 ((-(rc k)) - 1)) := ed_G_push hG hV ed_V0 (by omega) (by omega)
    have ed := zq_df w3 l2
    have l21 := l2.1
    have l22 := l2.2
    have hG2 : ed_G (ed_push (ed_ctx (np, px, py, pc) ro ra rv rc rP k k) (lv (ra k).toNatClampNeg) (rv k) ((-((lc (ra k).toNatClampNeg - 1) - rc k)) - 1)) := by
      rw [zq_hi, ec]
      exact ed_G_push hG (zS_V l1) hV (by omega) (by omega)
    refine br_f (nI_pos (by omega)) (br_f (nI_ge hk (by omega)) (And.intro hin ?_))
    rw [e]
    refine sx_ac (fun _ => br_f (by decide) ?_) (fun z => absurd ha z)
    refine And.intro hin (nm_e (And.intro hin (nm_e (And.intro hin (nm_e ?_)))))
    refine gx_ctx (fk := fk) (by omega) (by omega) (fun cx cy cw hH => ?_)
    have fin : ∀ r2 : Int32, (qs_lo np px py pc ro ra rv rc rP k ∧ r2 = 1 ∨ ¬ qs_lo np px py pc ro ra rv rc rP k ∧ r2 = 0) → ∀ cx cy cw cd : Nat → Int32, ed_H (ed_ctx (np, px, py, pc) ro ra rv rc rP k k) cx cy cw →
        wpX_constraintsEntail (fun r_68 u => match u with | (K1, K2, fn, fm, fp, fa, ft, fk, ro, ra, rv, rc, rP, rS, px, py, pc, lv, lc, ce, vx, le, cx, cy, cw, cd) => (((r2 = 0 → (((r_68 = 0 → (post 4 (K1, K2, fn, fm, fp, fa, ft, fk, ro, ra, rv, rc, rP, rS, px, py, pc, lv, lc, ce, vx, le, cx, cy, cw, cd))) ∧ (¬ r_68 = 0 → (post 2 (K1, K2, fn, fm, fp, fa, ft, fk, ro, ra, rv, rc, rP, rS, px, py, pc, lv, lc, ce, vx, le, cx, cy, cw, cd)))))) ∧ (¬ r2 = 0 → (((r_68 = 0 → (post 3 (K1, K2, fn, fm, fp, fa, ft, fk, ro, ra, rv, rc, rP, rS, px, py, pc, lv, lc, ce, vx, le, cx, cy, cw, cd))) ∧ (¬ r_68 = 0 → (post 1 (K1, K2, fn, fm, fp, fa, ft, fk, ro, ra, rv, rc, rP, rS, px, py, pc, lv, lc, ce, vx, le, cx, cy, cw, cd))))))))) (nI kc, nI pq, nI n, nI m, nI np, fa, ft, nI (ed_ctx (np, px, py, pc) ro ra rv rc rP k k).1, ro, ra, rv, rc, rP, rS, px, py, pc, lv, lc, ce, vx, le, cx, cy, cw, cd) (rv k) (lv (ra k).toNatClampNeg) ((lc (ra k).toNatClampNeg - 1) - rc k) := by
      intro r2 hr2 cx cy cw cd hH
      refine qx_en hG2 hH (by omega) (fun z cx cy cw cd _ => ?_) (fun z cx cy cw cd _ => ?_)
      · rw [zq_hi] at z
        have hh : qs_hi np px py pc ro ra rv rc rP lv lc k := z
        rcases hr2 with ⟨a, rfl⟩ | ⟨a, rfl⟩
        · refine br_f (by decide) (br_f (by decide) ?_)
          rcases hr with q | q | q | q
          · rw [← q.2.2]; exact h _ _ _ _ _
          · exact absurd a q.1
          · exact absurd hh q.2.1
          · exact absurd a q.1
        · refine br_t rfl (br_f (by decide) ?_)
          rcases hr with q | q | q | q
          · exact absurd q.1 a
          · rw [← q.2.2]; exact h _ _ _ _ _
          · exact absurd q.1 a
          · exact absurd hh q.2.1
      · rw [zq_hi] at z
        have hh : ¬ qs_hi np px py pc ro ra rv rc rP lv lc k := fun w => w z
        rcases hr2 with ⟨a, rfl⟩ | ⟨a, rfl⟩
        · refine br_f (by decide) (br_t rfl ?_)
          rcases hr with q | q | q | q
          · exact absurd q.2.1 hh
          · exact absurd q.2.1 hh
          · rw [← q.2.2]; exact h _ _ _ _ _
          · exact absurd a q.1
        · refine br_t rfl (br_t rfl ?_)
          rcases hr with q | q | q | q
          · exact absurd q.2.1 hh
          · exact absurd q.2.1 hh
          · exact absurd q.1 a
          · rw [← q.2.2]; exact h _ _ _ _ _
    refine qx_en hG1 hH (by omega) (fun z cx cy cw cd hH => And.intro hin4 (And.intro hin4 (fin 1 (Or.inl ⟨z, rfl⟩) cx cy cw cd hH))) (fun z cx cy cw cd hH => And.intro hin4 (And.intro hin4 (fin 0 (Or.inr ⟨fun w => w z, rfl⟩) cx cy cw cd hH)))
theorem qs_y (R : zR kc pq n m np s ro ra rv rc rP rS px py pc lv lc vx vy) {x r : Int32} (hS : qs_St n np px py pc ro ra rv rc rP lv lc x r) {post : Int32 → SY → Prop}
    (h : ∀ (fe : Int32) (ex ey ew ds : Nat → Int32), post r (nI kc, nI pq, nI n, nI np, fa, ft, fe, ro, ra, rv, rc, px, py, pc, lv, lc, vy, ce, ex, ey, ew, ds, hi)) : wpY_accessStatus post (nI kc, nI pq, nI n, nI np, fa, ft, fe, ro, ra, rv, rc, px, py, pc, lv, lc, vy, ce, ex, ey, ew, ds, hi) x := by
  have b := R.1
  rcases hS with ⟨hno, rfl⟩ | ⟨k, hk, rfl, ha, hr⟩
  · by_cases h0 : x < 0
    · exact br_t h0 (h _ _ _ _ _)
    · obtain ⟨j, hj, rfl⟩ := nI_of h0
      by_cases h1 : j < n
      · refine br_f h0 (br_t (nI_lt h1 (by omega)) (And.intro (vp_in_nI (by omega) (by omega)) ?_))
        rw [nI_clamp hj]
        exact br_f (zr_na R h1 (hno j h1 rfl)) (h _ _ _ _ _)
      · exact br_f h0 (br_f (nI_nlt (by omega) hj) (h _ _ _ _ _))
  · obtain ⟨w1, w2, w3⟩ := zr_ac R hk ha
    have w31 := w3.1
    have w32 := w3.2
    have e : (nI k).toNatClampNeg = k := nI_clamp (by omega)
    have hin : vp_in (nI k) 32 := vp_in_nI (by omega) (by omega)
    have hV := zr_bd R (by omega) w2
    have hG := zr_Gc R (show k ≤ n by omega)
    have hc : (ed_ctx (np, px, py, pc) ro ra rv rc rP k k).1 ≤ np + 2 * k := ed_c1 k
    obtain ⟨j, hj, ej, _⟩ := zq_n (k := 3) w1.1 w1.2
    have ec : (ra k).toNatClampNeg = j := by rw [ej]; exact nI_clamp (by omega)
    have hin4 : vp_in (ra k) 4 := by rw [ej]; exact vp_in_nI (by omega) (by omega)
    obtain ⟨l1, l2⟩ := R.2.2.2.2.2.1 j (by omega)
    have en := zq_ng (c := rc k) (by omega) (by omega)
    have hG1 : ed_G (ed_push (ed_ctx (np, px, py, pc) ro ra rv rc rP k k) (rv k) 0 ((-(rc k)) - 1)) := ed_G_push hG hV ed_V0 (by omega) (by omega)
    have ed := zq_df w3 l2
    have l21 := l2.1
    have l22 := l2.2
    have hG2 : ed_G (ed_push (ed_ctx (np, px, py, pc) ro ra rv rc rP k k) (lv (ra k).toNatClampNeg) (rv k) (rc k - lc (ra k).toNatClampNeg)) := by
      rw [ec]
      exact ed_G_push hG (zS_V l1) hV (by omega) (by omega)
    have h5 : 5 ≤ ro k := by rcases ha with z | z | z <;> rw [z] <;> decide
    refine br_f (nI_pos (by omega)) (br_t (nI_lt hk (by omega)) (And.intro hin ?_))
    rw [e]
    refine br_t h5 (And.intro hin (nm_e (And.intro hin (nm_e (And.intro hin (And.intro hin4 (nm_e (And.intro hin (And.intro hin4 (nm_e ?_))))))))))
    have fin : ∀ r2 : Int32, (qs_lo np px py pc ro ra rv rc rP k ∧ r2 = 1 ∨ ¬ qs_lo np px py pc ro ra rv rc rP k ∧ r2 = 0) → ∀ (fe : Int32) (ex ey ew ds : Nat → Int32),
        wY_accessStatus_93 post (nI k) (rv k) (rc k) (lv (ra k).toNatClampNeg) (lc (ra k).toNatClampNeg) r2 (nI kc) (nI pq) (nI n) (nI np) fa ft fe ro ra rv rc px py pc lv lc vy ce ex ey ew ds hi := by
      intro r2 hr2 fe ex ey ew ds
      refine gy_base (fe := fe) (by omega) (by omega) (by omega) (zr_P R) (fun ex ey ew hH => gy_add (by omega) _ _ _ (so_y hG2 (ed_H_push hH _ _ _) (by show _ + 1 ≤ 81; omega) (fun z ds => ?_) (fun z ds => ?_)))
      · have hh : ¬ qs_hi np px py pc ro ra rv rc rP lv lc k := fun w => w z
        refine br_f (by decide) ?_
        rcases hr2 with ⟨a, rfl⟩ | ⟨a, rfl⟩
        · refine br_f (by decide) (br_t rfl (br_t rfl (br_f (by decide) ?_)))
          rcases hr with q | q | q | q
          · exact absurd q.2.1 hh
          · exact absurd q.2.1 hh
          · rw [← q.2.2]; exact h _ _ _ _ _
          · exact absurd a q.1
        · refine br_t rfl (br_t rfl (br_t rfl ?_))
          rcases hr with q | q | q | q
          · exact absurd q.2.1 hh
          · exact absurd q.2.1 hh
          · exact absurd q.1 a
          · rw [← q.2.2]; exact h _ _ _ _ _
      · have hh : qs_hi np px py pc ro ra rv rc rP lv lc k := z
        refine br_t rfl ?_
        rcases hr2 with ⟨a, rfl⟩ | ⟨a, rfl⟩
        · refine br_f (by decide) (br_f (by decide) ?_)
          rcases hr with q | q | q | q
          · rw [← q.2.2]; exact h _ _ _ _ _
          · exact absurd a q.1
          · exact absurd hh q.2.1
          · exact absurd a q.1
        · refine br_t rfl (br_f (by decide) ?_)
          rcases hr with q | q | q | q
          · exact absurd q.1 a
          · rw [← q.2.2]; exact h _ _ _ _ _
          · exact absurd q.1 a
          · exact absurd hh q.2.1
    refine gy_base (fe := fe) (by omega) (by omega) (by omega) (zr_P R) (fun ex ey ew hH => gy_add (by omega) _ _ _ (so_y hG1 (ed_H_push hH _ _ _) (by show _ + 1 ≤ 81; omega) (fun z ds => ?_) (fun z ds => ?_)))
    · exact br_f (by decide) (fin 0 (Or.inr ⟨fun w => w z, rfl⟩) _ _ _ _ _)
    · exact br_t rfl (fin 1 (Or.inl ⟨z, rfl⟩) _ _ _ _ _)
/-- check, in lockstep: one answer for both sides -/
theorem qc_l (R : zR kc pq n m np s ro ra rv rc rP rS px py pc lv lc vx vy) : ∀ t k : Nat, k + t = n → ∃ r : Int32,
    (∀ post : Int32 → SX → Prop, (∀ (fk : Int32) (cx cy cw cd : Nat → Int32), post r (nI kc, nI pq, nI n, nI m, nI np, fa, ft, fk, ro, ra, rv, rc, rP, rS, px, py, pc, lv, lc, ce, vx, le, cx, cy, cw, cd)) → ∀ (fk : Int32) (cx cy cw cd : Nat → Int32), wX_check_12 post (t + 1) (nI k) (nI kc) (nI pq) (nI n) (nI m) (nI np) fa ft fk ro ra rv rc rP rS px py pc lv lc ce vx le cx cy cw cd) ∧
    (∀ post : Int32 → SY → Prop, (∀ (fe : Int32) (ex ey ew ds : Nat → Int32), post r (nI kc, nI pq, nI n, nI np, fa, ft, fe, ro, ra, rv, rc, px, py, pc, lv, lc, vy, ce, ex, ey, ew, ds, hi)) → ∀ (fe : Int32) (ex ey ew ds : Nat → Int32), wY_check_12 post (t + 1) (nI k) (nI kc) (nI pq) (nI n) (nI np) fa ft fe ro ra rv rc px py pc lv lc vy ce ex ey ew ds hi) := by
  have b := R.1
  intro t
  induction t with
  | zero =>
    intro k hk
    exact ⟨-1, fun post h _ _ _ _ _ => br_t (nI_le (by omega) (by omega)) (h _ _ _ _ _), fun post h _ _ _ _ _ => br_t (nI_le (by omega) (by omega)) (h _ _ _ _ _)⟩
  | succ t ih =>
    intro k hk
    obtain ⟨q, hq⟩ := qs_ex (n := n) (np := np) (px := px) (py := py) (pc := pc) (ro := ro) (ra := ra) (rv := rv) (rc := rc) (rP := rP) (lv := lv) (lc := lc) (nI k)
    obtain ⟨r, hX, hY⟩ := ih (k + 1) (by omega)
    by_cases q0 : q = 0
    · refine ⟨r, fun post h fk cx cy cw cd => br_f (nI_ge (by omega) (by omega)) (qs_x R hq (fun fk cx cy cw cd => br_t q0 (nm_r (nI_1 k) (hX post h fk cx cy cw cd)))), fun post h fe ex ey ew ds => br_f (nI_ge (by omega) (by omega)) (qs_y R hq (fun fe ex ey ew ds => br_f (by rw [q0]; decide) (br_t q0 (nm_r (nI_1 k) (hY post h fe ex ey ew ds)))))⟩
    · by_cases q1 : q = 1
      · refine ⟨r, fun post h fk cx cy cw cd => br_f (nI_ge (by omega) (by omega)) (qs_x R hq (fun fk cx cy cw cd => br_f q0 (br_t q1 (nm_r (nI_1 k) (hX post h fk cx cy cw cd))))), fun post h fe ex ey ew ds => br_f (nI_ge (by omega) (by omega)) (qs_y R hq (fun fe ex ey ew ds => br_t q1 (nm_r (nI_1 k) (hY post h fe ex ey ew ds))))⟩
      · exact ⟨nI k, fun post h fk cx cy cw cd => br_f (nI_ge (by omega) (by omega)) (qs_x R hq (fun fk cx cy cw cd => br_f q0 (br_f q1 (h fk cx cy cw cd)))), fun post h fe ex ey ew ds => br_f (nI_ge (by omega) (by omega)) (qs_y R hq (fun fe ex ey ew ds => br_f q1 (br_f q0 (h fe ex ey ew ds))))⟩
end
theorem i_vc_accessStatus {k : Nat} {u : SX} {v : SY} (I : i_Rel k u v) (hk : k + 5 ≤ 2562) (v1 : Int32) : wpX_accessStatus (fun r u' => wpY_accessStatus (fun r' v' => r' = r ∧ i_Rel (k + 5) u' v') v v1) u v1 := by
  obtain ⟨kc, pq, n, m, np, s, fa, ft, fk, fe, ro, ra, rv, rc, rP, rS, px, py, pc, lv, lc, ce, vx, le, cx, cy, cw, cd, vy, ex, ey, ew, ds, hi, rfl, rfl, R⟩ := I
  obtain ⟨q, hq⟩ := qs_ex (n := n) (np := np) (px := px) (py := py) (pc := pc) (ro := ro) (ra := ra) (rv := rv) (rc := rc) (rP := rP) (lv := lv) (lc := lc) v1
  exact qs_x R hq (fun fk cx cy cw cd => qs_y R hq (fun fe ex ey ew ds => ⟨rfl, zr_mk R⟩))
theorem i_vc_check {k : Nat} {u : SX} {v : SY} (I : i_Rel k u v) (hk : k + 5 ≤ 2562) : wpX_check (fun r u' => wpY_check (fun r' v' => r' = r ∧ i_Rel (k + 5) u' v') v) u := by
  obtain ⟨kc, pq, n, m, np, s, fa, ft, fk, fe, ro, ra, rv, rc, rP, rS, px, py, pc, lv, lc, ce, vx, le, cx, cy, cw, cd, vy, ex, ey, ew, ds, hi, rfl, rfl, R⟩ := I
  have b := R.1
  by_cases h0 : 0 < m
  · refine br_f (nI_nle h0 (by omega)) (sy_ao (by omega) (fun _ => br_f (by decide) ⟨rfl, zr_mk R⟩) (fun z => absurd ((zr_ao R).mp h0) z))
  · have e : m = 0 := by omega
    subst e
    obtain ⟨r, hX, hY⟩ := qc_l R n 0 (by omega)
    refine br_t (by decide) (Exists.intro _ (hX _ (fun fk cx cy cw cd => ?_) fk cx cy cw cd))
    refine sy_ao (by omega) (fun z => absurd ((zr_ao R).mpr z) h0) (fun _ => br_t rfl (Exists.intro _ (hY _ (fun fe ex ey ew ds => ⟨rfl, zr_mk R⟩) fe ex ey ew ds)))
end
section
/-! emit -/
def em_OL (ro ra : Nat → Int32) (n : Nat) (x : Int32) : Prop := ∃ j d, j < n ∧ ro j = 1 ∧ ra j = x ∧ ns_at ro j n = .inl d
def em_MA (ro ra : Nat → Int32) (n m : Nat) (op x y w : Int32) : Prop :=
  (op = 1 ∧ (4 ≤ x.toInt ∧ x.toInt ≤ 7) ∧ ¬ em_OL ro ra n x ∧ ns_Bd ro ra n y ∧ ns_K w) ∨
  (op = 2 ∧ ns_Bd ro ra n x ∧ ns_Bd ro ra n y ∧ ns_K w) ∨
  (op = 3 ∧ 0 < m) ∨
  (op = 4 ∧ ns_K w) ∨
  ((op = 5 ∨ op = 6 ∨ op = 7) ∧ zS x ∧ ns_Bd ro ra n y ∧ ns_K w)
section
variable {ro ra : Nat → Int32} {n m : Nat} {op x y w : Int32}
theorem em_1 (z : em_MA ro ra n m 1 x y w) : (4 ≤ x.toInt ∧ x.toInt ≤ 7) ∧ ¬ em_OL ro ra n x ∧ ns_Bd ro ra n y ∧ ns_K w := by
  rcases z with z | z | z | z | z
  · exact z.2
  · exact absurd z.1 (by decide)
  · exact absurd z.1 (by decide)
  · exact absurd z.1 (by decide)
  · exact absurd z.1 (by decide)
theorem em_2 (z : em_MA ro ra n m 2 x y w) : ns_Bd ro ra n x ∧ ns_Bd ro ra n y ∧ ns_K w := by
  rcases z with z | z | z | z | z
  · exact absurd z.1 (by decide)
  · exact z.2
  · exact absurd z.1 (by decide)
  · exact absurd z.1 (by decide)
  · exact absurd z.1 (by decide)
theorem em_3 (z : em_MA ro ra n m 3 x y w) : 0 < m := by
  rcases z with z | z | z | z | z
  · exact absurd z.1 (by decide)
  · exact absurd z.1 (by decide)
  · exact z.2
  · exact absurd z.1 (by decide)
  · exact absurd z.1 (by decide)
theorem em_4 (z : em_MA ro ra n m 4 x y w) : ns_K w := by
  rcases z with z | z | z | z | z
  · exact absurd z.1 (by decide)
  · exact absurd z.1 (by decide)
  · exact absurd z.1 (by decide)
  · exact z.2
  · exact absurd z.1 (by decide)
theorem em_567 {a : Int32} (h : a = 5 ∨ a = 6 ∨ a = 7) : ¬ a < 1 ∧ ¬ 7 < a ∧ a ≤ 7 ∧ ¬ a = 1 ∧ ¬ a = 2 ∧ ¬ a = 3 ∧ ¬ a = 4 := by
  rcases h with z | z | z <;> rw [z] <;> decide
theorem em_5 (h : op = 5 ∨ op = 6 ∨ op = 7) (z : em_MA ro ra n m op x y w) : zS x ∧ ns_Bd ro ra n y ∧ ns_K w := by
  obtain ⟨_, _, _, a1, a2, a3, a4⟩ := em_567 h
  rcases z with z | z | z | z | z
  · exact absurd z.1 a1
  · exact absurd z.1 a2
  · exact absurd z.1 a3
  · exact absurd z.1 a4
  · exact z.2
theorem em_rg (z : em_MA ro ra n m op x y w) : ¬ op < 1 ∧ ¬ 7 < op := by
  rcases z with z | z | z | z | z
  · rw [z.1]; decide
  · rw [z.1]; decide
  · rw [z.1]; decide
  · rw [z.1]; decide
  · exact ⟨(em_567 z.1).1, (em_567 z.1).2.1⟩
/-- a code between 1 and 7 is one of the seven -/
theorem em_7 (h1 : ¬ op < 1) (h7 : ¬ 7 < op) : op = 1 ∨ op = 2 ∨ op = 3 ∨ op = 4 ∨ (op = 5 ∨ op = 6 ∨ op = 7) := by
  rw [Int32.lt_iff_toInt_lt, zq_1] at h1
  rw [Int32.lt_iff_toInt_lt, zq_7] at h7
  obtain ⟨j, hj, e, ej⟩ := zq_n (x := op) (k := 7) (by omega) (by omega)
  have : j = 1 ∨ j = 2 ∨ j = 3 ∨ j = 4 ∨ j = 5 ∨ j = 6 ∨ j = 7 := by omega
  rcases this with z | z | z | z | z | z | z <;> subst z <;> rw [e]
  · exact Or.inl rfl
  · exact Or.inr (Or.inl rfl)
  · exact Or.inr (Or.inr (Or.inl rfl))
  · exact Or.inr (Or.inr (Or.inr (Or.inl rfl)))
  · exact Or.inr (Or.inr (Or.inr (Or.inr (Or.inl rfl))))
  · exact Or.inr (Or.inr (Or.inr (Or.inr (Or.inr (Or.inl rfl)))))
  · exact Or.inr (Or.inr (Or.inr (Or.inr (Or.inr (Or.inr rfl)))))
theorem em_Bd {z : Int32} (h : ns_Bd ro ra n z) : ns_Bd (upd ro n op) (upd ra n x) n z := ns_Bd_x (fun i hi => ns_uo (by omega)) (fun i hi => ns_uo (by omega)) h
theorem em_wf {rv rc : Nat → Int32} (z : em_MA ro ra n m op x y w) : ns_WF (upd ro n op) (upd ra n x) (upd rv n y) (upd rc n w) n := by
  unfold ns_WF
  rw [ns_us, ns_us, ns_us, ns_us]
  rcases z with z | z | z | z | z
  · refine Or.inl ⟨z.1, z.2.1, ?_, em_Bd z.2.2.2.1, z.2.2.2.2⟩
    intro j d hj h1 h2 h3
    rw [ns_uo (by omega)] at h1 h3
    rw [ns_ux] at h2
    exact z.2.2.1 ⟨j, d, hj, h1, h3, h2⟩
  · exact Or.inr (Or.inl ⟨z.1, em_Bd z.2.1, em_Bd z.2.2.1, z.2.2.2⟩)
  · exact Or.inr (Or.inr (Or.inl z.1))
  · exact Or.inr (Or.inr (Or.inr (Or.inl z)))
  · exact Or.inr (Or.inr (Or.inr (Or.inr ⟨z.1, z.2.1, em_Bd z.2.2.1, z.2.2.2⟩)))
end
section
variable {post : Int32 → Prop} {kc pq n m np : Nat} {s : Nat → Nat} {K1 K2 fn fm fp fa ft fk fe : Int32} {ro ra rv rc rP rS px py pc lv lc ce vx le cx cy cw cd vy ex ey ew ds hi : Nat → Int32}
theorem ex_ol_l {x : Int32} (hm : m ≤ 32) (hS : ∀ i, i < m → rS i = nI (s i) ∧ s i < 32) (h1 : (∃ i, i < m ∧ ro (s i) = 1 ∧ ra (s i) = x) → post 1) (h0 : ¬ (∃ i, i < m ∧ ro (s i) = 1 ∧ ra (s i) = x) → post 0) :
    ∀ t i : Nat, i + t = m → (∀ q, q < i → ¬ (ro (s q) = 1 ∧ ra (s q) = x)) → wX_isOpenLoopVariable_2 post x K1 K2 fn (nI m) fp fa ft fk ro ra rv rc rP rS px py pc lv lc ce vx le cx cy cw cd (t + 1) (nI i) := by
  intro t
  induction t with
  | zero =>
    intro i hi hp
    exact br_t (nI_le (by omega) (by omega)) (h0 fun z => by obtain ⟨q, hq, z⟩ := z; exact hp q (by omega) z)
  | succ t ih =>
    intro i hi hp
    obtain ⟨e1, e2⟩ := hS i (by omega)
    have e : (nI i).toNatClampNeg = i := nI_clamp (by omega)
    have es : (nI (s i)).toNatClampNeg = s i := nI_clamp (by omega)
    have nx : ¬ (ro (s i) = 1 ∧ ra (s i) = x) → wX_isOpenLoopVariable_2 post x K1 K2 fn (nI m) fp fa ft fk ro ra rv rc rP rS px py pc lv lc ce vx le cx cy cw cd (t + 1) (nI (i + 1)) := by
      intro hk
      refine ih (i + 1) (by omega) ?_
      intro q hq
      by_cases z : q = i
      · rw [z]; exact hk
      · exact hp q (by omega)
    refine br_f (nI_ge (by omega) (by omega)) (And.intro (vp_in_nI (by omega) (by omega)) ?_)
    rw [e]
    refine nm_r e1 (And.intro (vp_in_nI e2 (by omega)) ?_)
    rw [es]
    refine br_c (fun z1 => And.intro (vp_in_nI e2 (by omega)) (br_c (fun z2 => h1 ⟨i, by omega, z1, z2⟩) (fun z2 => nm_r (nI_1 i) (nx (fun z => z2 z.2))))) (fun z1 => nm_r (nI_1 i) (nx (fun z => z1 z.1)))
theorem ex_ol (R : zR kc pq n m np s ro ra rv rc rP rS px py pc lv lc vx vy) {x : Int32} (h1 : em_OL ro ra n x → post 1) (h0 : ¬ em_OL ro ra n x → post 0) : wpX_isOpenLoopVariable post (K1, K2, fn, nI m, fp, fa, ft, fk, ro, ra, rv, rc, rP, rS, px, py, pc, lv, lc, ce, vx, le, cx, cy, cw, cd) x :=
  have b := R.1
  Exists.intro _ (ex_ol_l (s := s) (by omega) (fun i hi => ⟨R.2.1 i hi, by have := (R.2.2.1.1 i hi).1; omega⟩) (fun z => h1 ((zr_ol R).mp z)) (fun z => h0 (fun w => z ((zr_ol R).mpr w))) m 0 (by omega) (fun _ h => absurd h (Nat.not_lt_zero _)))
theorem ex_bd (R : zR kc pq n m np s ro ra rv rc rP rS px py pc lv lc vx vy) {x : Int32} (h1 : ns_Bd ro ra n x → post 1) (h0 : ¬ ns_Bd ro ra n x → post 0) : wpX_isBound post (K1, K2, fn, nI m, fp, fa, ft, fk, ro, ra, rv, rc, rP, rS, px, py, pc, lv, lc, ce, vx, le, cx, cy, cw, cd) x := by
  unfold wpX_isBound
  exact sx_sv (fun g => br_f (by decide) (h1 (Or.inl g))) (fun g => br_t rfl (ex_ol R (fun z => br_f (by decide) (h1 (Or.inr z))) (fun z => br_t rfl (h0 (fun q => q.elim (fun q => g q) (fun q => z q))))))
theorem ex_130 (R : zR kc pq n m np s ro ra rv rc rP rS px py pc lv lc vx vy) {x y w : Int32} (h1 : zS x ∧ ns_Bd ro ra n y ∧ ns_K w → post 1) (h0 : ¬ (zS x ∧ ns_Bd ro ra n y ∧ ns_K w) → post 0) : wX_mayAppend_130 post x y w K1 K2 fn (nI m) fp fa ft fk ro ra rv rc rP rS px py pc lv lc ce vx le cx cy cw cd :=
  sx_ar (fun g1 => br_f (by decide) (ex_bd R (fun g2 => br_f (by decide) (sx_k (fun g3 => br_f (by decide) (h1 ⟨g1, g2, g3⟩)) (fun g3 => br_t rfl (h0 (fun z => g3 z.2.2))))) (fun g2 => br_t rfl (h0 (fun z => g2 z.2.1))))) (fun g1 => br_t rfl (h0 (fun z => g1 z.1)))
theorem ex_ma (R : zR kc pq n m np s ro ra rv rc rP rS px py pc lv lc vx vy) {op x y w : Int32} (h1 : em_MA ro ra n m op x y w → post 1) (h0 : ¬ em_MA ro ra n m op x y w → post 0) : wpX_mayAppend post (K1, K2, fn, nI m, fp, fa, ft, fk, ro, ra, rv, rc, rP, rS, px, py, pc, lv, lc, ce, vx, le, cx, cy, cw, cd) op x y w := by
  have b := R.1
  by_cases c1 : op < 1
  · exact br_t c1 (h0 (fun z => (em_rg z).1 c1))
  by_cases c7 : 7 < op
  · exact br_f c1 (br_t c7 (h0 (fun z => (em_rg z).2 c7)))
  refine br_f c1 (br_f c7 ?_)
  rcases em_7 c1 c7 with e | e | e | e | e
  · subst e
    refine br_t rfl (sx_lv (fun g1 => br_f (by decide) (ex_ol R (fun g2 => br_f (by decide) (h0 (fun z => (em_1 z).2.1 g2))) (fun g2 => br_t rfl (ex_bd R (fun g3 => br_f (by decide) (sx_k (fun g4 => br_f (by decide) (h1 (Or.inl ⟨rfl, g1, g2, g3, g4⟩))) (fun g4 => br_t rfl (h0 (fun z => g4 (em_1 z).2.2.2))))) (fun g3 => br_t rfl (h0 (fun z => g3 (em_1 z).2.2.1))))))) (fun g1 => br_t rfl (h0 (fun z => g1 (em_1 z).1))))
  · subst e
    exact br_f (by decide) (br_t rfl (ex_bd R (fun g1 => br_f (by decide) (ex_bd R (fun g2 => br_f (by decide) (sx_k (fun g3 => br_f (by decide) (h1 (Or.inr (Or.inl ⟨rfl, g1, g2, g3⟩)))) (fun g3 => br_t rfl (h0 (fun z => g3 (em_2 z).2.2))))) (fun g2 => br_t rfl (h0 (fun z => g2 (em_2 z).2.1))))) (fun g1 => br_t rfl (h0 (fun z => g1 (em_2 z).1)))))
  · subst e
    refine br_f (by decide) (br_f (by decide) (br_t rfl ?_))
    by_cases hm : 0 < m
    · exact br_f (nI_nle hm (by omega)) (h1 (Or.inr (Or.inr (Or.inl ⟨rfl, hm⟩))))
    · have e : m = 0 := by omega
      subst e
      exact br_t (by decide) (h0 (fun z => hm (em_3 z)))
  · subst e
    exact br_f (by decide) (br_f (by decide) (br_f (by decide) (br_t rfl (sx_k (fun g => And.intro rfl (h1 (Or.inr (Or.inr (Or.inr (Or.inl ⟨rfl, g⟩)))))) (fun g => And.intro rfl (h0 (fun z => g (em_4 z))))))))
  · obtain ⟨_, _, _, a1, a2, a3, a4⟩ := em_567 e
    have key : wX_mayAppend_130 post x y w K1 K2 fn (nI m) fp fa ft fk ro ra rv rc rP rS px py pc lv lc ce vx le cx cy cw cd := ex_130 R (fun g => h1 (Or.inr (Or.inr (Or.inr (Or.inr ⟨e, g⟩))))) (fun g => h0 (fun z => g (em_5 e z)))
    refine br_f a1 (br_f a2 (br_f a3 (br_f a4 ?_)))
    rcases e with e | e | e
    · exact br_t e key
    · exact br_f (by rw [e]; decide) (br_t e key)
    · exact br_f (by rw [e]; decide) (br_f (by rw [e]; decide) (br_t e key))
end
section
variable {kc pq n m np : Nat} {s : Nat → Nat} {K1 K2 fn fm fp fa ft fk fe : Int32} {ro ra rv rc rP rS px py pc lv lc ce vx le cx cy cw cd vy ex ey ew ds hi : Nat → Int32}
theorem ey_159 {post : Int32 → SY → Prop} {op x y w : Int32} (hn : n < 32) (h : post 1 (K1, K2, nI (n + 1), fp, fa, ft, fe, upd ro n op, upd ra n x, upd rv n y, upd rc n w, px, py, pc, lv, lc, vy, ce, ex, ey, ew, ds, hi)) : wY_emit_159 post op x y w K1 K2 (nI n) fp fa ft fe ro ra rv rc px py pc lv lc vy ce ex ey ew ds hi :=
  have e : (nI n).toNatClampNeg = n := nI_clamp (by omega)
  have hin : vp_in (nI n) 32 := vp_in_nI hn (by omega)
  And.intro hin (nm_r (by rw [e]) (And.intro hin (nm_r (by rw [e]) (And.intro hin (nm_r (by rw [e]) (And.intro hin (nm_r (by rw [e]) (nm_r (nI_1 n) h))))))))
theorem ey_em (R : zR kc pq n m np s ro ra rv rc rP rS px py pc lv lc vx vy) {post : Int32 → SY → Prop} {op x y w : Int32} (hn : n < kc)
    (h1 : em_MA ro ra n m op x y w → post 1 (nI kc, K2, nI (n + 1), fp, fa, ft, fe, upd ro n op, upd ra n x, upd rv n y, upd rc n w, px, py, pc, lv, lc, vy, ce, ex, ey, ew, ds, hi)) (h0 : ¬ em_MA ro ra n m op x y w → post 0 (nI kc, K2, nI n, fp, fa, ft, fe, ro, ra, rv, rc, px, py, pc, lv, lc, vy, ce, ex, ey, ew, ds, hi)) : wpY_emit post (nI kc, K2, nI n, fp, fa, ft, fe, ro, ra, rv, rc, px, py, pc, lv, lc, vy, ce, ex, ey, ew, ds, hi) op x y w := by
  have b := R.1
  have hn32 : n ≤ 32 := by omega
  have hL := zr_loop R
  have hap : em_MA ro ra n m op x y w → wY_emit_159 post op x y w (nI kc) K2 (nI n) fp fa ft fe ro ra rv rc px py pc lv lc vy ce ex ey ew ds hi := fun z => ey_159 (by omega) (h1 z)
  refine br_f (fun z => ?_) ?_
  · have := (nI_eq (by omega) (by omega)).mp z
    omega
  by_cases c1 : op < 1
  · exact br_t c1 (h0 (fun z => (em_rg z).1 c1))
  by_cases c7 : 7 < op
  · exact br_f c1 (br_f (Int32.not_le.mpr c7) (h0 (fun z => (em_rg z).2 c7)))
  refine br_f c1 (br_t (Int32.not_lt.mp c7) ?_)
  rcases em_7 c1 c7 with e | e | e | e | e
  · subst e
    refine br_t rfl (zq_lt rfl zq_4 (fun g => h0 (fun z => ?_)) (fun g => zq_lt zq_7 rfl (fun g2 => h0 (fun z => ?_)) (fun g2 => ?_)))
    · have := (em_1 z).1; omega
    · have := (em_1 z).1; omega
    exact sy_ol hn32 (fun g3 => br_f (by decide) (h0 (fun z => (em_1 z).2.1 g3))) (fun g3 => br_t rfl (sy_bd hn32 hL (fun g4 => br_f (by decide) (sy_bc (fun g5 => br_t rfl (hap (Or.inl ⟨rfl, ⟨g, g2⟩, g3, g4, g5⟩))) (fun g5 => br_f (by decide) (h0 (fun z => g5 (em_1 z).2.2.2))))) (fun g4 => br_t rfl (h0 (fun z => g4 (em_1 z).2.2.1)))))
  · subst e
    exact br_f (by decide) (br_t rfl (sy_bd hn32 hL (fun g1 => br_f (by decide) (sy_bd hn32 hL (fun g2 => br_f (by decide) (sy_bc (fun g3 => br_t rfl (hap (Or.inr (Or.inl ⟨rfl, g1, g2, g3⟩)))) (fun g3 => br_f (by decide) (h0 (fun z => g3 (em_2 z).2.2))))) (fun g2 => br_t rfl (h0 (fun z => g2 (em_2 z).2.1))))) (fun g1 => br_t rfl (h0 (fun z => g1 (em_2 z).1)))))
  · subst e
    exact br_f (by decide) (br_f (by decide) (br_t rfl (sy_ao hn32 (fun g => br_f (by decide) (hap (Or.inr (Or.inr (Or.inl ⟨rfl, (zr_ao R).mpr g⟩))))) (fun g => br_t rfl (h0 (fun z => g ((zr_ao R).mp (em_3 z))))))))
  · subst e
    exact br_f (by decide) (br_f (by decide) (br_f (by decide) (br_t rfl (sy_bc (fun g => br_t rfl (hap (Or.inr (Or.inr (Or.inr (Or.inl ⟨rfl, g⟩)))))) (fun g => br_f (by decide) (h0 (fun z => g (em_4 z))))))))
  · obtain ⟨_, _, _, a1, a2, a3, a4⟩ := em_567 e
    refine br_f a1 (br_f a2 (br_f a3 (br_f a4 (zq_lt rfl zq_0 (fun g => h0 (fun z => ?_)) (fun g => zq_lt zq_3 rfl (fun g2 => h0 (fun z => ?_)) (fun g2 => ?_))))))
    · have := (em_5 e z).1.1; omega
    · have := (em_5 e z).1.2; omega
    exact sy_bd hn32 hL (fun g4 => br_f (by decide) (sy_bc (fun g5 => br_t rfl (hap (Or.inr (Or.inr (Or.inr (Or.inr ⟨e, ⟨g, g2⟩, g4, g5⟩)))))) (fun g5 => br_f (by decide) (h0 (fun z => g5 (em_5 e z).2.2))))) (fun g4 => br_t rfl (h0 (fun z => g4 (em_5 e z).2.1)))
theorem em_R {op x y w : Int32} {m' : Nat} {s' : Nat → Nat} {rP' rS' : Nat → Int32} (R : zR kc pq n m np s ro ra rv rc rP rS px py pc lv lc vx vy) (hn : n < kc) (z : em_MA ro ra n m op x y w)
    (hm : m' ≤ n + 1) (hS : ∀ i, i < m' → rS' i = nI (s' i)) (hP : ns_PI (upd ro n op) rP' s' (n + 1) m') : zR kc pq (n + 1) m' np s' (upd ro n op) (upd ra n x) (upd rv n y) (upd rc n w) rP' rS' px py pc lv lc vx vy := by
  obtain ⟨b, _, _, R4, R5⟩ := R
  refine ⟨⟨b.1, b.2.1, by omega, b.2.2.2.1, hm⟩, hS, hP, ?_, R5⟩
  intro p hp
  by_cases e : p = n
  · rw [e]
    exact em_wf z
  · exact ns_WF_x (fun i hi => ns_uo (by omega)) (fun i hi => ns_uo (by omega)) (ns_uo e) (ns_uo e) (R4 p (by omega))
end
theorem i_vc_emit {k : Nat} {u : SX} {v : SY} (I : i_Rel k u v) (hk : k + 5 ≤ 2562) (v1 : Int32) (v2 : Int32) (v3 : Int32) (v4 : Int32) : wpX_emit (fun r u' => wpY_emit (fun r' v' => r' = r ∧ i_Rel (k + 5) u' v') v v1 v2 v3 v4) u v1 v2 v3 v4 := by
  obtain ⟨kc, pq, n, m, np, s, fa, ft, fk, fe, ro, ra, rv, rc, rP, rS, px, py, pc, lv, lc, ce, vx, le, cx, cy, cw, cd, vy, ex, ey, ew, ds, hi, rfl, rfl, R⟩ := I
  have b := R.1
  by_cases hn : n < kc
  · refine br_f (nI_ge hn (by omega)) (ex_ma R (fun z => br_f (by decide) ?_) (fun z => br_t rfl (ey_em R hn (fun w => absurd w z) (fun _ => ⟨rfl, zr_mk R⟩))))
    have e : (nI n).toNatClampNeg = n := nI_clamp (by omega)
    have hin : vp_in (nI n) 32 := vp_in_nI (by omega) (by omega)
    rw [e]
    refine And.intro hin (nm_e (And.intro hin (nm_e (And.intro hin (nm_e (And.intro hin (nm_e (And.intro hin (nm_e ?_)))))))))
    have blk : ns_B v1 → wX_emit_86 (fun r u' => wpY_emit (fun r' v' => r' = r ∧ i_Rel (k + 5) u' v') (nI kc, nI pq, nI n, nI np, fa, ft, fe, ro, ra, rv, rc, px, py, pc, lv, lc, vy, ce, ex, ey, ew, ds, hi) v1 v2 v3 v4) (nI kc) (nI pq) (nI n) (nI m) (nI np) fa ft fk (upd ro n v1) (upd ra n v2) (upd rv n v3) (upd rc n v4) (upd rP n (-1)) rS px py pc lv lc ce vx le cx cy cw cd := by
      intro hB
      have em : (nI m).toNatClampNeg = m := nI_clamp (by omega)
      refine And.intro (vp_in_nI (by omega) (by omega)) (nm_r (by rw [em]) (nm_r (nI_1 m) (nm_r (nI_1 n) ?_)))
      refine ey_em R hn (fun _ => ⟨rfl, zr_mk (em_R R hn z (by omega) ?_ (ns_PI_B R.2.2.1 hB))⟩) (fun w => absurd z w)
      intro i hi2
      by_cases q : i = m
      · rw [q, ns_us]
        show _ = nI (if m = m then n else s m)
        rw [if_pos rfl]
      · rw [ns_uo q]
        show _ = nI (if i = m then n else s i)
        rw [if_neg q]
        exact R.2.1 i (by omega)
    by_cases e1 : v1 = 1
    · exact br_t e1 (blk (Or.inl e1))
    by_cases e2 : v1 = 2
    · exact br_f e1 (br_t e2 (blk (Or.inr e2)))
    have hnB : ¬ ns_B v1 := fun q => q.elim e1 e2
    by_cases e3 : v1 = 3
    · refine br_f e1 (br_f e2 (br_t e3 ?_))
      have hm : 0 < m := by rw [e3] at z; exact em_3 z
      obtain ⟨m', rfl⟩ : ∃ m', m = m' + 1 := ⟨m - 1, by omega⟩
      have hs := (R.2.2.1.1 m' (by omega)).1
      have hS := R.2.1 m' (by omega)
      have em : (nI m').toNatClampNeg = m' := nI_clamp (by omega)
      have es : (nI (s m')).toNatClampNeg = s m' := nI_clamp (by omega)
      refine nm_r (nI_pred m') (And.intro (vp_in_nI (by omega) (by omega)) (nm_r (by rw [em]; exact hS) (And.intro (vp_in_nI (by omega) (by omega)) (nm_r (by rw [es]) (And.intro hin (nm_r (by rw [e]) ?_))))))
      refine nm_r (nI_1 n) ?_
      exact ey_em R hn (fun _ => ⟨rfl, zr_mk (em_R R hn z (by omega) (fun i hi2 => R.2.1 i (by omega)) (ns_PI_E R.2.2.1 e3))⟩) (fun w => absurd z w)
    · refine br_f e1 (br_f e2 (br_f e3 (nm_r (nI_1 n) ?_)))
      exact ey_em R hn (fun _ => ⟨rfl, zr_mk (em_R R hn z (by omega) R.2.1 (ns_PI_o R.2.2.1 hnB e3))⟩) (fun w => absurd z w)
  · have e : n = kc := by omega
    subst e
    exact br_t (nI_le (Nat.le_refl _) (by omega)) (br_t rfl ⟨rfl, zr_mk R⟩)
end
section
/-! run: the component's steps -/
theorem ed_V8 {x : Int32} (h : ed_V x) : vp_in x 8 := by
  obtain ⟨i, hi, rfl⟩ := h
  exact vp_in_nI hi (by omega)
theorem zS_4 {x : Int32} (h : zS x) : vp_in x 4 := by
  obtain ⟨i, hi, e, _⟩ := zq_n (k := 3) h.1 h.2
  rw [e]
  exact vp_in_nI (by omega) (by omega)
theorem zS_l {x : Int32} (h : zS x) : x.toNatClampNeg < 4 := by
  obtain ⟨i, hi, e, _⟩ := zq_n (k := 3) h.1 h.2
  rw [e, nI_clamp (by omega)]
  omega
theorem rn_m1 {k : Nat} (h : k < 2 ^ 31) : ¬ nI k = -1 := by
  intro z
  have z2 := congrArg Int32.toInt z
  rw [nI_toInt h, zq_m1] at z2
  omega
section
variable {post : Int32 → SX → Prop} {p e j : Nat} {K1 K2 fn fm fp fa ft fk : Int32} {ro ra rv rc rP rS px py pc lv lc ce vx le cx cy cw cd : Nat → Int32}
theorem rx_set (hp : p < 32) (h : ro p = 4) (hq : post (nI (p + 1)) (K1, K2, fn, fm, fp, rc p, ft, fk, ro, ra, rv, rc, rP, rS, px, py, pc, lv, lc, ce, vx, le, cx, cy, cw, cd)) : wpX_execute post (K1, K2, fn, fm, fp, fa, ft, fk, ro, ra, rv, rc, rP, rS, px, py, pc, lv, lc, ce, vx, le, cx, cy, cw, cd) (nI p) := by
  have ep : (nI p).toNatClampNeg = p := nI_clamp (by omega)
  have hin : vp_in (nI p) 32 := vp_in_nI hp (by omega)
  refine And.intro hin (nm_r (e' := 4) (by rw [ep]; exact h) ?_)
  refine br_f (by decide) (br_f (by decide) (br_f (by decide) (br_f (by decide) (br_f (by decide) (br_t rfl (And.intro hin (nm_r (e' := rc p) (by rw [ep]) ?_)))))))
  rw [nI_1 p]
  exact hq
theorem rx_ift (hp : p < 32) (h : ro p = 2) (ha : ed_V (ra p)) (hv : ed_V (rv p)) (hc : ¬ rc p < vx (ra p).toNatClampNeg - vx (rv p).toNatClampNeg) (hq : post (nI (p + 1)) (K1, K2, fn, fm, fp, fa, ft, fk, ro, ra, rv, rc, rP, rS, px, py, pc, lv, lc, ce, vx, le, cx, cy, cw, cd)) : wpX_execute post (K1, K2, fn, fm, fp, fa, ft, fk, ro, ra, rv, rc, rP, rS, px, py, pc, lv, lc, ce, vx, le, cx, cy, cw, cd) (nI p) := by
  have ep : (nI p).toNatClampNeg = p := nI_clamp (by omega)
  have hin : vp_in (nI p) 32 := vp_in_nI hp (by omega)
  refine And.intro hin (nm_r (e' := 2) (by rw [ep]; exact h) ?_)
  refine br_f (by decide) (br_f (by decide) (br_f (by decide) (br_t rfl ?_)))
  rw [ep, nI_1 p]
  exact And.intro hin (And.intro (ed_V8 ha) (And.intro hin (And.intro (ed_V8 hv) (And.intro hin (br_f hc hq)))))
theorem rx_iff (hp : p < 32) (h : ro p = 2) (ha : ed_V (ra p)) (hv : ed_V (rv p)) (hc : rc p < vx (ra p).toNatClampNeg - vx (rv p).toNatClampNeg) (hP : rP p = nI e) (hq : post (nI (e + 1)) (K1, K2, fn, fm, fp, fa, ft, fk, ro, ra, rv, rc, rP, rS, px, py, pc, lv, lc, ce, vx, le, cx, cy, cw, cd)) : wpX_execute post (K1, K2, fn, fm, fp, fa, ft, fk, ro, ra, rv, rc, rP, rS, px, py, pc, lv, lc, ce, vx, le, cx, cy, cw, cd) (nI p) := by
  have ep : (nI p).toNatClampNeg = p := nI_clamp (by omega)
  have hin : vp_in (nI p) 32 := vp_in_nI hp (by omega)
  refine And.intro hin (nm_r (e' := 2) (by rw [ep]; exact h) ?_)
  refine br_f (by decide) (br_f (by decide) (br_f (by decide) (br_t rfl ?_)))
  rw [ep, hP, nI_1 e]
  exact And.intro hin (And.intro (ed_V8 ha) (And.intro hin (And.intro (ed_V8 hv) (And.intro hin (br_t hc (And.intro hin hq))))))
theorem rx_lpt (hp : p < 32) (h : ro p = 1) (ha : ed_V (ra p)) (hv : ed_V (rv p)) (hc : 0 < vx (rv p).toNatClampNeg + rc p)
    (hq : post (nI (p + 1)) (K1, K2, fn, fm, fp, fa, ft, fk, ro, ra, rv, rc, rP, rS, px, py, pc, lv, lc, ce, upd vx (ra p).toNatClampNeg 0, upd le (ra p).toNatClampNeg (vx (rv p).toNatClampNeg + rc p), cx, cy, cw, cd)) : wpX_execute post (K1, K2, fn, fm, fp, fa, ft, fk, ro, ra, rv, rc, rP, rS, px, py, pc, lv, lc, ce, vx, le, cx, cy, cw, cd) (nI p) := by
  have ep : (nI p).toNatClampNeg = p := nI_clamp (by omega)
  have hin : vp_in (nI p) 32 := vp_in_nI hp (by omega)
  refine And.intro hin (nm_r (e' := 1) (by rw [ep]; exact h) ?_)
  refine br_f (by decide) (br_f (by decide) (br_t rfl ?_))
  refine And.intro hin ?_
  rw [ep, nI_1 p]
  exact And.intro (ed_V8 hv) (And.intro hin (nm_e (br_t hc (And.intro hin (And.intro (ed_V8 ha) (nm_e (And.intro hin (And.intro (ed_V8 ha) (nm_e hq)))))))))
theorem rx_lpf (hp : p < 32) (h : ro p = 1) (hv : ed_V (rv p)) (hc : ¬ 0 < vx (rv p).toNatClampNeg + rc p) (hP : rP p = nI e) (hq : post (nI (e + 1)) (K1, K2, fn, fm, fp, fa, ft, fk, ro, ra, rv, rc, rP, rS, px, py, pc, lv, lc, ce, vx, le, cx, cy, cw, cd)) : wpX_execute post (K1, K2, fn, fm, fp, fa, ft, fk, ro, ra, rv, rc, rP, rS, px, py, pc, lv, lc, ce, vx, le, cx, cy, cw, cd) (nI p) := by
  have ep : (nI p).toNatClampNeg = p := nI_clamp (by omega)
  have hin : vp_in (nI p) 32 := vp_in_nI hp (by omega)
  refine And.intro hin (nm_r (e' := 1) (by rw [ep]; exact h) ?_)
  refine br_f (by decide) (br_f (by decide) (br_t rfl ?_))
  refine And.intro hin ?_
  rw [ep, hP, nI_1 e]
  exact And.intro (ed_V8 hv) (And.intro hin (nm_e (br_f hc (And.intro hin hq))))
theorem rx_eif (hp : p < 32) (h : ro p = 3) (hP : rP p = nI j) (hj : j < 32) (h2 : ro j = 2) (hq : post (nI (p + 1)) (K1, K2, fn, fm, fp, fa, ft, fk, ro, ra, rv, rc, rP, rS, px, py, pc, lv, lc, ce, vx, le, cx, cy, cw, cd)) : wpX_execute post (K1, K2, fn, fm, fp, fa, ft, fk, ro, ra, rv, rc, rP, rS, px, py, pc, lv, lc, ce, vx, le, cx, cy, cw, cd) (nI p) := by
  have ep : (nI p).toNatClampNeg = p := nI_clamp (by omega)
  have ej : (nI j).toNatClampNeg = j := nI_clamp (by omega)
  have hin : vp_in (nI p) 32 := vp_in_nI hp (by omega)
  refine And.intro hin (nm_r (e' := 3) (by rw [ep]; exact h) ?_)
  refine br_f (by decide) (br_f (by decide) (br_f (by decide) (br_f (by decide) (br_t rfl ?_))))
  refine And.intro hin (nm_r (e' := nI j) (by rw [ep]; exact hP) (And.intro (vp_in_nI hj (by omega)) ?_))
  rw [ej, nI_1 p]
  exact br_t h2 hq
theorem rx_elp (hp : p < 32) (h : ro p = 3) (hP : rP p = nI j) (hj : j < 32) (h2 : ro j = 1) (ha : ed_V (ra j))
    (hx : le (ra j).toNatClampNeg ≤ vx (ra j).toNatClampNeg + 1 → post (nI (p + 1)) (K1, K2, fn, fm, fp, fa, ft, fk, ro, ra, rv, rc, rP, rS, px, py, pc, lv, lc, ce, upd vx (ra j).toNatClampNeg (vx (ra j).toNatClampNeg + 1), le, cx, cy, cw, cd))
    (hb : ¬ le (ra j).toNatClampNeg ≤ vx (ra j).toNatClampNeg + 1 → post (nI (j + 1)) (K1, K2, fn, fm, fp, fa, ft, fk, ro, ra, rv, rc, rP, rS, px, py, pc, lv, lc, ce, upd vx (ra j).toNatClampNeg (vx (ra j).toNatClampNeg + 1), le, cx, cy, cw, cd)) : wpX_execute post (K1, K2, fn, fm, fp, fa, ft, fk, ro, ra, rv, rc, rP, rS, px, py, pc, lv, lc, ce, vx, le, cx, cy, cw, cd) (nI p) := by
  have ep : (nI p).toNatClampNeg = p := nI_clamp (by omega)
  have ej : (nI j).toNatClampNeg = j := nI_clamp (by omega)
  have hin : vp_in (nI p) 32 := vp_in_nI hp (by omega)
  have hin2 : vp_in (nI j) 32 := vp_in_nI hj (by omega)
  refine And.intro hin (nm_r (e' := 3) (by rw [ep]; exact h) ?_)
  refine br_f (by decide) (br_f (by decide) (br_f (by decide) (br_f (by decide) (br_t rfl ?_))))
  refine And.intro hin (nm_r (e' := nI j) (by rw [ep]; exact hP) (And.intro hin2 ?_))
  rw [ej, nI_1 p, nI_1 j]
  refine br_f (by rw [h2]; decide) (And.intro hin2 (nm_e (And.intro (ed_V8 ha) (And.intro (ed_V8 ha) (nm_e (And.intro (ed_V8 ha) (And.intro (ed_V8 ha) ?_)))))))
  rw [ns_us]
  exact br_c hx hb
theorem rx_len {Q : Int32 → Prop} {x : Int32} (hx : zS x) (hl : zS (lv x.toNatClampNeg)) (h : Q (vx (lv x.toNatClampNeg).toNatClampNeg + lc x.toNatClampNeg)) : wpX_lengthOf Q (K1, K2, fn, fm, fp, fa, ft, fk, ro, ra, rv, rc, rP, rS, px, py, pc, lv, lc, ce, vx, le, cx, cy, cw, cd) x :=
  And.intro (zS_4 hx) (And.intro (ed_V8 (zS_V hl)) (And.intro (zS_4 hx) h))
theorem rx_atr (hp : p < 32) (h : ro p = 5 ∨ ro p = 6 ∨ ro p = 7) (ha : zS (ra p)) (hv : ed_V (rv p)) (hl : zS (lv (ra p).toNatClampNeg))
    (hc : vx (rv p).toNatClampNeg + rc p < 0 ∨ ¬ vx (rv p).toNatClampNeg + rc p < vx (lv (ra p).toNatClampNeg).toNatClampNeg + lc (ra p).toNatClampNeg)
    (hq : post (-1) (K1, K2, fn, fm, fp, fa, ft, fk, ro, ra, rv, rc, rP, rS, px, py, pc, lv, lc, ce, vx, le, cx, cy, cw, cd)) : wpX_execute post (K1, K2, fn, fm, fp, fa, ft, fk, ro, ra, rv, rc, rP, rS, px, py, pc, lv, lc, ce, vx, le, cx, cy, cw, cd) (nI p) := by
  have ep : (nI p).toNatClampNeg = p := nI_clamp (by omega)
  have hin : vp_in (nI p) 32 := vp_in_nI hp (by omega)
  have h4 : ¬ ro p < 1 ∧ 4 < ro p := by rcases h with z | z | z <;> rw [z] <;> decide
  refine And.intro hin (nm_r (e' := ro p) (by rw [ep]) (br_f h4.1 (br_t h4.2 ?_)))
  refine And.intro hin ?_
  rw [ep]
  refine nm_e (And.intro hin (And.intro (ed_V8 hv) (And.intro hin (nm_e ?_))))
  by_cases z : vx (rv p).toNatClampNeg + rc p < 0
  · exact br_t z hq
  · exact br_f z (rx_len ha hl (br_f (hc.elim (fun w => absurd w z) id) hq))
theorem rx_aok {c : Nat} (hp : p < 32) (h : ro p = 5 ∨ ro p = 6 ∨ ro p = 7) (ha : zS (ra p)) (hv : ed_V (rv p)) (hl : zS (lv (ra p).toNatClampNeg))
    (h0 : ¬ vx (rv p).toNatClampNeg + rc p < 0) (h1 : vx (rv p).toNatClampNeg + rc p < vx (lv (ra p).toNatClampNeg).toNatClampNeg + lc (ra p).toNatClampNeg)
    (hc : c < 64) (he : ra p * 16 + (vx (rv p).toNatClampNeg + rc p) = nI c)
    (h5 : ro p = 5 → post (nI (p + 1)) (K1, K2, fn, fm, fp, ce c, ft, fk, ro, ra, rv, rc, rP, rS, px, py, pc, lv, lc, ce, vx, le, cx, cy, cw, cd)) (h6 : ro p = 6 → post (nI (p + 1)) (K1, K2, fn, fm, fp, fa + ce c, ft, fk, ro, ra, rv, rc, rP, rS, px, py, pc, lv, lc, ce, vx, le, cx, cy, cw, cd)) (h7 : ro p = 7 → post (nI (p + 1)) (K1, K2, fn, fm, fp, fa, ft, fk, ro, ra, rv, rc, rP, rS, px, py, pc, lv, lc, upd ce c fa, vx, le, cx, cy, cw, cd)) : wpX_execute post (K1, K2, fn, fm, fp, fa, ft, fk, ro, ra, rv, rc, rP, rS, px, py, pc, lv, lc, ce, vx, le, cx, cy, cw, cd) (nI p) := by
  have ep : (nI p).toNatClampNeg = p := nI_clamp (by omega)
  have ec : (nI c).toNatClampNeg = c := nI_clamp (by omega)
  have hin : vp_in (nI p) 32 := vp_in_nI hp (by omega)
  have hic : vp_in (nI c) 64 := vp_in_nI hc (by omega)
  have h4 : ¬ ro p < 1 ∧ 4 < ro p := by rcases h with z | z | z <;> rw [z] <;> decide
  refine And.intro hin (nm_r (e' := ro p) (by rw [ep]) (br_f h4.1 (br_t h4.2 ?_)))
  refine And.intro hin ?_
  rw [ep, nI_1 p]
  refine nm_e (And.intro hin (And.intro (ed_V8 hv) (And.intro hin (nm_e (br_f h0 (rx_len ha hl (br_t h1 (nm_r he (And.intro hin ?_)))))))))
  rw [ec]
  rcases h with z | z | z
  · exact br_t z (And.intro hic (nm_e (h5 z)))
  · exact br_f (by rw [z]; decide) (And.intro hin (br_t z (And.intro hic (nm_e (h6 z)))))
  · exact br_f (by rw [z]; decide) (And.intro hin (br_f (by rw [z]; decide) (And.intro hic (nm_e (h7 z)))))
end
/-! the tests ahead of a run -/
def rn_PM (np : Nat) (px py pc vx : Nat → Int32) : Prop := ∀ i, i < np → vx (px i).toNatClampNeg - vx (py i).toNatClampNeg ≤ pc i
def rn_LF (lv lc vx : Nat → Int32) : Prop := ∀ i, i < 4 → ¬ vx (lv i).toNatClampNeg + lc i < 0 ∧ vx (lv i).toNatClampNeg + lc i ≤ 16
section
variable {post : Int32 → Prop} {K1 K2 fn fm fp fa ft fk : Int32} {ro ra rv rc rP rS px py pc lv lc ce vx le cx cy cw cd : Nat → Int32}
theorem rx_pm_l {np : Nat} (hnp : np ≤ 16) (hw : ∀ i, i < np → zS (px i) ∧ zS (py i) ∧ ns_K (pc i)) (h1 : rn_PM np px py pc vx → post 1) (h0 : ¬ rn_PM np px py pc vx → post 0) :
    ∀ t i : Nat, i + t = np → rn_PM i px py pc vx → wX_parametersMeetPreconditions_2 post K1 K2 fn fm (nI np) fa ft fk ro ra rv rc rP rS px py pc lv lc ce vx le cx cy cw cd (t + 1) (nI i) := by
  intro t
  induction t with
  | zero =>
    intro i hi hp
    have e : i = np := by omega
    subst e
    exact br_t (nI_le (Nat.le_refl _) (by omega)) (h1 hp)
  | succ t ih =>
    intro i hi hp
    have e : (nI i).toNatClampNeg = i := nI_clamp (by omega)
    have hin : vp_in (nI i) 16 := vp_in_nI (by omega) (by omega)
    obtain ⟨w1, w2, _⟩ := hw i (by omega)
    refine br_f (nI_ge (by omega) (by omega)) (And.intro hin ?_)
    rw [e]
    refine And.intro (ed_V8 (zS_V w1)) (And.intro hin (And.intro (ed_V8 (zS_V w2)) (And.intro hin (br_c (fun z => nm_r (nI_1 i) (ih (i + 1) (by omega) ?_)) (fun z => h0 (fun q => z (q i (by omega))))))))
    intro q hq
    by_cases w : q = i
    · rw [w]; exact z
    · exact hp q (by omega)
theorem rx_pm {np : Nat} (hnp : np ≤ 16) (hw : ∀ i, i < np → zS (px i) ∧ zS (py i) ∧ ns_K (pc i)) (h1 : rn_PM np px py pc vx → post 1) (h0 : ¬ rn_PM np px py pc vx → post 0) : wpX_parametersMeetPreconditions post (K1, K2, fn, fm, nI np, fa, ft, fk, ro, ra, rv, rc, rP, rS, px, py, pc, lv, lc, ce, vx, le, cx, cy, cw, cd) :=
  Exists.intro _ (rx_pm_l hnp hw h1 h0 np 0 (by omega) (fun _ h => absurd h (Nat.not_lt_zero _)))
theorem rx_lf_l (hw : ∀ i, i < 4 → zS (lv i) ∧ ns_K (lc i)) (h1 : rn_LF lv lc vx → post 1) (h0 : ¬ rn_LF lv lc vx → post 0) :
    ∀ t i : Nat, i + t = 4 → (∀ q, q < i → ¬ vx (lv q).toNatClampNeg + lc q < 0 ∧ vx (lv q).toNatClampNeg + lc q ≤ 16) → wX_lengthsFitCells_2 post K1 K2 fn fm fp fa ft fk ro ra rv rc rP rS px py pc lv lc ce vx le cx cy cw cd (t + 1) (nI i) := by
  intro t
  induction t with
  | zero =>
    intro i hi hp
    have e : i = 4 := by omega
    subst e
    exact br_t (nI_le (a := 4) (b := 4) (by omega) (by omega)) (h1 hp)
  | succ t ih =>
    intro i hi hp
    have e : (nI i).toNatClampNeg = i := nI_clamp (by omega)
    obtain ⟨w1, _⟩ := hw i (by omega)
    have hz : zS (nI i) := ⟨by rw [nI_toInt (by omega)]; omega, by rw [nI_toInt (by omega)]; omega⟩
    refine br_f (nI_ge (b := 4) (by omega) (by decide)) (rx_len hz (by rw [e]; exact w1) ?_)
    rw [e]
    refine br_c (fun z => h0 (fun q => (q i (by omega)).1 z)) (fun z => br_c (fun z2 => nm_r (nI_1 i) (ih (i + 1) (by omega) ?_)) (fun z2 => h0 (fun q => z2 (q i (by omega)).2)))
    intro q hq
    by_cases w : q = i
    · rw [w]; exact ⟨z, z2⟩
    · exact hp q (by omega)
theorem rx_lf (hw : ∀ i, i < 4 → zS (lv i) ∧ ns_K (lc i)) (h1 : rn_LF lv lc vx → post 1) (h0 : ¬ rn_LF lv lc vx → post 0) : wpX_lengthsFitCells post (K1, K2, fn, fm, fp, fa, ft, fk, ro, ra, rv, rc, rP, rS, px, py, pc, lv, lc, ce, vx, le, cx, cy, cw, cd) :=
  Exists.intro _ (rx_lf_l hw h1 h0 4 0 (by omega) (fun _ h => absurd h (Nat.not_lt_zero _)))
end
end
section
/-! run: the reference's steps -/
def rn_z (v : Nat → Int32) (i q : Nat) : Int32 := if 4 ≤ q ∧ q < i then 0 else v q
section
variable {post : Int32 → SY → Prop} {f t p e j n N : Nat} {ac : Int32} {K1 K2 fn fp fa ft fe : Int32} {ro ra rv rc px py pc lv lc vy ce ex ey ew ds hi : Nat → Int32}
theorem ry_o {op : Int32} (hf : f ≤ 10000) (ht : t < f) (hp : p < n) (hn : n ≤ 32) (h : ro p = op) : ¬ (10002 : Int32) ≤ nI t ∧ nI p < nI n ∧ nI t < nI f ∧ (nI p).toNatClampNeg = p ∧ vp_in (nI p) 32 :=
  ⟨nI_ge (b := 10002) (by omega) (by decide), nI_lt hp (by omega), nI_lt ht (by omega), nI_clamp (by omega), vp_in_nI (by omega) (by omega)⟩
theorem ry_set (hf : f ≤ 10000) (ht : t < f) (hp : p < n) (hn : n ≤ 32) (h : ro p = 4) (hq : wY_run_167 post (nI f) 2 (-1) K1 K2 (nI n) fp fa ft fe N (rc p) (nI (p + 1)) (nI (t + 1)) (nI (t + 1)) ro ra rv rc px py pc lv lc vy ce ex ey ew ds hi) :
    wY_run_167 post (nI f) 2 (-1) K1 K2 (nI n) fp fa ft fe (N + 1) ac (nI p) (nI t) (nI t) ro ra rv rc px py pc lv lc vy ce ex ey ew ds hi := by
  obtain ⟨o1, o2, o3, ep, hin⟩ := ry_o hf ht hp hn h
  refine br_f o1 (br_t o2 (br_t o3 (nm_r (nI_1 t) (And.intro hin (nm_r (e' := 4) (by rw [ep]; exact h) (And.intro hin (nm_r (e' := ra p) (by rw [ep]) (And.intro hin (nm_r (e' := rv p) (by rw [ep]) (And.intro hin (nm_r (e' := rc p) (by rw [ep]) ?_)))))))))))
  exact br_f (by decide) (br_f (by decide) (br_f (by decide) (br_t rfl (nm_r (nI_1 p) (nm_r (nI_1 t) hq)))))
theorem ry_ift (hf : f ≤ 10000) (ht : t < f) (hp : p < n) (hn : n ≤ 32) (h : ro p = 2) (ha : ed_V (ra p)) (hv : ed_V (rv p)) (hc : ¬ rc p < vy (ra p).toNatClampNeg - vy (rv p).toNatClampNeg)
    (hq : wY_run_167 post (nI f) 2 (-1) K1 K2 (nI n) fp fa ft fe N ac (nI (p + 1)) (nI (t + 1)) (nI (t + 1)) ro ra rv rc px py pc lv lc vy ce ex ey ew ds hi) :
    wY_run_167 post (nI f) 2 (-1) K1 K2 (nI n) fp fa ft fe (N + 1) ac (nI p) (nI t) (nI t) ro ra rv rc px py pc lv lc vy ce ex ey ew ds hi := by
  obtain ⟨o1, o2, o3, ep, hin⟩ := ry_o hf ht hp hn h
  refine br_f o1 (br_t o2 (br_t o3 (nm_r (nI_1 t) (And.intro hin (nm_r (e' := 2) (by rw [ep]; exact h) (And.intro hin (nm_r (e' := ra p) (by rw [ep]) (And.intro hin (nm_r (e' := rv p) (by rw [ep]) (And.intro hin (nm_r (e' := rc p) (by rw [ep]) ?_)))))))))))
  exact br_f (by decide) (br_f (by decide) (br_t rfl (And.intro (ed_V8 ha) (And.intro (ed_V8 hv) (br_f hc (nm_r (nI_1 p) (nm_r (nI_1 t) hq)))))))
theorem ry_iff (hf : f ≤ 10000) (ht : t < f) (hp : p < n) (hn : n ≤ 32) (h : ro p = 2) (ha : ed_V (ra p)) (hv : ed_V (rv p)) (hc : rc p < vy (ra p).toNatClampNeg - vy (rv p).toNatClampNeg) (hE : ns_at ro p n = .inr e)
    (hq : wY_run_167 post (nI f) 2 (-1) K1 K2 (nI n) fp fa ft fe N ac (nI (e + 1)) (nI (t + 1)) (nI (t + 1)) ro ra rv rc px py pc lv lc vy ce ex ey ew ds hi) :
    wY_run_167 post (nI f) 2 (-1) K1 K2 (nI n) fp fa ft fe (N + 1) ac (nI p) (nI t) (nI t) ro ra rv rc px py pc lv lc vy ce ex ey ew ds hi := by
  obtain ⟨o1, o2, o3, ep, hin⟩ := ry_o hf ht hp hn h
  refine br_f o1 (br_t o2 (br_t o3 (nm_r (nI_1 t) (And.intro hin (nm_r (e' := 2) (by rw [ep]; exact h) (And.intro hin (nm_r (e' := ra p) (by rw [ep]) (And.intro hin (nm_r (e' := rv p) (by rw [ep]) (And.intro hin (nm_r (e' := rc p) (by rw [ep]) ?_)))))))))))
  refine br_f (by decide) (br_f (by decide) (br_t rfl (And.intro (ed_V8 ha) (And.intro (ed_V8 hv) (br_t hc (sy_me hn hp ?_))))))
  rw [hE]
  exact nm_r (nI_1 e) (nm_r (nI_1 t) hq)
theorem ry_lpt (hf : f ≤ 10000) (ht : t < f) (hp : p < n) (hn : n ≤ 32) (h : ro p = 1) (ha : ed_V (ra p)) (hv : ed_V (rv p)) (hc : 0 < vy (rv p).toNatClampNeg + rc p)
    (hq : wY_run_167 post (nI f) 2 (-1) K1 K2 (nI n) fp fa ft fe N ac (nI (p + 1)) (nI (t + 1)) (nI (t + 1)) ro ra rv rc px py pc lv lc (upd vy (ra p).toNatClampNeg 0) ce ex ey ew ds (upd hi p (vy (rv p).toNatClampNeg + rc p))) :
    wY_run_167 post (nI f) 2 (-1) K1 K2 (nI n) fp fa ft fe (N + 1) ac (nI p) (nI t) (nI t) ro ra rv rc px py pc lv lc vy ce ex ey ew ds hi := by
  obtain ⟨o1, o2, o3, ep, hin⟩ := ry_o hf ht hp hn h
  refine br_f o1 (br_t o2 (br_t o3 (nm_r (nI_1 t) (And.intro hin (nm_r (e' := 1) (by rw [ep]; exact h) (And.intro hin (nm_r (e' := ra p) (by rw [ep]) (And.intro hin (nm_r (e' := rv p) (by rw [ep]) (And.intro hin (nm_r (e' := rc p) (by rw [ep]) ?_)))))))))))
  exact br_t rfl (And.intro (ed_V8 hv) (nm_e (And.intro hin (nm_r (by rw [ep]) (br_t hc (And.intro (ed_V8 ha) (nm_e (nm_r (nI_1 p) (nm_r (nI_1 t) hq)))))))))
theorem ry_lpf (hf : f ≤ 10000) (ht : t < f) (hp : p < n) (hn : n ≤ 32) (h : ro p = 1) (hv : ed_V (rv p)) (hc : ¬ 0 < vy (rv p).toNatClampNeg + rc p) (hE : ns_at ro p n = .inr e)
    (hq : wY_run_167 post (nI f) 2 (-1) K1 K2 (nI n) fp fa ft fe N ac (nI (e + 1)) (nI (t + 1)) (nI (t + 1)) ro ra rv rc px py pc lv lc vy ce ex ey ew ds (upd hi p (vy (rv p).toNatClampNeg + rc p))) :
    wY_run_167 post (nI f) 2 (-1) K1 K2 (nI n) fp fa ft fe (N + 1) ac (nI p) (nI t) (nI t) ro ra rv rc px py pc lv lc vy ce ex ey ew ds hi := by
  obtain ⟨o1, o2, o3, ep, hin⟩ := ry_o hf ht hp hn h
  refine br_f o1 (br_t o2 (br_t o3 (nm_r (nI_1 t) (And.intro hin (nm_r (e' := 1) (by rw [ep]; exact h) (And.intro hin (nm_r (e' := ra p) (by rw [ep]) (And.intro hin (nm_r (e' := rv p) (by rw [ep]) (And.intro hin (nm_r (e' := rc p) (by rw [ep]) ?_)))))))))))
  refine br_t rfl (And.intro (ed_V8 hv) (nm_e (And.intro hin (nm_r (e' := upd hi p (vy (rv p).toNatClampNeg + rc p)) (by rw [ep]) (br_f hc (sy_me hn hp ?_))))))
  rw [hE]
  exact nm_r (nI_1 e) (nm_r (nI_1 t) hq)
theorem ry_eif (hf : f ≤ 10000) (ht : t < f) (hp : p < n) (hn : n ≤ 32) (h : ro p = 3) (hj : j < p) (hB : ns_B (ro j)) (hE : ns_at ro j n = .inr p) (hu : ∀ i, i < n → ns_B (ro i) → ns_at ro i n = .inr p → i = j) (h2 : ro j = 2)
    (hq : wY_run_167 post (nI f) 2 (-1) K1 K2 (nI n) fp fa ft fe N ac (nI (p + 1)) (nI (t + 1)) (nI (t + 1)) ro ra rv rc px py pc lv lc vy ce ex ey ew ds hi) :
    wY_run_167 post (nI f) 2 (-1) K1 K2 (nI n) fp fa ft fe (N + 1) ac (nI p) (nI t) (nI t) ro ra rv rc px py pc lv lc vy ce ex ey ew ds hi := by
  obtain ⟨o1, o2, o3, ep, hin⟩ := ry_o hf ht hp hn h
  have ej : (nI j).toNatClampNeg = j := nI_clamp (by omega)
  refine br_f o1 (br_t o2 (br_t o3 (nm_r (nI_1 t) (And.intro hin (nm_r (e' := 3) (by rw [ep]; exact h) (And.intro hin (nm_r (e' := ra p) (by rw [ep]) (And.intro hin (nm_r (e' := rv p) (by rw [ep]) (And.intro hin (nm_r (e' := rc p) (by rw [ep]) ?_)))))))))))
  refine br_f (by decide) (br_t rfl (sy_mo hn hj hp hB hE hu (br_f (nI_pos (by omega)) (And.intro (vp_in_nI (by omega) (by omega)) ?_))))
  rw [ej]
  exact br_f (by rw [h2]; decide) (nm_r (nI_1 p) (nm_r (nI_1 t) hq))
theorem ry_elp (hf : f ≤ 10000) (ht : t < f) (hp : p < n) (hn : n ≤ 32) (h : ro p = 3) (hj : j < p) (hE : ns_at ro j n = .inr p) (hu : ∀ i, i < n → ns_B (ro i) → ns_at ro i n = .inr p → i = j) (h2 : ro j = 1) (ha : ed_V (ra j))
    (hx : hi j ≤ vy (ra j).toNatClampNeg + 1 → wY_run_167 post (nI f) 2 (-1) K1 K2 (nI n) fp fa ft fe N ac (nI (p + 1)) (nI (t + 1)) (nI (t + 1)) ro ra rv rc px py pc lv lc (upd vy (ra j).toNatClampNeg (vy (ra j).toNatClampNeg + 1)) ce ex ey ew ds hi)
    (hb : ¬ hi j ≤ vy (ra j).toNatClampNeg + 1 → wY_run_167 post (nI f) 2 (-1) K1 K2 (nI n) fp fa ft fe N ac (nI (j + 1)) (nI (t + 1)) (nI (t + 1)) ro ra rv rc px py pc lv lc (upd vy (ra j).toNatClampNeg (vy (ra j).toNatClampNeg + 1)) ce ex ey ew ds hi) :
    wY_run_167 post (nI f) 2 (-1) K1 K2 (nI n) fp fa ft fe (N + 1) ac (nI p) (nI t) (nI t) ro ra rv rc px py pc lv lc vy ce ex ey ew ds hi := by
  obtain ⟨o1, o2, o3, ep, hin⟩ := ry_o hf ht hp hn h
  have ej : (nI j).toNatClampNeg = j := nI_clamp (by omega)
  have hin2 : vp_in (nI j) 32 := vp_in_nI (by omega) (by omega)
  refine br_f o1 (br_t o2 (br_t o3 (nm_r (nI_1 t) (And.intro hin (nm_r (e' := 3) (by rw [ep]; exact h) (And.intro hin (nm_r (e' := ra p) (by rw [ep]) (And.intro hin (nm_r (e' := rv p) (by rw [ep]) (And.intro hin (nm_r (e' := rc p) (by rw [ep]) ?_)))))))))))
  refine br_f (by decide) (br_t rfl (sy_mo hn hj hp (Or.inl h2) hE hu (br_f (nI_pos (by omega)) (And.intro hin2 ?_))))
  rw [ej]
  refine br_t h2 (And.intro hin2 (nm_e (And.intro (ed_V8 ha) (And.intro (ed_V8 ha) (nm_e (And.intro (ed_V8 ha) (And.intro hin2 ?_)))))))
  rw [ns_us]
  exact br_c (fun z => nm_r (nI_1 p) (nm_r (nI_1 t) (hx z))) (fun z => nm_r (nI_1 j) (nm_r (nI_1 t) (hb z)))
theorem ry_atr (hf : f ≤ 10000) (ht : t < f) (hp : p < n) (hn : n ≤ 32) (h : ro p = 5 ∨ ro p = 6 ∨ ro p = 7) (ha : zS (ra p)) (hv : ed_V (rv p)) (hl : zS (lv (ra p).toNatClampNeg))
    (hc : vy (rv p).toNatClampNeg + rc p < 0 ∨ ¬ vy (rv p).toNatClampNeg + rc p < vy (lv (ra p).toNatClampNeg).toNatClampNeg + lc (ra p).toNatClampNeg)
    (hq : post 1 (K1, K2, nI n, fp, ac, nI p, fe, ro, ra, rv, rc, px, py, pc, lv, lc, vy, ce, ex, ey, ew, ds, hi)) :
    wY_run_167 post (nI f) 2 (-1) K1 K2 (nI n) fp fa ft fe (N + 1) ac (nI p) (nI t) (nI t) ro ra rv rc px py pc lv lc vy ce ex ey ew ds hi := by
  obtain ⟨o1, o2, o3, ep, hin⟩ := ry_o (ro := ro) (op := ro p) hf ht hp hn rfl
  obtain ⟨_, _, _, a1, a2, a3, a4⟩ := em_567 h
  refine br_f o1 (br_t o2 (br_t o3 (nm_r (nI_1 t) (And.intro hin (nm_r (e' := ro p) (by rw [ep]) (And.intro hin (nm_r (e' := ra p) (by rw [ep]) (And.intro hin (nm_r (e' := rv p) (by rw [ep]) (And.intro hin (nm_r (e' := rc p) (by rw [ep]) ?_)))))))))))
  refine br_f a1 (br_f a3 (br_f a2 (br_f a4 (And.intro (ed_V8 hv) (nm_e (And.intro (zS_4 ha) (And.intro (ed_V8 (zS_V hl)) (And.intro (zS_4 ha) (nm_e ?_)))))))))
  by_cases z : vy (rv p).toNatClampNeg + rc p < 0
  · exact br_t z hq
  · exact br_f z (br_f (hc.elim (fun w => absurd w z) id) hq)
theorem ry_aok {c : Nat} (hf : f ≤ 10000) (ht : t < f) (hp : p < n) (hn : n ≤ 32) (h : ro p = 5 ∨ ro p = 6 ∨ ro p = 7) (ha : zS (ra p)) (hv : ed_V (rv p)) (hl : zS (lv (ra p).toNatClampNeg))
    (h0 : ¬ vy (rv p).toNatClampNeg + rc p < 0) (h1 : vy (rv p).toNatClampNeg + rc p < vy (lv (ra p).toNatClampNeg).toNatClampNeg + lc (ra p).toNatClampNeg)
    (hc : c < 64) (he : ra p * 16 + (vy (rv p).toNatClampNeg + rc p) = nI c)
    (h5 : ro p = 5 → wY_run_167 post (nI f) 2 (-1) K1 K2 (nI n) fp fa ft fe N (ce c) (nI (p + 1)) (nI (t + 1)) (nI (t + 1)) ro ra rv rc px py pc lv lc vy ce ex ey ew ds hi)
    (h6 : ro p = 6 → wY_run_167 post (nI f) 2 (-1) K1 K2 (nI n) fp fa ft fe N (ac + ce c) (nI (p + 1)) (nI (t + 1)) (nI (t + 1)) ro ra rv rc px py pc lv lc vy ce ex ey ew ds hi)
    (h7 : ro p = 7 → wY_run_167 post (nI f) 2 (-1) K1 K2 (nI n) fp fa ft fe N ac (nI (p + 1)) (nI (t + 1)) (nI (t + 1)) ro ra rv rc px py pc lv lc vy (upd ce c ac) ex ey ew ds hi) :
    wY_run_167 post (nI f) 2 (-1) K1 K2 (nI n) fp fa ft fe (N + 1) ac (nI p) (nI t) (nI t) ro ra rv rc px py pc lv lc vy ce ex ey ew ds hi := by
  obtain ⟨o1, o2, o3, ep, hin⟩ := ry_o (ro := ro) (op := ro p) hf ht hp hn rfl
  obtain ⟨_, _, _, a1, a2, a3, a4⟩ := em_567 h
  have ec : (nI c).toNatClampNeg = c := nI_clamp (by omega)
  have hic : vp_in (nI c) 64 := vp_in_nI hc (by omega)
  refine br_f o1 (br_t o2 (br_t o3 (nm_r (nI_1 t) (And.intro hin (nm_r (e' := ro p) (by rw [ep]) (And.intro hin (nm_r (e' := ra p) (by rw [ep]) (And.intro hin (nm_r (e' := rv p) (by rw [ep]) (And.intro hin (nm_r (e' := rc p) (by rw [ep]) ?_)))))))))))
  refine br_f a1 (br_f a3 (br_f a2 (br_f a4 (And.intro (ed_V8 hv) (nm_e (And.intro (zS_4 ha) (And.intro (ed_V8 (zS_V hl)) (And.intro (zS_4 ha) (nm_e (br_f h0 (br_t h1 ?_)))))))))))
  rw [he, ec]
  rcases h with z | z | z
  · exact br_t z (And.intro hic (nm_e (nm_r (nI_1 p) (nm_r (nI_1 t) (h5 z)))))
  · exact br_f (by rw [z]; decide) (br_t z (And.intro hic (nm_e (nm_r (nI_1 p) (nm_r (nI_1 t) (h6 z))))))
  · exact br_f (by rw [z]; decide) (br_f (by rw [z]; decide) (And.intro hic (nm_e (nm_r (nI_1 p) (nm_r (nI_1 t) (h7 z))))))
/-! the tests ahead of a run -/
theorem ry_pm_l {np : Nat} {x : Int32} (hnp : np ≤ 16) (hw : ∀ i, i < np → zS (px i) ∧ zS (py i) ∧ ns_K (pc i)) (h1 : rn_PM np px py pc vy → ∃ M, wY_run_61 post x K1 K2 fn (nI np) fa ft fe ro ra rv rc px py pc lv lc vy ce ex ey ew ds hi M 0) (h0 : ¬ rn_PM np px py pc vy → post 3 (K1, K2, fn, nI np, fa, ft, fe, ro, ra, rv, rc, px, py, pc, lv, lc, vy, ce, ex, ey, ew, ds, hi)) :
    ∀ t i : Nat, i + t = np → rn_PM i px py pc vy → wY_run_11 post x K1 K2 fn (nI np) fa ft fe ro ra rv rc px py pc lv lc vy ce ex ey ew ds hi (t + 1) (nI i) := by
  intro t
  induction t with
  | zero =>
    intro i hi2 hp
    have e : i = np := by omega
    subst e
    exact br_t (nI_le (Nat.le_refl _) (by omega)) (h1 hp)
  | succ t ih =>
    intro i hi2 hp
    have e : (nI i).toNatClampNeg = i := nI_clamp (by omega)
    have hin : vp_in (nI i) 16 := vp_in_nI (by omega) (by omega)
    obtain ⟨w1, w2, _⟩ := hw i (by omega)
    refine br_f (nI_ge (by omega) (by omega)) (And.intro hin ?_)
    rw [e]
    refine And.intro (ed_V8 (zS_V w1)) (And.intro hin (And.intro (ed_V8 (zS_V w2)) (And.intro hin (br_c (fun z => nm_r (nI_1 i) (ih (i + 1) (by omega) ?_)) (fun z => h0 (fun q => z (q i (by omega))))))))
    intro q hq
    by_cases w : q = i
    · rw [w]; exact z
    · exact hp q (by omega)
theorem ry_lf_l {x : Int32} (hw : ∀ i, i < 4 → zS (lv i) ∧ ns_K (lc i)) (h1 : rn_LF lv lc vy → ((0 ≤ x → (((x ≤ 10000 → (wY_run_125 post x K1 K2 fn fp fa ft fe ro ra rv rc px py pc lv lc vy ce ex ey ew ds hi)) ∧ (¬ x ≤ 10000 → (wY_run_125 post 10000 K1 K2 fn fp fa ft fe ro ra rv rc px py pc lv lc vy ce ex ey ew ds hi))))) ∧ (¬ 0 ≤ x → (wY_run_125 post 0 K1 K2 fn fp fa ft fe ro ra rv rc px py pc lv lc vy ce ex ey ew ds hi)))) (h0 : ¬ rn_LF lv lc vy → post 3 (K1, K2, fn, fp, fa, ft, fe, ro, ra, rv, rc, px, py, pc, lv, lc, vy, ce, ex, ey, ew, ds, hi)) :
    ∀ t i : Nat, i + t = 4 → (∀ q, q < i → ¬ vy (lv q).toNatClampNeg + lc q < 0 ∧ vy (lv q).toNatClampNeg + lc q ≤ 16) → wY_run_61 post x K1 K2 fn fp fa ft fe ro ra rv rc px py pc lv lc vy ce ex ey ew ds hi (t + 1) (nI i) := by
  intro t
  induction t with
  | zero =>
    intro i hi2 hp
    have e : i = 4 := by omega
    subst e
    exact br_t (nI_le (a := 4) (b := 4) (by omega) (by omega)) (h1 hp)
  | succ t ih =>
    intro i hi2 hp
    have e : (nI i).toNatClampNeg = i := nI_clamp (by omega)
    have hin : vp_in (nI i) 4 := vp_in_nI (by omega) (by omega)
    obtain ⟨w1, _⟩ := hw i (by omega)
    refine br_f (nI_ge (b := 4) (by omega) (by decide)) (And.intro hin ?_)
    rw [e]
    refine And.intro (ed_V8 (zS_V w1)) (And.intro hin (nm_e (br_c (fun z => h0 (fun q => (q i (by omega)).1 z)) (fun z => br_c (fun z2 => nm_r (nI_1 i) (ih (i + 1) (by omega) ?_)) (fun z2 => h0 (fun q => z2 (q i (by omega)).2))))))
    intro q hq
    by_cases w : q = i
    · rw [w]; exact ⟨z, z2⟩
    · exact hp q (by omega)
/-- the loop variables are set to zero -/
theorem rn_z4 (v : Nat → Int32) : rn_z v 4 = v := by
  funext q
  exact if_neg (by omega)
theorem rn_zs (v : Nat → Int32) {i : Nat} (h : 4 ≤ i) : upd (rn_z v i) i 0 = rn_z v (i + 1) := by
  funext q
  by_cases z : q = i
  · rw [z, ns_us]
    exact (if_pos ⟨h, by omega⟩).symm
  · rw [ns_uo z]
    unfold rn_z
    by_cases w : 4 ≤ q ∧ q < i
    · rw [if_pos w, if_pos ⟨w.1, by omega⟩]
    · rw [if_neg w, if_neg (by omega)]
theorem ry_z_l {x : Int32} (h : ∃ M, wY_run_167 post x 2 (-1) K1 K2 fn fp fa ft fe M 0 0 0 0 ro ra rv rc px py pc lv lc (rn_z vy 8) ce ex ey ew ds hi) :
    ∀ t i : Nat, i + t = 8 → 4 ≤ i → wY_run_143 post x 0 0 0 2 (-1) K1 K2 fn fp fa ft fe (t + 1) (nI i) ro ra rv rc px py pc lv lc (rn_z vy i) ce ex ey ew ds hi := by
  intro t
  induction t with
  | zero =>
    intro i hi2 h4
    have e : i = 8 := by omega
    subst e
    exact br_t (nI_le (a := 8) (b := 8) (by omega) (by omega)) h
  | succ t ih =>
    intro i hi2 h4
    have e : (nI i).toNatClampNeg = i := nI_clamp (by omega)
    exact br_f (nI_ge (b := 8) (by omega) (by decide)) (And.intro (vp_in_nI (by omega) (by omega)) (nm_r (e' := rn_z vy (i + 1)) (by rw [e]; exact rn_zs vy h4) (nm_r (nI_1 i) (ih (i + 1) (by omega) (by omega)))))
theorem ry_z {x : Int32} (h : ∃ M, wY_run_167 post x 2 (-1) K1 K2 fn fp fa ft fe M 0 0 0 0 ro ra rv rc px py pc lv lc (rn_z vy 8) ce ex ey ew ds hi) : wY_run_125 post x K1 K2 fn fp fa ft fe ro ra rv rc px py pc lv lc vy ce ex ey ew ds hi := by
  have z := ry_z_l h 4 4 (by omega) (by omega)
  rw [rn_z4] at z
  exact Exists.intro _ z
end
end
section
/-! run, both sides in lockstep -/
def rn_I (ro ra : Nat → Int32) (p : Nat) (vx vy le hi : Nat → Int32) : Prop :=
  (∀ i, i < 4 → vx i = vy i) ∧ ∀ j d, j < p → ro j = 1 → ns_at ro j p = .inl d → vx (ra j).toNatClampNeg = vy (ra j).toNatClampNeg ∧ le (ra j).toNatClampNeg = hi j
section
variable {ro ra vx vy le hi : Nat → Int32} {p e b i : Nat}
theorem rn_nx (I : rn_I ro ra p vx vy le hi) (h1 : ¬ ro p = 1) : rn_I ro ra (p + 1) vx vy le hi := by
  refine ⟨I.1, fun j d hj h hd => ?_⟩
  have hne : j ≠ p := by
    intro z
    rw [z] at h
    exact h1 h
  obtain ⟨c, hc⟩ := ns_next hd
  exact I.2 j c (by omega) h hc
theorem rn_sk (I : rn_I ro ra p vx vy le hi) (hp : p < e) (he : ns_at ro p e = .inl 0) (h3 : ro e = 3) : rn_I ro ra (e + 1) vx vy le hi := by
  refine ⟨I.1, fun j d hj h hd => ?_⟩
  obtain ⟨h1, c, hc⟩ := ns_skip hp he h3 hj (Or.inl h) hd
  exact I.2 j c h1 h hc
theorem rn_bk (I : rn_I ro ra e vx vy le hi) (hb : b < e) (hB : ns_B (ro b)) (he : ns_at ro b e = .inl 0) : rn_I ro ra (b + 1) vx vy le hi := by
  refine ⟨I.1, fun j d hj h hd => ?_⟩
  obtain ⟨h1, c, hc⟩ := ns_loop hb hB he hj hd
  exact I.2 j c h1 h hc
theorem rn_hi (I : rn_I ro ra p vx vy le hi) (z : Int32) : rn_I ro ra p vx vy le (upd hi p z) := by
  refine ⟨I.1, fun j d hj h hd => ?_⟩
  rw [ns_uo (show j ≠ p by omega)]
  exact I.2 j d hj h hd
theorem rn_inc (I : rn_I ro ra p vx vy le hi) (h4 : 4 ≤ i) (hv : vx i = vy i) : rn_I ro ra p (upd vx i (vx i + 1)) (upd vy i (vy i + 1)) le hi := by
  refine ⟨fun q hq => ?_, fun j d hj h hd => ?_⟩
  · rw [ns_uo (by omega), ns_uo (by omega)]
    exact I.1 q hq
  · have g := I.2 j d hj h hd
    refine ⟨?_, g.2⟩
    by_cases z : (ra j).toNatClampNeg = i
    · rw [z, ns_us, ns_us, hv]
    · rw [ns_uo z, ns_uo z]
      exact g.1
theorem rn_en (I : rn_I ro ra p vx vy le hi) (h4 : 4 ≤ (ra p).toNatClampNeg) (hd : ∀ j d, j < p → ro j = 1 → ns_at ro j p = .inl d → (ra j).toNatClampNeg ≠ (ra p).toNatClampNeg) {x y : Int32} (hxy : x = y) :
    rn_I ro ra (p + 1) (upd vx (ra p).toNatClampNeg 0) (upd vy (ra p).toNatClampNeg 0) (upd le (ra p).toNatClampNeg x) (upd hi p y) := by
  refine ⟨fun q hq => ?_, fun j d hj h hd2 => ?_⟩
  · rw [ns_uo (by omega), ns_uo (by omega)]
    exact I.1 q hq
  · by_cases z : j = p
    · rw [z, ns_us, ns_us, ns_us, ns_us]
      exact ⟨rfl, hxy⟩
    · obtain ⟨c, hc⟩ := ns_next hd2
      have hne := hd j c (by omega) h hc
      rw [ns_uo hne, ns_uo hne, ns_uo hne, ns_uo z]
      exact I.2 j c (by omega) h hc
end
theorem rn_LFu {lv lc vx : Nat → Int32} {i : Nat} {x : Int32} (hw : ∀ i, i < 4 → zS (lv i) ∧ ns_K (lc i)) (h4 : 4 ≤ i) (h : rn_LF lv lc vx) : rn_LF lv lc (upd vx i x) := by
  intro q hq
  have := zS_l (hw q hq).1
  rw [ns_uo (by omega)]
  exact h q hq
section
variable {kc pq n m np : Nat} {s : Nat → Nat} {vx0 vy0 : Nat → Int32} {ya yt : Int32} {K1 K2 fn fm fp fa ft fk fe : Int32} {ro ra rv rc rP rS px py pc lv lc ce vx le cx cy cw cd vy ex ey ew ds hi : Nat → Int32}
theorem rn_val (R : zR kc pq n m np s ro ra rv rc rP rS px py pc lv lc vx0 vy0) {p : Nat} {x : Int32} (I : rn_I ro ra p vx vy le hi) (h : ns_Bd ro ra p x) : vx x.toNatClampNeg = vy x.toNatClampNeg := by
  rcases h with h | ⟨j, d, hj, h1, h2, h3⟩
  · exact I.1 _ (zS_l h)
  · have := (I.2 j d hj h1 h3).1
    rw [h2] at this
    exact this
theorem rn_4 (R : zR kc pq n m np s ro ra rv rc rP rS px py pc lv lc vx0 vy0) {j : Nat} (hj : j < n) (h : ro j = 1) : ∃ i, 4 ≤ i ∧ i < 8 ∧ ra j = nI i ∧ (ra j).toNatClampNeg = i := by
  have h1 := zr_loop R j hj h
  obtain ⟨i, hi2, e, ei⟩ := zq_n (x := ra j) (k := 7) (by omega) (by omega)
  exact ⟨i, by omega, by omega, e, by rw [e]; exact nI_clamp (by omega)⟩
theorem rn_clo (R : zR kc pq n 0 np s ro ra rv rc rP rS px py pc lv lc vx0 vy0) {p : Nat} (hp : p < n) (hB : ns_B (ro p)) : ∃ e, e < n ∧ p < e ∧ rP p = nI e ∧ ns_at ro p n = .inr e ∧ ns_at ro p e = .inl 0 ∧ ro e = 3 := by
  rcases R.2.2.1.2.1 p hp hB with ⟨i, hi2, _⟩ | ⟨e, h1, h2, _, h4⟩
  · exact absurd hi2 (Nat.not_lt_zero _)
  · have g := ns_fnd n h4
    exact ⟨e, h1, g.1, h2, h4, g.2.2.2, g.2.2.1⟩
theorem rn_l {f : Nat} (hf : f ≤ 10000) (R : zR kc pq n 0 np s ro ra rv rc rP rS px py pc lv lc vx0 vy0) :
    ∀ (d t p : Nat) (fa : Int32) (ce vx le vy hi : Nat → Int32), t + d = f → p ≤ n → rn_I ro ra p vx vy le hi → rn_LF lv lc vx →
    ∃ (r fa' ft' : Int32) (ce' vx' le' vy' hi' : Nat → Int32), (∀ i, i < 4 → vx' i = vy' i) ∧
      (∀ (N : Nat) (post : Int32 → SX → Prop), d < N → post r (K1, K2, nI n, fm, fp, fa', ft', fk, ro, ra, rv, rc, rP, rS, px, py, pc, lv, lc, ce', vx', le', cx, cy, cw, cd) → wX_run_47 post (nI f) N (nI p) (nI t) K1 K2 (nI n) fm fp fa (-1) fk ro ra rv rc rP rS px py pc lv lc ce vx le cx cy cw cd) ∧
      (∀ (N : Nat) (post : Int32 → SY → Prop), d < N → post r (K1, K2, nI n, fp, fa', ft', fe, ro, ra, rv, rc, px, py, pc, lv, lc, vy', ce', ex, ey, ew, ds, hi') → wY_run_167 post (nI f) 2 (-1) K1 K2 (nI n) fp ya yt fe N fa (nI p) (nI t) (nI t) ro ra rv rc px py pc lv lc vy ce ex ey ew ds hi) := by
  have hb := R.1
  have hn : n ≤ 32 := by omega
  intro d
  induction d with
  | zero =>
    intro t p fa ce vx le vy hi ht hpn I LF
    have o1 : ¬ (10002 : Int32) ≤ nI t := nI_ge (b := 10002) (by omega) (by decide)
    by_cases hp : p < n
    · refine ⟨2, fa, -1, ce, vx, le, vy, hi, I.1, fun N post hN hq => ?_, fun N post hN hq => ?_⟩
      · cases N with
        | zero => exact absurd hN (Nat.not_lt_zero _)
        | succ N => exact br_t (nI_le (by omega) (by omega)) (br_f (fun z => by have := (nI_eq (by omega) (by omega)).mp z; omega) hq)
      · cases N with
        | zero => exact absurd hN (Nat.not_lt_zero _)
        | succ N => exact br_f o1 (br_t (nI_lt hp (by omega)) (br_f (nI_nlt (by omega) (by omega)) hq))
    · have e : p = n := by omega
      subst e
      refine ⟨0, fa, -1, ce, vx, le, vy, hi, I.1, fun N post hN hq => ?_, fun N post hN hq => ?_⟩
      · cases N with
        | zero => exact absurd hN (Nat.not_lt_zero _)
        | succ N => exact br_t (nI_le (by omega) (by omega)) (br_t rfl hq)
      · cases N with
        | zero => exact absurd hN (Nat.not_lt_zero _)
        | succ N => exact br_f o1 (br_f (nI_nlt (by omega) (by omega)) hq)
  | succ d ih =>
    intro t p fa ce vx le vy hi ht hpn I LF
    have o1 : ¬ (10002 : Int32) ≤ nI t := nI_ge (b := 10002) (by omega) (by decide)
    have o2 : ¬ nI f ≤ nI t := nI_ge (by omega) (by omega)
    by_cases hp : p < n
    · have o3 : ¬ nI n ≤ nI p := nI_ge (by omega) (by omega)
      have htf : t < f := by omega
      have hp32 : p < 32 := by omega
      rcases R.2.2.2.1 p hp with ⟨h1, ha47, hd, hBv, hK⟩ | ⟨h2, hBa, hBv, hK⟩ | h3 | ⟨h4, hK⟩ | ⟨h5, ha3, hBv, hK⟩
      · -- LOOP
        have hv := zr_bd R hpn hBv
        have ev := rn_val R I hBv
        obtain ⟨i, hi4, hi8, ei, ec⟩ := rn_4 R hp h1
        have ha : ed_V (ra p) := ⟨i, hi8, ei⟩
        by_cases hc : 0 < vx (rv p).toNatClampNeg + rc p
        · obtain ⟨r, fa', ft', ce', vx', le', vy', hi', H4, HX, HY⟩ := ih (t + 1) (p + 1) fa ce (upd vx (ra p).toNatClampNeg 0) (upd le (ra p).toNatClampNeg (vx (rv p).toNatClampNeg + rc p)) (upd vy (ra p).toNatClampNeg 0) (upd hi p (vy (rv p).toNatClampNeg + rc p)) (by omega) (by omega)
            (rn_en I (by omega) (fun j d hj g1 g2 => by
              obtain ⟨q, _, _, eq, eqc⟩ := rn_4 R (show j < n by omega) g1
              have := hd j d hj g1 g2
              intro z
              rw [eqc, ec] at z
              rw [eq, ei, z] at this
              exact this rfl) (by rw [ev])) (rn_LFu R.2.2.2.2.2.1 (by omega) LF)
          refine ⟨r, fa', ft', ce', vx', le', vy', hi', H4, fun N post hN hq => ?_, fun N post hN hq => ?_⟩
          · cases N with
            | zero => exact absurd hN (Nat.not_lt_zero _)
            | succ N => exact br_f o2 (br_f o3 (rx_lpt hp32 h1 ha hv hc (br_f (rn_m1 (by omega)) (nm_r (nI_1 t) (HX N post (by omega) hq)))))
          · cases N with
            | zero => exact absurd hN (Nat.not_lt_zero _)
            | succ N => exact ry_lpt hf htf hp hn h1 ha hv (by rw [← ev]; exact hc) (HY N post (by omega) hq)
        · obtain ⟨e, he1, he2, he3, he4, he5, he6⟩ := rn_clo R hp (Or.inl h1)
          obtain ⟨r, fa', ft', ce', vx', le', vy', hi', H4, HX, HY⟩ := ih (t + 1) (e + 1) fa ce vx le vy (upd hi p (vy (rv p).toNatClampNeg + rc p)) (by omega) (by omega) (rn_sk (rn_hi I _) he2 he5 he6) LF
          refine ⟨r, fa', ft', ce', vx', le', vy', hi', H4, fun N post hN hq => ?_, fun N post hN hq => ?_⟩
          · cases N with
            | zero => exact absurd hN (Nat.not_lt_zero _)
            | succ N => exact br_f o2 (br_f o3 (rx_lpf hp32 h1 hv hc he3 (br_f (rn_m1 (by omega)) (nm_r (nI_1 t) (HX N post (by omega) hq)))))
          · cases N with
            | zero => exact absurd hN (Nat.not_lt_zero _)
            | succ N => exact ry_lpf hf htf hp hn h1 hv (by rw [← ev]; exact hc) he4 (HY N post (by omega) hq)
      · -- IF
        have ha := zr_bd R hpn hBa
        have hv := zr_bd R hpn hBv
        have ea := rn_val R I hBa
        have ev := rn_val R I hBv
        by_cases hc : rc p < vx (ra p).toNatClampNeg - vx (rv p).toNatClampNeg
        · obtain ⟨e, he1, he2, he3, he4, he5, he6⟩ := rn_clo R hp (Or.inr h2)
          obtain ⟨r, fa', ft', ce', vx', le', vy', hi', H4, HX, HY⟩ := ih (t + 1) (e + 1) fa ce vx le vy hi (by omega) (by omega) (rn_sk I he2 he5 he6) LF
          refine ⟨r, fa', ft', ce', vx', le', vy', hi', H4, fun N post hN hq => ?_, fun N post hN hq => ?_⟩
          · cases N with
            | zero => exact absurd hN (Nat.not_lt_zero _)
            | succ N => exact br_f o2 (br_f o3 (rx_iff hp32 h2 ha hv hc he3 (br_f (rn_m1 (by omega)) (nm_r (nI_1 t) (HX N post (by omega) hq)))))
          · cases N with
            | zero => exact absurd hN (Nat.not_lt_zero _)
            | succ N => exact ry_iff hf htf hp hn h2 ha hv (by rw [← ea, ← ev]; exact hc) he4 (HY N post (by omega) hq)
        · obtain ⟨r, fa', ft', ce', vx', le', vy', hi', H4, HX, HY⟩ := ih (t + 1) (p + 1) fa ce vx le vy hi (by omega) (by omega) (rn_nx I (by rw [h2]; decide)) LF
          refine ⟨r, fa', ft', ce', vx', le', vy', hi', H4, fun N post hN hq => ?_, fun N post hN hq => ?_⟩
          · cases N with
            | zero => exact absurd hN (Nat.not_lt_zero _)
            | succ N => exact br_f o2 (br_f o3 (rx_ift hp32 h2 ha hv hc (br_f (rn_m1 (by omega)) (nm_r (nI_1 t) (HX N post (by omega) hq)))))
          · cases N with
            | zero => exact absurd hN (Nat.not_lt_zero _)
            | succ N => exact ry_ift hf htf hp hn h2 ha hv (by rw [← ea, ← ev]; exact hc) (HY N post (by omega) hq)
      · -- END
        obtain ⟨j, hj, hB, hP1, hP2, hE⟩ := R.2.2.1.2.2 p hp h3
        have hfd := ns_fnd n hE
        have hu : ∀ i, i < n → ns_B (ro i) → ns_at ro i n = .inr p → i = j := fun i g1 g2 g3 => ns_uq R.2.2.1 (by omega) g1 g2 g3 (by omega) hB hE
        have hnx : ∀ {vx vy : Nat → Int32}, rn_I ro ra p vx vy le hi → rn_I ro ra (p + 1) vx vy le hi := fun I => rn_nx I (by rw [h3]; decide)
        rcases hB with hj1 | hj2
        · obtain ⟨i, hi4, hi8, ei, ec⟩ := rn_4 R (show j < n by omega) hj1
          have ha : ed_V (ra j) := ⟨i, hi8, ei⟩
          obtain ⟨g1, g2⟩ := I.2 j 0 hj hj1 hfd.2.2.2
          have I2 := rn_inc I (show 4 ≤ (ra j).toNatClampNeg by omega) g1
          have LF2 : rn_LF lv lc (upd vx (ra j).toNatClampNeg (vx (ra j).toNatClampNeg + 1)) := rn_LFu R.2.2.2.2.2.1 (by omega) LF
          by_cases hc : le (ra j).toNatClampNeg ≤ vx (ra j).toNatClampNeg + 1
          · obtain ⟨r, fa', ft', ce', vx', le', vy', hi', H4, HX, HY⟩ := ih (t + 1) (p + 1) fa ce _ le _ hi (by omega) (by omega) (hnx I2) LF2
            refine ⟨r, fa', ft', ce', vx', le', vy', hi', H4, fun N post hN hq => ?_, fun N post hN hq => ?_⟩
            · cases N with
              | zero => exact absurd hN (Nat.not_lt_zero _)
              | succ N => exact br_f o2 (br_f o3 (rx_elp hp32 h3 hP1 (by omega) hj1 ha (fun _ => br_f (rn_m1 (by omega)) (nm_r (nI_1 t) (HX N post (by omega) hq))) (fun z => absurd hc z)))
            · cases N with
              | zero => exact absurd hN (Nat.not_lt_zero _)
              | succ N => exact ry_elp hf htf hp hn h3 hj hE hu hj1 ha (fun _ => HY N post (by omega) hq) (fun z => absurd (by rw [← g1, ← g2]; exact hc) z)
          · obtain ⟨r, fa', ft', ce', vx', le', vy', hi', H4, HX, HY⟩ := ih (t + 1) (j + 1) fa ce _ le _ hi (by omega) (by omega) (rn_bk I2 hj (Or.inl hj1) hfd.2.2.2) LF2
            refine ⟨r, fa', ft', ce', vx', le', vy', hi', H4, fun N post hN hq => ?_, fun N post hN hq => ?_⟩
            · cases N with
              | zero => exact absurd hN (Nat.not_lt_zero _)
              | succ N => exact br_f o2 (br_f o3 (rx_elp hp32 h3 hP1 (by omega) hj1 ha (fun z => absurd z hc) (fun _ => br_f (rn_m1 (by omega)) (nm_r (nI_1 t) (HX N post (by omega) hq)))))
            · cases N with
              | zero => exact absurd hN (Nat.not_lt_zero _)
              | succ N => exact ry_elp hf htf hp hn h3 hj hE hu hj1 ha (fun z => absurd (by rw [g1, g2]; exact z) hc) (fun _ => HY N post (by omega) hq)
        · obtain ⟨r, fa', ft', ce', vx', le', vy', hi', H4, HX, HY⟩ := ih (t + 1) (p + 1) fa ce vx le vy hi (by omega) (by omega) (hnx I) LF
          refine ⟨r, fa', ft', ce', vx', le', vy', hi', H4, fun N post hN hq => ?_, fun N post hN hq => ?_⟩
          · cases N with
            | zero => exact absurd hN (Nat.not_lt_zero _)
            | succ N => exact br_f o2 (br_f o3 (rx_eif hp32 h3 hP1 (by omega) hj2 (br_f (rn_m1 (by omega)) (nm_r (nI_1 t) (HX N post (by omega) hq)))))
          · cases N with
            | zero => exact absurd hN (Nat.not_lt_zero _)
            | succ N => exact ry_eif hf htf hp hn h3 hj (Or.inr hj2) hE hu hj2 (HY N post (by omega) hq)
      · -- SET
        obtain ⟨r, fa', ft', ce', vx', le', vy', hi', H4, HX, HY⟩ := ih (t + 1) (p + 1) (rc p) ce vx le vy hi (by omega) (by omega) (rn_nx I (by rw [h4]; decide)) LF
        refine ⟨r, fa', ft', ce', vx', le', vy', hi', H4, fun N post hN hq => ?_, fun N post hN hq => ?_⟩
        · cases N with
          | zero => exact absurd hN (Nat.not_lt_zero _)
          | succ N => exact br_f o2 (br_f o3 (rx_set hp32 h4 (br_f (rn_m1 (by omega)) (nm_r (nI_1 t) (HX N post (by omega) hq)))))
        · cases N with
          | zero => exact absurd hN (Nat.not_lt_zero _)
          | succ N => exact ry_set hf htf hp hn h4 (HY N post (by omega) hq)
      · -- LOAD, ADD, STORE
        have hv := zr_bd R hpn hBv
        have ev := rn_val R I hBv
        have ha4 : (ra p).toNatClampNeg < 4 := zS_l ha3
        have hl := (R.2.2.2.2.2.1 _ ha4).1
        have el := I.1 _ (zS_l hl)
        have hnx : rn_I ro ra (p + 1) vx vy le hi := rn_nx I (by rcases h5 with z | z | z <;> rw [z] <;> decide)
        by_cases h0 : vx (rv p).toNatClampNeg + rc p < 0 ∨ ¬ vx (rv p).toNatClampNeg + rc p < vx (lv (ra p).toNatClampNeg).toNatClampNeg + lc (ra p).toNatClampNeg
        · refine ⟨1, fa, nI p, ce, vx, le, vy, hi, I.1, fun N post hN hq => ?_, fun N post hN hq => ?_⟩
          · cases N with
            | zero => exact absurd hN (Nat.not_lt_zero _)
            | succ N => exact br_f o2 (br_f o3 (rx_atr hp32 h5 ha3 hv hl h0 (br_t rfl hq)))
          · cases N with
            | zero => exact absurd hN (Nat.not_lt_zero _)
            | succ N => exact ry_atr hf htf hp hn h5 ha3 hv hl (by rw [← ev, ← el]; exact h0) hq
        · have g0 : ¬ vx (rv p).toNatClampNeg + rc p < 0 := fun z => h0 (Or.inl z)
          have g1 : vx (rv p).toNatClampNeg + rc p < vx (lv (ra p).toNatClampNeg).toNatClampNeg + lc (ra p).toNatClampNeg := Classical.byContradiction fun z => h0 (Or.inr z)
          have hlf := (LF _ ha4).2
          have gs : 0 ≤ (vx (rv p).toNatClampNeg + rc p).toInt ∧ (vx (rv p).toNatClampNeg + rc p).toInt ≤ 15 := by
            have a0 := g0
            have a1 := g1
            rw [Int32.lt_iff_toInt_lt, zq_0] at a0
            rw [Int32.lt_iff_toInt_lt] at a1
            rw [Int32.le_iff_toInt_le, zq_16] at hlf
            omega
          obtain ⟨c, hc, he⟩ := zq_ce ha3 gs
          have he2 : ra p * 16 + (vy (rv p).toNatClampNeg + rc p) = nI c := by rw [← ev]; exact he
          have k0 : ¬ vy (rv p).toNatClampNeg + rc p < 0 := by rw [← ev]; exact g0
          have k1 : vy (rv p).toNatClampNeg + rc p < vy (lv (ra p).toNatClampNeg).toNatClampNeg + lc (ra p).toNatClampNeg := by rw [← ev, ← el]; exact g1
          rcases h5 with z5 | z6 | z7
          · obtain ⟨r, fa', ft', ce', vx', le', vy', hi', H4, HX, HY⟩ := ih (t + 1) (p + 1) (ce c) ce vx le vy hi (by omega) (by omega) hnx LF
            refine ⟨r, fa', ft', ce', vx', le', vy', hi', H4, fun N post hN hq => ?_, fun N post hN hq => ?_⟩
            · cases N with
              | zero => exact absurd hN (Nat.not_lt_zero _)
              | succ N => exact br_f o2 (br_f o3 (rx_aok hp32 (Or.inl z5) ha3 hv hl g0 g1 hc he (fun _ => br_f (rn_m1 (by omega)) (nm_r (nI_1 t) (HX N post (by omega) hq))) (fun w => by rw [z5] at w; exact absurd w (by decide)) (fun w => by rw [z5] at w; exact absurd w (by decide))))
            · cases N with
              | zero => exact absurd hN (Nat.not_lt_zero _)
              | succ N => exact ry_aok hf htf hp hn (Or.inl z5) ha3 hv hl k0 k1 hc he2 (fun _ => HY N post (by omega) hq) (fun w => by rw [z5] at w; exact absurd w (by decide)) (fun w => by rw [z5] at w; exact absurd w (by decide))
          · obtain ⟨r, fa', ft', ce', vx', le', vy', hi', H4, HX, HY⟩ := ih (t + 1) (p + 1) (fa + ce c) ce vx le vy hi (by omega) (by omega) hnx LF
            refine ⟨r, fa', ft', ce', vx', le', vy', hi', H4, fun N post hN hq => ?_, fun N post hN hq => ?_⟩
            · cases N with
              | zero => exact absurd hN (Nat.not_lt_zero _)
              | succ N => exact br_f o2 (br_f o3 (rx_aok hp32 (Or.inr (Or.inl z6)) ha3 hv hl g0 g1 hc he (fun w => by rw [z6] at w; exact absurd w (by decide)) (fun _ => br_f (rn_m1 (by omega)) (nm_r (nI_1 t) (HX N post (by omega) hq))) (fun w => by rw [z6] at w; exact absurd w (by decide))))
            · cases N with
              | zero => exact absurd hN (Nat.not_lt_zero _)
              | succ N => exact ry_aok hf htf hp hn (Or.inr (Or.inl z6)) ha3 hv hl k0 k1 hc he2 (fun w => by rw [z6] at w; exact absurd w (by decide)) (fun _ => HY N post (by omega) hq) (fun w => by rw [z6] at w; exact absurd w (by decide))
          · obtain ⟨r, fa', ft', ce', vx', le', vy', hi', H4, HX, HY⟩ := ih (t + 1) (p + 1) fa (upd ce c fa) vx le vy hi (by omega) (by omega) hnx LF
            refine ⟨r, fa', ft', ce', vx', le', vy', hi', H4, fun N post hN hq => ?_, fun N post hN hq => ?_⟩
            · cases N with
              | zero => exact absurd hN (Nat.not_lt_zero _)
              | succ N => exact br_f o2 (br_f o3 (rx_aok hp32 (Or.inr (Or.inr z7)) ha3 hv hl g0 g1 hc he (fun w => by rw [z7] at w; exact absurd w (by decide)) (fun w => by rw [z7] at w; exact absurd w (by decide)) (fun _ => br_f (rn_m1 (by omega)) (nm_r (nI_1 t) (HX N post (by omega) hq)))))
            · cases N with
              | zero => exact absurd hN (Nat.not_lt_zero _)
              | succ N => exact ry_aok hf htf hp hn (Or.inr (Or.inr z7)) ha3 hv hl k0 k1 hc he2 (fun w => by rw [z7] at w; exact absurd w (by decide)) (fun w => by rw [z7] at w; exact absurd w (by decide)) (fun _ => HY N post (by omega) hq)
    · have e : p = n := by omega
      subst e
      refine ⟨0, fa, -1, ce, vx, le, vy, hi, I.1, fun N post hN hq => ?_, fun N post hN hq => ?_⟩
      · cases N with
        | zero => exact absurd hN (Nat.not_lt_zero _)
        | succ N => exact br_f o2 (br_t (nI_le (by omega) (by omega)) (br_t rfl hq))
      · cases N with
        | zero => exact absurd hN (Nat.not_lt_zero _)
        | succ N => exact br_f o1 (br_f (nI_nlt (by omega) (by omega)) hq)
end
end
section
/-! run, whole -/
theorem rn_PMc {np : Nat} {px py pc vx vy : Nat → Int32} (hw : ∀ i, i < np → zS (px i) ∧ zS (py i) ∧ ns_K (pc i)) (h : ∀ i, i < 4 → vx i = vy i) : rn_PM np px py pc vx ↔ rn_PM np px py pc vy := by
  constructor
  · intro g i hi
    rw [← h _ (zS_l (hw i hi).1), ← h _ (zS_l (hw i hi).2.1)]
    exact g i hi
  · intro g i hi
    rw [h _ (zS_l (hw i hi).1), h _ (zS_l (hw i hi).2.1)]
    exact g i hi
theorem rn_LFc {lv lc vx vy : Nat → Int32} (hw : ∀ i, i < 4 → zS (lv i) ∧ ns_K (lc i)) (h : ∀ i, i < 4 → vx i = vy i) : rn_LF lv lc vx ↔ rn_LF lv lc vy := by
  constructor
  · intro g i hi
    rw [← h _ (zS_l (hw i hi).1)]
    exact g i hi
  · intro g i hi
    rw [h _ (zS_l (hw i hi).1)]
    exact g i hi
theorem i_vc_run {k : Nat} {u : SX} {v : SY} (I : i_Rel k u v) (hk : k + 5 ≤ 2562) (v1 : Int32) : wpX_run (fun r u' => wpY_run (fun r' v' => r' = r ∧ i_Rel (k + 5) u' v') v v1) u v1 := by
  obtain ⟨kc, pq, n, m, np, s, fa, ft, fk, fe, ro, ra, rv, rc, rP, rS, px, py, pc, lv, lc, ce, vx, le, cx, cy, cw, cd, vy, ex, ey, ew, ds, hi, rfl, rfl, R⟩ := I
  have b := R.1
  have hn : n ≤ 32 := by omega
  have hw := R.2.2.2.2.1
  have hl := R.2.2.2.2.2.1
  have hv := R.2.2.2.2.2.2
  by_cases h0 : 0 < m
  · refine br_t ?_ (sy_ao hn (fun _ => br_f (by decide) ⟨rfl, zr_mk R⟩) (fun z => absurd ((zr_ao R).mp h0) z))
    rw [← nI_0]
    exact nI_lt h0 (by omega)
  have em : m = 0 := by omega
  subst em
  have hao : ∀ {post : Int32 → SY → Prop}, (∃ M, wY_run_11 post v1 (nI kc) (nI pq) (nI n) (nI np) fa ft fe ro ra rv rc px py pc lv lc vy ce ex ey ew ds hi M 0) → wpY_run post (nI kc, nI pq, nI n, nI np, fa, ft, fe, ro, ra, rv, rc, px, py, pc, lv, lc, vy, ce, ex, ey, ew, ds, hi) v1 := fun h => sy_ao hn (fun z => absurd ((zr_ao R).mpr z) h0) (fun _ => br_t rfl h)
  obtain ⟨f, hf, HF⟩ := zi_cl v1 (lo := 0) (hi := 10000) (l := 0) (h := 10000) rfl rfl (by omega) (by omega)
  refine br_f (by decide) (rx_pm (by omega) hw (fun pm => br_f (by decide) (rx_lf hl (fun lf => br_f (by decide) ?_) (fun nlf => br_t rfl ?_))) (fun npm => br_t rfl ?_))
  · have Iz : rn_I ro ra 0 vx (rn_z vy 8) le hi := ⟨fun i hi4 => by
      rw [hv i hi4]
      exact (if_neg (by omega)).symm, fun j d hj => absurd hj (Nat.not_lt_zero _)⟩
    obtain ⟨r, fa', ft', ce', vx', le', vy', hi', H4, HX, HY⟩ := rn_l (K1 := nI kc) (K2 := nI pq) (fm := nI 0) (fp := nI np) (fk := fk) (fe := fe) (cx := cx) (cy := cy) (cw := cw) (cd := cd) (ex := ex) (ey := ey) (ew := ew) (ds := ds) (ya := fa) (yt := ft) hf R f 0 0 0 ce vx le (rn_z vy 8) hi (by omega) (by omega) Iz lf
    refine HF (fun z => ∃ n47 : Nat, wX_run_47 _ z n47 0 0 _ _ _ _ _ _ _ _ _ _ _ _ _ _ _ _ _ _ _ _ _ _ _ _ _ _) (Exists.intro (f + 1) (HX (f + 1) _ (by omega) ?_))
    refine hao (Exists.intro _ (ry_pm_l (by omega) hw (fun _ => Exists.intro _ (ry_lf_l hl (fun _ => ?_) (fun z => absurd ((rn_LFc hl hv).mp lf) z) 4 0 (by omega) (fun _ h => absurd h (Nat.not_lt_zero _)))) (fun z => absurd ((rn_PMc hw hv).mp pm) z) np 0 (by omega) (fun _ h => absurd h (Nat.not_lt_zero _))))
    refine HF (fun z => wY_run_125 _ z (nI kc) (nI pq) (nI n) (nI np) fa ft fe ro ra rv rc px py pc lv lc vy ce ex ey ew ds hi) (ry_z (Exists.intro (f + 1) (HY (f + 1) _ (by omega) ⟨rfl, zr_mk (m := 0) (s := s) ?_⟩)))
    exact ⟨R.1, R.2.1, R.2.2.1, R.2.2.2.1, R.2.2.2.2.1, R.2.2.2.2.2.1, H4⟩
  · exact hao (Exists.intro _ (ry_pm_l (by omega) hw (fun _ => Exists.intro _ (ry_lf_l hl (fun z => absurd ((rn_LFc hl hv).mpr z) nlf) (fun _ => ⟨rfl, zr_mk R⟩) 4 0 (by omega) (fun _ h => absurd h (Nat.not_lt_zero _)))) (fun _ => ⟨rfl, zr_mk R⟩) np 0 (by omega) (fun _ h => absurd h (Nat.not_lt_zero _))))
  · exact hao (Exists.intro _ (ry_pm_l (by omega) hw (fun z => absurd ((rn_PMc hw hv).mpr z) npm) (fun _ => ⟨rfl, zr_mk R⟩) np 0 (by omega) (fun _ h => absurd h (Nat.not_lt_zero _))))
end
