/-! Nesting: what a scan from the block at j has seen when it stands before cell n: pending at a depth, or ended by the END at e -/
def ns_nx (o : Nat → Int32) (i : Nat) : Sum Nat Nat → Sum Nat Nat
  | .inr e => .inr e
  | .inl d => if o i = 1 ∨ o i = 2 then .inl (d + 1) else if o i = 3 then (if d = 0 then .inr i else .inl (d - 1)) else .inl d
def ns_at (o : Nat → Int32) (j : Nat) : Nat → Sum Nat Nat
  | 0 => .inl 0
  | n + 1 => if n ≤ j then .inl 0 else ns_nx o n (ns_at o j n)
def ns_B (x : Int32) : Prop := x = 1 ∨ x = 2
def ns_res : Sum Nat Nat → Int32
  | .inl _ => -1
  | .inr e => nI e
theorem ns_3B {x : Int32} (h : x = 3) : ¬ ns_B x := by
  rw [h]; intro z; cases z with
  | inl z => exact absurd z (by decide)
  | inr z => exact absurd z (by decide)
theorem ns_ne {d e : Nat} (h : (Sum.inl d : Sum Nat Nat) = .inr e) : False := by cases h
theorem ns_inl {d e : Nat} (h : (Sum.inl d : Sum Nat Nat) = .inl e) : d = e := by cases h; rfl
theorem ns_inr {d e : Nat} (h : (Sum.inr d : Sum Nat Nat) = .inr e) : d = e := by cases h; rfl
section
variable {o : Nat → Int32}
theorem ns_le {j n : Nat} (h : n ≤ j + 1) : ns_at o j n = .inl 0 := by
  cases n with
  | zero => rfl
  | succ n => exact if_pos (by omega)
theorem ns_s {j n : Nat} (h : j < n) : ns_at o j (n + 1) = ns_nx o n (ns_at o j n) := if_neg (by omega)
theorem ns_xr (i e : Nat) : ns_nx o i (.inr e) = .inr e := rfl
theorem ns_xB {i : Nat} (d : Nat) (h : ns_B (o i)) : ns_nx o i (.inl d) = .inl (d + 1) := if_pos h
theorem ns_x0 {i : Nat} (h : o i = 3) : ns_nx o i (.inl 0) = .inr i := by
  show (if o i = 1 ∨ o i = 2 then _ else _) = _
  rw [if_neg (show ¬ (o i = 1 ∨ o i = 2) from ns_3B h), if_pos h, if_pos rfl]
theorem ns_xS {i : Nat} (d : Nat) (h : o i = 3) : ns_nx o i (.inl (d + 1)) = .inl d := by
  show (if o i = 1 ∨ o i = 2 then _ else _) = _
  rw [if_neg (show ¬ (o i = 1 ∨ o i = 2) from ns_3B h), if_pos h, if_neg (show ¬ d + 1 = 0 by omega)]
  rfl
theorem ns_xo {i : Nat} (d : Nat) (h : ¬ ns_B (o i)) (h3 : ¬ o i = 3) : ns_nx o i (.inl d) = .inl d := by
  show (if o i = 1 ∨ o i = 2 then _ else _) = _
  rw [if_neg (show ¬ (o i = 1 ∨ o i = 2) from h), if_neg h3]
theorem ns_keep {j n e : Nat} (h : ns_at o j n = .inr e) : ∀ t, ns_at o j (n + t) = .inr e := by
  intro t
  induction t with
  | zero => exact h
  | succ t ih =>
    have hj : j < n + t := by
      apply Classical.byContradiction
      intro z
      rw [ns_le (by omega)] at ih
      exact ns_ne ih
    show ns_at o j (n + t + 1) = _
    rw [ns_s hj, ih, ns_xr]
theorem ns_keep' {j n n' e : Nat} (h : ns_at o j n = .inr e) (hn : n ≤ n') : ns_at o j n' = .inr e := by
  obtain ⟨t, rfl⟩ : ∃ t, n' = n + t := ⟨n' - n, by omega⟩
  exact ns_keep h t
theorem ns_back {j n n' d : Nat} (h : ns_at o j n' = .inl d) (hn : n ≤ n') : ∃ c, ns_at o j n = .inl c := by
  cases e : ns_at o j n with
  | inl c => exact ⟨c, rfl⟩
  | inr c =>
    rw [ns_keep' e hn] at h
    cases h
theorem ns_fnd {j e : Nat} : ∀ n, ns_at o j n = .inr e → j < e ∧ e < n ∧ o e = 3 ∧ ns_at o j e = .inl 0 := by
  intro n
  induction n with
  | zero => intro h; cases h
  | succ n ih =>
    intro h
    by_cases hj : j < n
    · rw [ns_s hj] at h
      cases q : ns_at o j n with
      | inr c =>
        rw [q, ns_xr] at h
        cases h
        have := ih q
        exact ⟨this.1, by omega, this.2.2⟩
      | inl d =>
        rw [q] at h
        by_cases hB : ns_B (o n)
        · rw [ns_xB d hB] at h; cases h
        · by_cases h3 : o n = 3
          · cases d with
            | zero =>
              rw [ns_x0 h3] at h
              cases h
              exact ⟨hj, by omega, h3, q⟩
            | succ d => rw [ns_xS d h3] at h; cases h
          · rw [ns_xo d hB h3] at h; cases h
    · rw [ns_le (by omega)] at h
      cases h
/-- a depth is at most the place -/
theorem ns_dl {j : Nat} : ∀ n d, ns_at o j n = .inl d → d ≤ n := by
  intro n
  induction n with
  | zero => intro d h; cases h; exact Nat.le_refl _
  | succ n ih =>
    intro d h
    by_cases hj : j < n
    · rw [ns_s hj] at h
      cases q : ns_at o j n with
      | inr c => rw [q, ns_xr] at h; cases h
      | inl c =>
        have hc := ih c q
        rw [q] at h
        by_cases hB : ns_B (o n)
        · rw [ns_xB c hB] at h; cases h; omega
        · by_cases h3 : o n = 3
          · cases c with
            | zero => rw [ns_x0 h3] at h; cases h
            | succ c => rw [ns_xS c h3] at h; cases h; omega
          · rw [ns_xo c hB h3] at h; cases h; omega
    · rw [ns_le (by omega)] at h
      cases h
      omega
theorem ns_cl {j e : Nat} (hj : j < e) (h : ns_at o j e = .inl 0) (h3 : o e = 3) : ns_at o j (e + 1) = .inr e := by
  rw [ns_s hj, h, ns_x0 h3]
theorem ns_ext {o' : Nat → Int32} {j : Nat} : ∀ n, (∀ i, i < n → o' i = o i) → ns_at o' j n = ns_at o j n := by
  intro n
  induction n with
  | zero => exact fun _ => rfl
  | succ n ih =>
    intro h
    have e := ih (fun i hi => h i (by omega))
    by_cases hj : j < n
    · rw [ns_s hj, ns_s hj, e]
      cases ns_at o j n with
      | inr c => rfl
      | inl d =>
        show (if o' n = 1 ∨ o' n = 2 then _ else _) = (if o n = 1 ∨ o n = 2 then _ else _)
        rw [h n (by omega)]
    · rw [ns_le (by omega), ns_le (by omega)]
theorem ns_lock {j b d : Nat} (hj : j < b) (hb : ns_B (o b)) (h : ns_at o j b = .inl d) : ∀ t c, ns_at o b (b + 1 + t) = .inl c → ns_at o j (b + 1 + t) = .inl (d + 1 + c) := by
  intro t
  induction t with
  | zero =>
    intro c hc
    have h0 : ns_at o b (b + 1 + 0) = .inl 0 := ns_le (by omega)
    rw [h0] at hc
    cases hc
    show ns_at o j (b + 1) = _
    rw [ns_s hj, h, ns_xB d hb]
  | succ t ih =>
    intro c hc
    have hc2 : ns_nx o (b + 1 + t) (ns_at o b (b + 1 + t)) = .inl c := by
      rw [← ns_s (by omega)]; exact hc
    show ns_at o j (b + 1 + t + 1) = _
    rw [ns_s (by omega)]
    cases q : ns_at o b (b + 1 + t) with
    | inr g => rw [q, ns_xr] at hc2; cases hc2
    | inl g =>
      rw [ih g q]
      rw [q] at hc2
      by_cases hB : ns_B (o (b + 1 + t))
      · rw [ns_xB g hB] at hc2
        cases hc2
        rw [ns_xB _ hB]
        rfl
      · by_cases h3 : o (b + 1 + t) = 3
        · cases g with
          | zero => rw [ns_x0 h3] at hc2; cases hc2
          | succ g =>
            rw [ns_xS g h3] at hc2
            cases hc2
            exact ns_xS _ h3
        · rw [ns_xo g hB h3] at hc2
          cases hc2
          exact ns_xo _ hB h3
theorem ns_lock' {j b d n c : Nat} (hj : j < b) (hb : ns_B (o b)) (h : ns_at o j b = .inl d) (hn : b < n) (hc : ns_at o b n = .inl c) : ns_at o j n = .inl (d + 1 + c) := by
  obtain ⟨t, rfl⟩ : ∃ t, n = b + 1 + t := ⟨n - (b + 1), by omega⟩
  exact ns_lock hj hb h t c hc
/-- inside a block that is closed at e every block is closed at e -/
theorem ns_in {b e j : Nat} (hb : ns_at o b e = .inl 0) (h1 : b < j) (h2 : j < e) (hj : ns_B (o j)) : ∃ g, ns_at o j e = .inr g := by
  cases q : ns_at o j e with
  | inr g => exact ⟨g, rfl⟩
  | inl c =>
    obtain ⟨d, hd⟩ := ns_back hb (Nat.le_of_lt h2)
    have := ns_lock' h1 hj hd h2 q
    rw [hb] at this
    have := ns_inl this
    omega
/-- pending behind a jump over the block at p: pending at p -/
theorem ns_skip {p e j d : Nat} (hp : p < e) (he : ns_at o p e = .inl 0) (h3 : o e = 3) (hj : j < e + 1) (hB : ns_B (o j)) (h : ns_at o j (e + 1) = .inl d) : j < p ∧ ∃ c, ns_at o j p = .inl c := by
  by_cases h1 : j < p
  · exact ⟨h1, ns_back h (by omega)⟩
  · by_cases h2 : j = p
    · subst h2
      rw [ns_cl hp he h3] at h
      cases h
    · by_cases h4 : j = e
      · subst h4
        exact absurd hB (ns_3B h3)
      · obtain ⟨g, hg⟩ := ns_in he (show p < j by omega) (show j < e by omega) hB
        rw [ns_keep' hg (by omega)] at h
        cases h
/-- pending behind the head of the block at b: pending at its END -/
theorem ns_loop {b e j d : Nat} (hb : b < e) (hB : ns_B (o b)) (he : ns_at o b e = .inl 0) (hj : j < b + 1) (h : ns_at o j (b + 1) = .inl d) : j < e ∧ ∃ c, ns_at o j e = .inl c := by
  refine ⟨by omega, ?_⟩
  by_cases h1 : j = b
  · subst h1
    exact ⟨0, he⟩
  · obtain ⟨c, hc⟩ := ns_back h (show b ≤ b + 1 by omega)
    exact ⟨_, ns_lock' (show j < b by omega) hB hc hb he⟩
/-- pending behind a cell: pending before it -/
theorem ns_next {p j d : Nat} (h : ns_at o j (p + 1) = .inl d) : ∃ c, ns_at o j p = .inl c := ns_back h (by omega)
end
/-! The program as the component keeps it: partners and the stack of pending blocks -/
def ns_PI (o P : Nat → Int32) (s : Nat → Nat) (n m : Nat) : Prop :=
  (∀ i, i < m → s i < n ∧ ns_B (o (s i)) ∧ P (s i) = -1 ∧ ∃ d, ns_at o (s i) n = .inl d ∧ d + i + 1 = m) ∧
  (∀ j, j < n → ns_B (o j) → (∃ i, i < m ∧ s i = j) ∨ (∃ e, e < n ∧ P j = nI e ∧ P e = nI j ∧ ns_at o j n = .inr e)) ∧
  (∀ e, e < n → o e = 3 → ∃ j, j < e ∧ ns_B (o j) ∧ P e = nI j ∧ P j = nI e ∧ ns_at o j n = .inr e)
theorem ns_PI0 (o P : Nat → Int32) (s : Nat → Nat) : ns_PI o P s 0 0 :=
  ⟨fun _ h => absurd h (Nat.not_lt_zero _), fun _ h => absurd h (Nat.not_lt_zero _), fun _ h => absurd h (Nat.not_lt_zero _)⟩
def ns_updN (s : Nat → Nat) (k x : Nat) : Nat → Nat := fun j => if j = k then x else s j
section
variable {o P : Nat → Int32} {s : Nat → Nat} {n m : Nat}
theorem ns_uo {f : Nat → Int32} {k i : Nat} {x : Int32} (h : i ≠ k) : upd f k x i = f i := if_neg h
theorem ns_us {f : Nat → Int32} {k : Nat} {x : Int32} : upd f k x k = x := if_pos rfl
theorem ns_ux {x : Int32} {j : Nat} : ns_at (upd o n x) j n = ns_at o j n := ns_ext n fun i hi => ns_uo (by omega)
theorem ns_PI_B {x : Int32} (h : ns_PI o P s n m) (hx : ns_B x) : ns_PI (upd o n x) (upd P n (-1)) (ns_updN s m n) (n + 1) (m + 1) := by
  obtain ⟨hA, hB, hC⟩ := h
  have hn : ns_B (upd o n x n) := by rw [ns_us]; exact hx
  refine ⟨fun i hi => ?_, fun j hj hb => ?_, fun e he h3 => ?_⟩
  · by_cases z : i = m
    · subst z
      have e : ns_updN s i n i = n := if_pos rfl
      rw [e]
      exact ⟨by omega, hn, ns_us, 0, ns_le (by omega), by omega⟩
    · have e : ns_updN s m n i = s i := if_neg z
      rw [e]
      obtain ⟨h1, h2, h3, d, h4, h5⟩ := hA i (by omega)
      refine ⟨by omega, by rw [ns_uo (by omega)]; exact h2, by rw [ns_uo (by omega)]; exact h3, d + 1, ?_, by omega⟩
      rw [ns_s h1, ns_ux, h4, ns_xB d hn]
  · by_cases z : j = n
    · subst z
      exact Or.inl ⟨m, by omega, if_pos rfl⟩
    · rw [ns_uo z] at hb
      cases hB j (by omega) hb with
      | inl h =>
        obtain ⟨i, hi, e⟩ := h
        exact Or.inl ⟨i, by omega, by rw [← e]; exact if_neg (by omega)⟩
      | inr h =>
        obtain ⟨e, h1, h2, h3, h4⟩ := h
        exact Or.inr ⟨e, by omega, by rw [ns_uo z]; exact h2, by rw [ns_uo (by omega)]; exact h3, by rw [ns_s (by omega), ns_ux, h4, ns_xr]⟩
  · by_cases z : e = n
    · subst z
      exact absurd hn (ns_3B h3)
    · rw [ns_uo z] at h3
      obtain ⟨j, h1, h2, h4, h5, h6⟩ := hC e (by omega) h3
      exact ⟨j, h1, by rw [ns_uo (by omega)]; exact h2, by rw [ns_uo z]; exact h4, by rw [ns_uo (by omega)]; exact h5, by rw [ns_s (by omega), ns_ux, h6, ns_xr]⟩
theorem ns_PI_o {x : Int32} (h : ns_PI o P s n m) (hx : ¬ ns_B x) (hx3 : ¬ x = 3) : ns_PI (upd o n x) (upd P n (-1)) s (n + 1) m := by
  obtain ⟨hA, hB, hC⟩ := h
  have hn : ¬ ns_B (upd o n x n) := by rw [ns_us]; exact hx
  have hn3 : ¬ upd o n x n = 3 := by rw [ns_us]; exact hx3
  refine ⟨fun i hi => ?_, fun j hj hb => ?_, fun e he h3 => ?_⟩
  · obtain ⟨h1, h2, h3, d, h4, h5⟩ := hA i hi
    refine ⟨by omega, by rw [ns_uo (by omega)]; exact h2, by rw [ns_uo (by omega)]; exact h3, d, ?_, h5⟩
    rw [ns_s h1, ns_ux, h4, ns_xo d hn hn3]
  · by_cases z : j = n
    · subst z
      exact absurd hb hn
    · rw [ns_uo z] at hb
      cases hB j (by omega) hb with
      | inl h => exact Or.inl h
      | inr h =>
        obtain ⟨e, h1, h2, h3, h4⟩ := h
        exact Or.inr ⟨e, by omega, by rw [ns_uo z]; exact h2, by rw [ns_uo (by omega)]; exact h3, by rw [ns_s (by omega), ns_ux, h4, ns_xr]⟩
  · by_cases z : e = n
    · subst z
      exact absurd h3 hn3
    · rw [ns_uo z] at h3
      obtain ⟨j, h1, h2, h4, h5, h6⟩ := hC e (by omega) h3
      exact ⟨j, h1, by rw [ns_uo (by omega)]; exact h2, by rw [ns_uo z]; exact h4, by rw [ns_uo (by omega)]; exact h5, by rw [ns_s (by omega), ns_ux, h6, ns_xr]⟩
theorem ns_PI_E {x : Int32} {k : Int32} (h : ns_PI o P s n (m + 1)) (hx : x = 3) : ns_PI (upd o n x) (upd (upd (upd P n k) (s m) (nI n)) n (nI (s m))) s (n + 1) m := by
  obtain ⟨hA, hB, hC⟩ := h
  have hn3 : upd o n x n = 3 := by rw [ns_us]; exact hx
  have hn : ¬ ns_B (upd o n x n) := ns_3B hn3
  obtain ⟨g1, g2, _, d0, g4, g5⟩ := hA m (by omega)
  have hd0 : d0 = 0 := by omega
  subst hd0
  have hP : ∀ j, j ≠ n → j ≠ s m → upd (upd (upd P n k) (s m) (nI n)) n (nI (s m)) j = P j := by
    intro j z1 z2
    rw [ns_uo z1, ns_uo z2, ns_uo z1]
  have hPs : upd (upd (upd P n k) (s m) (nI n)) n (nI (s m)) (s m) = nI n := by
    rw [ns_uo (by omega), ns_us]
  have hPn : upd (upd (upd P n k) (s m) (nI n)) n (nI (s m)) n = nI (s m) := ns_us
  refine ⟨fun i hi => ?_, fun j hj hb => ?_, fun e he h3 => ?_⟩
  · obtain ⟨h1, h2, h3, d, h4, h5⟩ := hA i (by omega)
    obtain ⟨d', rfl⟩ : ∃ d', d = d' + 1 := ⟨d - 1, by omega⟩
    have hne : s i ≠ s m := by
      intro z
      rw [z, g4] at h4
      have := ns_inl h4
      omega
    refine ⟨by omega, by rw [ns_uo (by omega)]; exact h2, by rw [hP _ (by omega) hne]; exact h3, d', ?_, by omega⟩
    rw [ns_s h1, ns_ux, h4, ns_xS d' hn3]
  · by_cases z : j = n
    · subst z
      exact absurd hb hn
    · rw [ns_uo z] at hb
      cases hB j (by omega) hb with
      | inl h =>
        obtain ⟨i, hi, e⟩ := h
        by_cases zi : i = m
        · subst zi
          subst e
          exact Or.inr ⟨n, by omega, hPs, hPn, by rw [ns_s g1, ns_ux, g4, ns_x0 hn3]⟩
        · exact Or.inl ⟨i, by omega, e⟩
      | inr h =>
        obtain ⟨e, h1, h2, h3, h4⟩ := h
        have hjm : j ≠ s m := by
          intro w
          rw [w, g4] at h4
          cases h4
        have he3 := (ns_fnd n h4).2.2.1
        have hem : e ≠ s m := by
          intro w
          rw [w] at he3
          exact ns_3B he3 g2
        exact Or.inr ⟨e, by omega, by rw [hP j z hjm]; exact h2, by rw [hP e (by omega) hem]; exact h3, by rw [ns_s (by omega), ns_ux, h4, ns_xr]⟩
  · by_cases z : e = n
    · subst z
      exact ⟨s m, g1, by rw [ns_uo (by omega)]; exact g2, hPn, hPs, by rw [ns_s g1, ns_ux, g4, ns_x0 hn3]⟩
    · rw [ns_uo z] at h3
      obtain ⟨j, h1, h2, h4, h5, h6⟩ := hC e (by omega) h3
      have hjm : j ≠ s m := by
        intro w
        rw [w, g4] at h6
        cases h6
      have hem : e ≠ s m := by
        intro w
        rw [w] at h3
        exact ns_3B h3 g2
      exact ⟨j, h1, by rw [ns_uo (by omega)]; exact h2, by rw [hP e z hem]; exact h4, by rw [hP j (by omega) hjm]; exact h5, by rw [ns_s (by omega), ns_ux, h6, ns_xr]⟩
/-- what the reference's search for an END answers is the partner that the component keeps -/
theorem ns_me (h : ns_PI o P s n m) {j : Nat} (hj : j < n) (hb : ns_B (o j)) : ns_res (ns_at o j n) = P j := by
  cases h.2.1 j hj hb with
  | inl z =>
    obtain ⟨i, hi, rfl⟩ := z
    obtain ⟨_, _, h3, d, h4, _⟩ := h.1 i hi
    rw [h4, h3]
    rfl
  | inr z =>
    obtain ⟨e, _, h2, _, h4⟩ := z
    rw [h4, h2]
    rfl
theorem ns_op (h : ns_PI o P s n m) {j d : Nat} (hj : j < n) (hb : ns_B (o j)) (hd : ns_at o j n = .inl d) : ∃ i, i < m ∧ s i = j := by
  cases h.2.1 j hj hb with
  | inl z => exact z
  | inr z =>
    obtain ⟨e, _, _, _, h4⟩ := z
    rw [hd] at h4
    cases h4
theorem ns_uq (h : ns_PI o P s n m) (hn : n < 2 ^ 31) {j j' e : Nat} (hj : j < n) (hb : ns_B (o j)) (h1 : ns_at o j n = .inr e) (hj' : j' < n) (hb' : ns_B (o j')) (h2 : ns_at o j' n = .inr e) : j = j' := by
  have key : ∀ i, i < n → ns_B (o i) → ns_at o i n = .inr e → P e = nI i := by
    intro i hi hbi hei
    cases h.2.1 i hi hbi with
    | inl z =>
      obtain ⟨q, hq, rfl⟩ := z
      obtain ⟨_, _, _, d, h4, _⟩ := h.1 q hq
      rw [hei] at h4
      cases h4
    | inr z =>
      obtain ⟨g, _, _, g3, g4⟩ := z
      rw [hei] at g4
      cases g4
      exact g3
  have e1 := key j hj hb h1
  rw [key j' hj' hb' h2] at e1
  exact ((nI_eq (by omega) (by omega)).mp e1).symm
end
/-! Bound variables and well-formed instructions -/
def ns_Bd (o a : Nat → Int32) (p : Nat) (x : Int32) : Prop :=
  (0 ≤ x.toInt ∧ x.toInt ≤ 3) ∨ ∃ j d, j < p ∧ o j = 1 ∧ a j = x ∧ ns_at o j p = .inl d
def ns_K (x : Int32) : Prop := -1000 ≤ x.toInt ∧ x.toInt ≤ 1000
def ns_WF (o a v c : Nat → Int32) (p : Nat) : Prop :=
  (o p = 1 ∧ (4 ≤ (a p).toInt ∧ (a p).toInt ≤ 7) ∧ (∀ j d, j < p → o j = 1 → ns_at o j p = .inl d → a j ≠ a p) ∧ ns_Bd o a p (v p) ∧ ns_K (c p)) ∨
  (o p = 2 ∧ ns_Bd o a p (a p) ∧ ns_Bd o a p (v p) ∧ ns_K (c p)) ∨
  o p = 3 ∨
  (o p = 4 ∧ ns_K (c p)) ∨
  ((o p = 5 ∨ o p = 6 ∨ o p = 7) ∧ (0 ≤ (a p).toInt ∧ (a p).toInt ≤ 3) ∧ ns_Bd o a p (v p) ∧ ns_K (c p))
theorem ns_Bd_x {o a o' a' : Nat → Int32} {p : Nat} {x : Int32} (ho : ∀ i, i < p → o' i = o i) (ha : ∀ i, i < p → a' i = a i) (h : ns_Bd o a p x) : ns_Bd o' a' p x := by
  cases h with
  | inl h => exact Or.inl h
  | inr h =>
    obtain ⟨j, d, h1, h2, h3, h4⟩ := h
    exact Or.inr ⟨j, d, h1, by rw [ho j h1]; exact h2, by rw [ha j h1]; exact h3, by rw [ns_ext p ho]; exact h4⟩
theorem ns_WF_x {o a v c o' a' v' c' : Nat → Int32} {p : Nat} (ho : ∀ i, i < p + 1 → o' i = o i) (ha : ∀ i, i < p + 1 → a' i = a i) (hv : v' p = v p) (hc : c' p = c p) (h : ns_WF o a v c p) : ns_WF o' a' v' c' p := by
  have ho' : ∀ i, i < p → o' i = o i := fun i hi => ho i (by omega)
  have ha' : ∀ i, i < p → a' i = a i := fun i hi => ha i (by omega)
  unfold ns_WF
  rw [ho p (by omega), ha p (by omega), hv, hc]
  rcases h with h | h | h | h | h
  · refine Or.inl ⟨h.1, h.2.1, ?_, ns_Bd_x ho' ha' h.2.2.2.1, h.2.2.2.2⟩
    intro j d hj h1 h2
    rw [ho' j hj] at h1
    rw [ns_ext p ho'] at h2
    rw [ha' j hj]
    exact h.2.2.1 j d hj h1 h2
  · exact Or.inr (Or.inl ⟨h.1, ns_Bd_x ho' ha' h.2.1, ns_Bd_x ho' ha' h.2.2.1, h.2.2.2⟩)
  · exact Or.inr (Or.inr (Or.inl h))
  · exact Or.inr (Or.inr (Or.inr (Or.inl h)))
  · exact Or.inr (Or.inr (Or.inr (Or.inr ⟨h.1, h.2.1, ns_Bd_x ho' ha' h.2.2.1, h.2.2.2⟩)))
