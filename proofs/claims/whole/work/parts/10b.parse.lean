def tx_c (T : Nat → Nat) (n p c : Nat) : Prop := p < n ∧ T p = c
def tx_S (T : Nat → Nat) (n i : Nat) : Option Nat := if i < n then (if T i = 92 then none else if T i = 34 then some (i + 1) else tx_S T n (i + 1)) else none
termination_by n - i
def tx_s (T : Nat → Nat) (n p : Nat) : Option Nat := if p < n ∧ T p = 34 then tx_S T n (p + 1) else none
theorem tx_S_some {T : Nat → Nat} {n : Nat} : ∀ (m i q : Nat), n - i = m → tx_S T n i = some q → i < q ∧ q ≤ n ∧ T (q - 1) = 34 ∧ ∀ j, i ≤ j → j < q - 1 → T j ≠ 34 ∧ T j ≠ 92 := by
  intro m
  induction m with
  | zero =>
    intro i q hm h
    rw [tx_S, if_neg (by omega)] at h
    cases h
  | succ m ih =>
    intro i q hm h
    rw [tx_S, if_pos (by omega)] at h
    by_cases h92 : T i = 92
    · rw [if_pos h92] at h; cases h
    · rw [if_neg h92] at h
      by_cases h34 : T i = 34
      · rw [if_pos h34] at h
        cases h
        exact ⟨by omega, by omega, by simpa using h34, fun j h1 h2 => by omega⟩
      · rw [if_neg h34] at h
        obtain ⟨a1, a2, a3, a4⟩ := ih (i + 1) q (by omega) h
        refine ⟨by omega, a2, a3, fun j h1 h2 => ?_⟩
        by_cases hj : j = i
        · subst hj; exact ⟨h34, h92⟩
        · exact a4 j (by omega) h2
def tx_isd (c : Nat) : Prop := 48 ≤ c ∧ c ≤ 57
def tx_d (T : Nat → Nat) (n p : Nat) : Prop := p < n ∧ 48 ≤ T p ∧ T p ≤ 57
def tx_D (T : Nat → Nat) (n : Nat) : Nat → Nat → Nat
  | 0, p => p
  | k + 1, p => if p < n ∧ 48 ≤ T p ∧ T p ≤ 57 then tx_D T n k (p + 1) else p
def tx_n (T : Nat → Nat) (n p : Nat) : Option Nat := if p < n ∧ 48 ≤ T p ∧ T p ≤ 57 then (if T p = 48 then some (p + 1) else some (tx_D T n 8 (p + 1))) else none
def tx_A (T : Nat → Nat) (n p : Nat) : Nat := if p < n ∧ 48 ≤ T p ∧ T p ≤ 57 then tx_A T n (p + 1) else p
termination_by n - p
def tx_m (T : Nat → Nat) (n p : Nat) : Option Nat := if tx_A T n p = p ∨ p + 9 < tx_A T n p ∨ (T p = 48 ∧ p + 1 < tx_A T n p) then none else some (tx_A T n p)
def tx_L (T : Nat → Nat) (n : Nat) (V : Nat → Option Nat) (last : Nat) : Nat → Nat → Option Nat
  | 0, _ => none
  | k + 1, p => match (if last = 125 then (match tx_s T n p with | some c => if c < n ∧ T c = 58 then some (c + 1) else none | none => none) else some p) with
    | none => none
    | some v => match V v with
      | none => none
      | some e => if e < n ∧ T e = last then some (e + 1) else if e < n ∧ T e = 44 then tx_L T n V last k (e + 1) else none
def tx_P (T : Nat → Nat) (n : Nat) (V : Nat → Option Nat) (last d p : Nat) : Option Nat := if 4 < d then none else if p + 1 < n ∧ T (p + 1) = last then some (p + 2) else tx_L T n V last 96 (p + 1)
def tx_V (T : Nat → Nat) (n : Nat) (N : Nat → Option Nat) : Nat → Nat → Nat → Option Nat
  | 0, _, _ => none
  | f + 1, d, p => if p < n ∧ T p = 34 then tx_s T n p else if p < n ∧ T p = 91 then tx_P T n (tx_V T n N f (d + 1)) 93 (d + 1) p else if p < n ∧ T p = 123 then tx_P T n (tx_V T n N f (d + 1)) 125 (d + 1) p else N p
def tx_R (T : Nat → Nat) (n : Nat) (V W : Nat → Option Nat) : Prop := ∀ p, V p = W p ∨ (W p = none ∧ ∃ e, V p = some e ∧ e < n ∧ 48 ≤ T e ∧ T e ≤ 57)
theorem tx_R_L {T : Nat → Nat} {n : Nat} {V W : Nat → Option Nat} (h : tx_R T n V W) {last : Nat} (hl : last = 93 ∨ last = 125) : ∀ k p, tx_L T n V last k p = tx_L T n W last k p := by
  intro k
  induction k with
  | zero => intro p; rfl
  | succ k ih =>
    intro p
    rw [tx_L, tx_L]
    generalize (if last = 125 then (match tx_s T n p with | some c => if c < n ∧ T c = 58 then some (c + 1) else none | none => none) else some p) = o
    cases o with
    | none => rfl
    | some v =>
      simp only
      rcases h v with e | ⟨e1, e, e2, e3, e4, e5⟩
      · rw [e]
        cases hW : W v with
        | none => rfl
        | some z =>
          simp only
          rw [ih]
      · rw [e1, e2]
        simp only
        rw [if_neg (by omega), if_neg (by omega)]
theorem tx_A_ge {T : Nat → Nat} {n : Nat} : ∀ (m p : Nat), n - p = m → p ≤ tx_A T n p ∧ tx_A T n p ≤ max p n := by
  intro m
  induction m with
  | zero =>
    intro p hm
    rw [tx_A, if_neg (by omega)]
    omega
  | succ m ih =>
    intro p hm
    rw [tx_A]
    split
    · have := ih (p + 1) (by omega)
      omega
    · omega
theorem tx_D_A {T : Nat → Nat} {n : Nat} : ∀ k p, (tx_A T n p ≤ p + k → tx_D T n k p = tx_A T n p) ∧ (p + k < tx_A T n p → tx_D T n k p = p + k ∧ p + k < n ∧ 48 ≤ T (p + k) ∧ T (p + k) ≤ 57) := by
  intro k
  induction k with
  | zero =>
    intro p
    have hg := tx_A_ge (T := T) (n := n) (n - p) p rfl
    refine ⟨fun h => ?_, fun h => ?_⟩
    · rw [tx_D]; omega
    · rw [tx_D]
      rw [tx_A] at h
      split at h
      · rename_i hc
        exact ⟨rfl, by simpa using hc.1, by simpa using hc.2.1, by simpa using hc.2.2⟩
      · omega
  | succ k ih =>
    intro p
    rw [tx_D, tx_A]
    by_cases hc : p < n ∧ 48 ≤ T p ∧ T p ≤ 57
    · rw [if_pos hc, if_pos hc]
      obtain ⟨i1, i2⟩ := ih (p + 1)
      refine ⟨fun h => i1 (by omega), fun h => ?_⟩
      have := i2 (by omega)
      rw [show p + 1 + k = p + (k + 1) by omega] at this
      exact this
    · rw [if_neg hc, if_neg hc]
      exact ⟨fun _ => rfl, fun h => by omega⟩
theorem tx_R_N (T : Nat → Nat) (n : Nat) : tx_R T n (tx_n T n) (tx_m T n) := by
  intro p
  by_cases hc : p < n ∧ 48 ≤ T p ∧ T p ≤ 57
  · have hA : tx_A T n p = tx_A T n (p + 1) := by rw [tx_A, if_pos hc]
    have hg := tx_A_ge (T := T) (n := n) (n - (p + 1)) (p + 1) rfl
    rw [tx_n, if_pos hc, tx_m, hA]
    by_cases h0 : T p = 48
    · rw [if_pos h0]
      by_cases h1 : p + 1 < tx_A T n (p + 1)
      · refine Or.inr ⟨if_pos (Or.inr (Or.inr ⟨h0, h1⟩)), p + 1, rfl, ?_⟩
        have := ((tx_D_A (T := T) (n := n) 0 (p + 1)).2 h1).2
        simpa using this
      · left
        rw [if_neg (by omega)]
        congr 1
        omega
    · rw [if_neg h0]
      by_cases h1 : p + 9 < tx_A T n (p + 1)
      · have := (tx_D_A (T := T) (n := n) 8 (p + 1)).2 (by omega)
        refine Or.inr ⟨if_pos (Or.inr (Or.inl h1)), _, rfl, ?_⟩
        rw [this.1]
        exact this.2
      · left
        rw [(tx_D_A (T := T) (n := n) 8 (p + 1)).1 (by omega), if_neg (by omega)]
  · left
    rw [tx_n, if_neg hc, tx_m]
    have : tx_A T n p = p := by rw [tx_A, if_neg hc]
    rw [if_pos (Or.inl this)]
theorem tx_R_V {T : Nat → Nat} {n : Nat} : ∀ f d, tx_R T n (tx_V T n (tx_n T n) f d) (tx_V T n (tx_m T n) f d) := by
  intro f
  induction f with
  | zero => intro d p; exact Or.inl rfl
  | succ f ih =>
    intro d p
    rw [tx_V, tx_V]
    by_cases h1 : p < n ∧ T p = 34
    · rw [if_pos h1, if_pos h1]; exact Or.inl rfl
    · rw [if_neg h1, if_neg h1]
      by_cases h2 : p < n ∧ T p = 91
      · rw [if_pos h2, if_pos h2, tx_P, tx_P, tx_R_L (ih (d + 1)) (Or.inl rfl)]
        exact Or.inl rfl
      · rw [if_neg h2, if_neg h2]
        by_cases h3 : p < n ∧ T p = 123
        · rw [if_pos h3, if_pos h3, tx_P, tx_P, tx_R_L (ih (d + 1)) (Or.inr rfl)]
          exact Or.inl rfl
        · rw [if_neg h3, if_neg h3]
          exact tx_R_N T n p
