def tx_M (T : Nat → Nat) (n : Nat) (stk : List Nat) (s p : Nat) : Bool :=
  if p < n then
    if (T p = 93 ∧ (s = 1 ∨ s = 2)) ∨ (T p = 125 ∧ (s = 1 ∨ s = 3)) then
      match stk with
      | [] => false
      | b :: r => if b + 2 = T p then tx_M T n r 1 (p + 1) else false
    else if s = 1 then
      if T p = 44 then (match stk with
        | [] => false
        | b :: r => tx_M T n (b :: r) (if b = 123 then 4 else 0) (p + 1)) else false
    else if 2 < s then
      match tx_s T n p with
      | none => false
      | some e => if p < e + 1 then (if e < n ∧ T e = 58 then tx_M T n stk 0 (e + 1) else false) else false
    else if T p = 91 ∨ T p = 123 then
      if stk.length = 4 then false else tx_M T n (T p :: stk) (if T p = 91 then 2 else 3) (p + 1)
    else match (if T p = 34 then tx_s T n p else tx_m T n p) with
      | none => false
      | some q => if p < q then tx_M T n stk 1 q else false
  else decide (stk = []) && decide (s = 1)
termination_by n - p
decreasing_by all_goals omega
section TXM
variable {T : Nat → Nat} {n : Nat}
theorem tx_s_some {p q : Nat} (h : tx_s T n p = some q) : p + 1 < q ∧ q ≤ n ∧ p < n ∧ T p = 34 ∧ T (q - 1) = 34 ∧ ∀ j, p < j → j < q - 1 → T j ≠ 34 ∧ T j ≠ 92 := by
  rw [tx_s] at h
  split at h
  · rename_i hc
    obtain ⟨a1, a2, a3, a4⟩ := tx_S_some (n - (p + 1)) (p + 1) q rfl h
    exact ⟨a1, a2, hc.1, hc.2, a3, fun j h1 h2 => a4 j (by omega) h2⟩
  · cases h
theorem tx_m_some {p q : Nat} (h : tx_m T n p = some q) : p < q ∧ q ≤ n ∧ q = tx_A T n p ∧ p < n ∧ 48 ≤ T p ∧ T p ≤ 57 := by
  rw [tx_m] at h
  split at h
  · cases h
  · rename_i hc
    cases h
    have hg := tx_A_ge (T := T) (n := n) (n - p) p rfl
    have hd : p < n ∧ 48 ≤ T p ∧ T p ≤ 57 := by
      by_cases hd : p < n ∧ 48 ≤ T p ∧ T p ≤ 57
      · exact hd
      · have : tx_A T n p = p := by rw [tx_A, if_neg hd]
        exact absurd (Or.inl this) hc
    exact ⟨by omega, by omega, rfl, hd⟩
def tx_G (T : Nat → Nat) (n : Nat) (stk stk' : List Nat) (s p : Nat) (o : Option Nat) : Prop := match o with
  | some q => tx_M T n stk s p = tx_M T n stk' 1 q ∧ p < q ∧ q ≤ n
  | none => tx_M T n stk s p = false
theorem tx_M_1 {b e : Nat} {stk : List Nat} (h1 : ¬ (e < n ∧ T e = b + 2)) (h2 : ¬ (e < n ∧ T e = 44)) : tx_M T n (b :: stk) 1 e = false := by
  rw [tx_M]
  by_cases he : e < n
  · rw [if_pos he]
    by_cases h3 : (T e = 93 ∧ ((1 : Nat) = 1 ∨ (1 : Nat) = 2)) ∨ (T e = 125 ∧ ((1 : Nat) = 1 ∨ (1 : Nat) = 3))
    · rw [if_pos h3]
      show (if b + 2 = T e then _ else false) = false
      rw [if_neg (by omega)]
    · rw [if_neg h3, if_pos rfl, if_neg (by omega)]
  · rw [if_neg he]
    simp
theorem tx_M_pop {b e : Nat} {stk : List Nat} {s : Nat} (hb : b = 91 ∨ b = 123) (he : e < n) (hT : T e = b + 2) (hs : s = 1 ∨ (b = 91 ∧ s = 2) ∨ (b = 123 ∧ s = 3)) : tx_M T n (b :: stk) s e = tx_M T n stk 1 (e + 1) := by
  rw [tx_M, if_pos he, if_pos (by omega)]
  show (if b + 2 = T e then _ else false) = _
  rw [if_pos hT.symm]
theorem tx_M_comma {b e : Nat} {stk : List Nat} (he : e < n) (hT : T e = 44) : tx_M T n (b :: stk) 1 e = tx_M T n (b :: stk) (if b = 123 then 4 else 0) (e + 1) := by
  rw [tx_M, if_pos he, if_neg (by omega), if_pos rfl, if_pos hT]
theorem tx_loopA {V : Nat → Option Nat} {stk : List Nat} (hV : ∀ p s, (s = 0 ∨ (s = 2 ∧ ¬ (p < n ∧ T p = 93))) → tx_G T n (91 :: stk) (91 :: stk) s p (V p)) : ∀ k p s, n - p < k → (s = 0 ∨ (s = 2 ∧ ¬ (p < n ∧ T p = 93))) → tx_G T n (91 :: stk) stk s p (tx_L T n V 93 k p) := by
  intro k
  induction k with
  | zero => intro p s hk _; omega
  | succ k ih =>
    intro p s hk hs
    have h1 := hV p s hs
    rw [tx_L, if_neg (by decide)]
    simp only
    cases hv : V p with
    | none => rw [hv] at h1; exact h1
    | some e =>
      rw [hv] at h1
      obtain ⟨a1, a2, a3⟩ := h1
      simp only
      by_cases c1 : e < n ∧ T e = 93
      · rw [if_pos c1]
        exact ⟨by rw [a1, tx_M_pop (Or.inl rfl) c1.1 c1.2 (Or.inl rfl)], by omega, by omega⟩
      · rw [if_neg c1]
        by_cases c2 : e < n ∧ T e = 44
        · rw [if_pos c2]
          have h2 := ih (e + 1) 0 (by omega) (Or.inl rfl)
          have e1 : tx_M T n (91 :: stk) s p = tx_M T n (91 :: stk) 0 (e + 1) := by rw [a1, tx_M_comma c2.1 c2.2, if_neg (by decide)]
          cases hL : tx_L T n V 93 k (e + 1) with
          | none => rw [hL] at h2; exact e1.trans h2
          | some q => rw [hL] at h2; exact ⟨e1.trans h2.1, by have := h2.2.1; omega, h2.2.2⟩
        · rw [if_neg c2]
          exact a1.trans (tx_M_1 c1 c2)
theorem tx_loopO {V : Nat → Option Nat} {stk : List Nat} (hV : ∀ p, tx_G T n (123 :: stk) (123 :: stk) 0 p (V p)) : ∀ k p s, n - p < k → ((s = 3 ∧ ¬ (p < n ∧ T p = 125)) ∨ s = 4) → tx_G T n (123 :: stk) stk s p (tx_L T n V 125 k p) := by
  intro k
  induction k with
  | zero => intro p s hk _; omega
  | succ k ih =>
    intro p s hk hs
    rw [tx_L, if_pos rfl]
    have hM : tx_M T n (123 :: stk) s p = match tx_s T n p with
        | none => false
        | some e => if p < e + 1 then (if e < n ∧ T e = 58 then tx_M T n (123 :: stk) 0 (e + 1) else false) else false := by
      by_cases hp : p < n
      · rw [tx_M, if_pos hp, if_neg (by omega), if_neg (by omega), if_pos (by omega)]
      · have : tx_s T n p = none := by rw [tx_s, if_neg (by omega)]
        rw [this, tx_M, if_neg hp]
        simp
    cases hs' : tx_s T n p with
    | none =>
      rw [hs'] at hM
      exact hM
    | some c =>
      rw [hs'] at hM
      obtain ⟨b1, b2, -⟩ := tx_s_some hs'
      simp only at hM ⊢
      rw [if_pos (by omega)] at hM
      by_cases hc : c < n ∧ T c = 58
      · rw [if_pos hc] at hM
        rw [if_pos hc]
        simp only
        have h1 := hV (c + 1)
        cases hv : V (c + 1) with
        | none => rw [hv] at h1; exact hM.trans h1
        | some e =>
          rw [hv] at h1
          obtain ⟨a1, a2, a3⟩ := h1
          simp only
          by_cases c1 : e < n ∧ T e = 125
          · rw [if_pos c1]
            exact ⟨by rw [hM, a1, tx_M_pop (Or.inr rfl) c1.1 c1.2 (Or.inl rfl)], by omega, by omega⟩
          · rw [if_neg c1]
            by_cases c2 : e < n ∧ T e = 44
            · rw [if_pos c2]
              have h2 := ih (e + 1) 4 (by omega) (Or.inr rfl)
              have e1 : tx_M T n (123 :: stk) s p = tx_M T n (123 :: stk) 4 (e + 1) := by rw [hM, a1, tx_M_comma c2.1 c2.2, if_pos rfl]
              cases hL : tx_L T n V 125 k (e + 1) with
              | none => rw [hL] at h2; exact e1.trans h2
              | some q => rw [hL] at h2; exact ⟨e1.trans h2.1, by have := h2.2.1; omega, h2.2.2⟩
            · rw [if_neg c2]
              exact (hM.trans a1).trans (tx_M_1 c1 c2)
      · rw [if_neg hc] at hM
        rw [if_neg hc]
        exact hM
theorem tx_val (hn : n ≤ 96) : ∀ g d p s (stk : List Nat), g + d = 7 → stk.length = d → d ≤ 4 → (s = 0 ∨ (s = 2 ∧ ¬ (p < n ∧ T p = 93))) → tx_G T n stk stk s p (tx_V T n (tx_m T n) g d p) := by
  intro g
  induction g with
  | zero => intro d p s stk h1 h2 h3; omega
  | succ g ih =>
    intro d p s stk hg hd hd4 hs
    rw [tx_V]
    by_cases hp : p < n
    · have hM : tx_M T n stk s p = if T p = 91 ∨ T p = 123 then (if stk.length = 4 then false else tx_M T n (T p :: stk) (if T p = 91 then 2 else 3) (p + 1)) else match (if T p = 34 then tx_s T n p else tx_m T n p) with
          | none => false
          | some q => if p < q then tx_M T n stk 1 q else false := by
        rw [tx_M.eq_def T n stk s p, if_pos hp, if_neg (by omega), if_neg (by omega), if_neg (by omega)]
      by_cases c1 : T p = 34
      · rw [if_pos ⟨hp, c1⟩]
        rw [if_neg (by omega), if_pos c1] at hM
        cases hS : tx_s T n p with
        | none => rw [hS] at hM; exact hM
        | some q =>
          rw [hS] at hM
          obtain ⟨b1, b2, -⟩ := tx_s_some hS
          simp only at hM
          rw [if_pos (by omega)] at hM
          exact ⟨hM, by omega, b2⟩
      · rw [if_neg (fun z => c1 z.2)]
        by_cases c2 : T p = 91
        · rw [if_pos ⟨hp, c2⟩, tx_P]
          rw [if_pos (Or.inl c2), hd, c2, if_pos rfl] at hM
          by_cases hd5 : 4 < d + 1
          · rw [if_pos hd5]
            rw [if_pos (by omega)] at hM
            exact hM
          · rw [if_neg hd5]
            rw [if_neg (by omega)] at hM
            by_cases c3 : p + 1 < n ∧ T (p + 1) = 93
            · rw [if_pos c3]
              exact ⟨by rw [hM, tx_M_pop (Or.inl rfl) c3.1 c3.2 (Or.inr (Or.inl ⟨rfl, rfl⟩))], by omega, by omega⟩
            · rw [if_neg c3]
              have h2 := tx_loopA (stk := stk) (V := tx_V T n (tx_m T n) g (d + 1)) (fun p' s' hs' => ih (d + 1) p' s' (91 :: stk) (by omega) (by simp [hd]) (by omega) hs') 96 (p + 1) 2 (by omega) (Or.inr ⟨rfl, c3⟩)
              cases hL : tx_L T n (tx_V T n (tx_m T n) g (d + 1)) 93 96 (p + 1) with
              | none => rw [hL] at h2; exact hM.trans h2
              | some q => rw [hL] at h2; exact ⟨hM.trans h2.1, by have := h2.2.1; omega, h2.2.2⟩
        · rw [if_neg (fun z => c2 z.2)]
          by_cases c4 : T p = 123
          · rw [if_pos ⟨hp, c4⟩, tx_P]
            rw [if_pos (Or.inr c4), hd, c4, if_neg (show ¬ (123 : Nat) = 91 by decide)] at hM
            by_cases hd5 : 4 < d + 1
            · rw [if_pos hd5]
              rw [if_pos (by omega)] at hM
              exact hM
            · rw [if_neg hd5]
              rw [if_neg (by omega)] at hM
              by_cases c3 : p + 1 < n ∧ T (p + 1) = 125
              · rw [if_pos c3]
                exact ⟨by rw [hM, tx_M_pop (Or.inr rfl) c3.1 c3.2 (Or.inr (Or.inr ⟨rfl, rfl⟩))], by omega, by omega⟩
              · rw [if_neg c3]
                have h2 := tx_loopO (stk := stk) (V := tx_V T n (tx_m T n) g (d + 1)) (fun p' => ih (d + 1) p' 0 (123 :: stk) (by omega) (by simp [hd]) (by omega) (Or.inl rfl)) 96 (p + 1) 3 (by omega) (Or.inl ⟨rfl, c3⟩)
                cases hL : tx_L T n (tx_V T n (tx_m T n) g (d + 1)) 125 96 (p + 1) with
                | none => rw [hL] at h2; exact hM.trans h2
                | some q => rw [hL] at h2; exact ⟨hM.trans h2.1, by have := h2.2.1; omega, h2.2.2⟩
          · rw [if_neg (fun z => c4 z.2)]
            rw [if_neg (by omega), if_neg c1] at hM
            cases hS : tx_m T n p with
            | none => rw [hS] at hM; exact hM
            | some q =>
              rw [hS] at hM
              obtain ⟨b1, b2, -⟩ := tx_m_some hS
              simp only at hM
              rw [if_pos b1] at hM
              exact ⟨hM, b1, b2⟩
    · rw [if_neg (fun z => hp z.1), if_neg (fun z => hp z.1), if_neg (fun z => hp z.1)]
      have : tx_m T n p = none := by
        rw [tx_m, if_pos (Or.inl (by rw [tx_A, if_neg (fun z => hp z.1)]))]
      rw [this]
      show tx_M T n stk s p = false
      rw [tx_M.eq_def T n stk s p, if_neg hp]
      simp
      omega
theorem tx_whole (hn : n ≤ 96) (h0 : T 0 = 123) : tx_M T n [] 0 0 = true ↔ tx_V T n (tx_n T n) 7 0 0 = some n := by
  have hR : tx_V T n (tx_n T n) 7 0 0 = tx_V T n (tx_m T n) 7 0 0 := by
    rcases tx_R_V (T := T) (n := n) 7 0 0 with e | ⟨e1, e, e2, e3, e4, e5⟩
    · exact e
    · rw [tx_V, if_neg (by omega), if_neg (by omega)] at e1 e2
      by_cases c : 0 < n ∧ T 0 = 123
      · rw [if_pos c, tx_P] at e1 e2
        rw [tx_R_L (tx_R_V 6 1) (Or.inr rfl)] at e2
        rw [e1] at e2
        cases e2
      · rw [if_neg c, tx_n, if_neg (by omega)] at e2
        cases e2
  rw [hR]
  have h := tx_val (T := T) hn 7 0 0 0 [] rfl rfl (by decide) (Or.inl rfl)
  cases hV : tx_V T n (tx_m T n) 7 0 0 with
  | none =>
    rw [hV] at h
    have h : tx_M T n [] 0 0 = false := h
    rw [h]
    simp
  | some q =>
    rw [hV] at h
    obtain ⟨a1, a2, a3⟩ := h
    rw [a1]
    by_cases hq : q < n
    · have : tx_M T n [] 1 q = false := by
        rw [tx_M, if_pos hq]
        split
        · rfl
        · rw [if_pos rfl]
          split <;> rfl
      rw [this]
      simp
      omega
    · have : tx_M T n [] 1 q = true := by
        rw [tx_M, if_neg hq]
        simp
      rw [this]
      simp
      omega
end TXM
