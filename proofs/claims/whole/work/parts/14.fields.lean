section FLD
variable {T : Nat → Nat} {n : Nat}
theorem tx_L_mono {V W : Nat → Option Nat} (hVW : ∀ p e, V p = some e → W p = some e) {last : Nat} : ∀ k k' p e, k ≤ k' → tx_L T n V last k p = some e → tx_L T n W last k' p = some e := by
  intro k
  induction k with
  | zero => intro k' p e _ h; cases h
  | succ k ih =>
    intro k' p e hk h
    obtain ⟨j, rfl⟩ : ∃ j, k' = j + 1 := ⟨k' - 1, by omega⟩
    rw [tx_L] at h ⊢
    generalize (if last = 125 then (match tx_s T n p with | some c => if c < n ∧ T c = 58 then some (c + 1) else none | none => none) else some p) = o at h ⊢
    cases o with
    | none => cases h
    | some v =>
      simp only at h ⊢
      cases hv : V v with
      | none => rw [hv] at h; cases h
      | some x =>
        rw [hv] at h
        rw [hVW v x hv]
        simp only at h ⊢
        by_cases c1 : x < n ∧ T x = last
        · rw [if_pos c1] at h ⊢; exact h
        · rw [if_neg c1] at h ⊢
          by_cases c2 : x < n ∧ T x = 44
          · rw [if_pos c2] at h ⊢
            exact ih j (x + 1) e (by omega) h
          · rw [if_neg c2] at h
            cases h
theorem tx_P_mono {V W : Nat → Option Nat} (hVW : ∀ p e, V p = some e → W p = some e) {last d d' p e : Nat} (hd : d' ≤ d) (h : tx_P T n V last d p = some e) : tx_P T n W last d' p = some e := by
  rw [tx_P] at h ⊢
  by_cases c0 : 4 < d
  · rw [if_pos c0] at h; cases h
  · rw [if_neg c0] at h
    rw [if_neg (by omega)]
    by_cases c1 : p + 1 < n ∧ T (p + 1) = last
    · rw [if_pos c1] at h ⊢; exact h
    · rw [if_neg c1] at h ⊢
      exact tx_L_mono hVW 96 96 _ _ (Nat.le_refl _) h
theorem tx_V_mono {N : Nat → Option Nat} : ∀ f f' d d' p e, f ≤ f' → d' ≤ d → tx_V T n N f d p = some e → tx_V T n N f' d' p = some e := by
  intro f
  induction f with
  | zero => intro f' d d' p e _ _ h; cases h
  | succ f ih =>
    intro f' d d' p e hf hd h
    obtain ⟨j, rfl⟩ : ∃ j, f' = j + 1 := ⟨f' - 1, by omega⟩
    have hm : ∀ q x, tx_V T n N f (d + 1) q = some x → tx_V T n N j (d' + 1) q = some x := fun q x hq => ih j (d + 1) (d' + 1) q x (by omega) (by omega) hq
    rw [tx_V] at h ⊢
    by_cases c1 : p < n ∧ T p = 34
    · rw [if_pos c1] at h ⊢; exact h
    · rw [if_neg c1] at h ⊢
      by_cases c2 : p < n ∧ T p = 91
      · rw [if_pos c2] at h ⊢
        exact tx_P_mono hm (by omega) h
      · rw [if_neg c2] at h ⊢
        by_cases c3 : p < n ∧ T p = 123
        · rw [if_pos c3] at h ⊢
          exact tx_P_mono hm (by omega) h
        · rw [if_neg c3] at h ⊢
          exact h
def tx_W (T : Nat → Nat) (n p : Nat) : Option Nat := tx_V T n (tx_m T n) 7 0 p
theorem tx_W_n {p e : Nat} (h : tx_W T n p = some e) : tx_V T n (tx_n T n) 7 0 p = some e := by
  rcases tx_R_V (T := T) (n := n) 7 0 p with h1 | ⟨h1, _⟩
  · rw [h1]; exact h
  · rw [tx_W] at h; rw [h1] at h; cases h
theorem tx_W_up {q x : Nat} (h : tx_V T n (tx_m T n) 6 1 q = some x) : tx_W T n q = some x := tx_V_mono 6 7 1 0 q x (by decide) (by decide) h
theorem tx_W_str {p e : Nat} (h : tx_W T n p = some e) (hp : p < n) (hT : T p = 34) : tx_s T n p = some e := by
  rw [tx_W, tx_V, if_pos ⟨hp, hT⟩] at h
  exact h
theorem tx_W_P {V : Nat → Option Nat} {last p e : Nat} (h : tx_P T n V last 1 p = some e) (hV : ∀ q x, V q = some x → tx_W T n q = some x) : (p + 1 < n ∧ T (p + 1) = last ∧ e = p + 2) ∨ (¬ (p + 1 < n ∧ T (p + 1) = last) ∧ tx_L T n (tx_W T n) last 96 (p + 1) = some e) := by
  rw [tx_P, if_neg (by decide)] at h
  by_cases c1 : p + 1 < n ∧ T (p + 1) = last
  · rw [if_pos c1] at h
    cases h
    exact Or.inl ⟨c1.1, c1.2, rfl⟩
  · rw [if_neg c1] at h
    exact Or.inr ⟨c1, tx_L_mono hV 96 96 _ _ (Nat.le_refl _) h⟩
theorem tx_W_arr {p e : Nat} (h : tx_W T n p = some e) (hp : p < n) (hT : T p = 91) : (p + 1 < n ∧ T (p + 1) = 93 ∧ e = p + 2) ∨ (¬ (p + 1 < n ∧ T (p + 1) = 93) ∧ tx_L T n (tx_W T n) 93 96 (p + 1) = some e) := by
  rw [tx_W, tx_V, if_neg (by omega), if_pos ⟨hp, hT⟩] at h
  exact tx_W_P h (fun q x hq => tx_W_up hq)
theorem tx_W_obj {p e : Nat} (h : tx_W T n p = some e) (hp : p < n) (hT : T p = 123) : (p + 1 < n ∧ T (p + 1) = 125 ∧ e = p + 2) ∨ (¬ (p + 1 < n ∧ T (p + 1) = 125) ∧ tx_L T n (tx_W T n) 125 96 (p + 1) = some e) := by
  rw [tx_W, tx_V, if_neg (by omega), if_neg (by omega), if_pos ⟨hp, hT⟩] at h
  exact tx_W_P h (fun q x hq => tx_W_up hq)
theorem tx_W_num {p e : Nat} (h : tx_W T n p = some e) (h1 : ¬ (p < n ∧ T p = 34)) (h2 : ¬ (p < n ∧ T p = 91)) (h3 : ¬ (p < n ∧ T p = 123)) : tx_m T n p = some e := by
  rw [tx_W, tx_V, if_neg h1, if_neg h2, if_neg h3] at h
  exact h
theorem tx_L_obj {W : Nat → Option Nat} {k p e0 : Nat} (h : tx_L T n W 125 (k + 1) p = some e0) : ∃ c x, tx_s T n p = some c ∧ c < n ∧ T c = 58 ∧ W (c + 1) = some x ∧ x < n ∧ ((T x = 125 ∧ e0 = x + 1) ∨ (T x = 44 ∧ tx_L T n W 125 k (x + 1) = some e0)) := by
  rw [tx_L, if_pos rfl] at h
  cases hs : tx_s T n p with
  | none => rw [hs] at h; cases h
  | some c =>
    rw [hs] at h
    simp only at h
    by_cases c1 : c < n ∧ T c = 58
    · rw [if_pos c1] at h
      simp only at h
      cases hw : W (c + 1) with
      | none => rw [hw] at h; cases h
      | some x =>
        rw [hw] at h
        simp only at h
        by_cases c2 : x < n ∧ T x = 125
        · rw [if_pos c2] at h
          cases h
          exact ⟨c, x, rfl, c1.1, c1.2, hw, c2.1, Or.inl ⟨c2.2, rfl⟩⟩
        · rw [if_neg c2] at h
          by_cases c3 : x < n ∧ T x = 44
          · rw [if_pos c3] at h
            exact ⟨c, x, rfl, c1.1, c1.2, hw, c3.1, Or.inr ⟨c3.2, h⟩⟩
          · rw [if_neg c3] at h; cases h
    · rw [if_neg c1] at h; cases h
theorem tx_L_arr {W : Nat → Option Nat} {k p e0 : Nat} (h : tx_L T n W 93 (k + 1) p = some e0) : ∃ x, W p = some x ∧ x < n ∧ ((T x = 93 ∧ e0 = x + 1) ∨ (T x = 44 ∧ tx_L T n W 93 k (x + 1) = some e0)) := by
  rw [tx_L, if_neg (by decide)] at h
  simp only at h
  cases hw : W p with
  | none => rw [hw] at h; cases h
  | some x =>
    rw [hw] at h
    simp only at h
    by_cases c2 : x < n ∧ T x = 93
    · rw [if_pos c2] at h
      cases h
      exact ⟨x, rfl, c2.1, Or.inl ⟨c2.2, rfl⟩⟩
    · rw [if_neg c2] at h
      by_cases c3 : x < n ∧ T x = 44
      · rw [if_pos c3] at h
        exact ⟨x, rfl, c3.1, Or.inr ⟨c3.2, h⟩⟩
      · rw [if_neg c3] at h; cases h
theorem tx_W_lt {p e : Nat} (h : tx_W T n p = some e) : p < n ∧ e ≤ n := by
  have h2 : e ≤ n := tx_V_le (fun _ _ hq => (tx_m_some hq).2.1) h
  refine ⟨?_, h2⟩
  by_cases hp : p < n
  · exact hp
  · have := tx_m_some (tx_W_num h (by omega) (by omega) (by omega))
    omega
def tx_F (T : Nat → Nat) (n : Nat) (N : Nat → Nat) (len : Nat) : Nat → Nat → Option Nat
  | 0, _ => none
  | k + 1, p => match tx_s T n p with
    | none => none
    | some c => if c = p + len + 2 ∧ ∀ j, j < len → T (p + 1 + j) = N j then some (c + 1) else match tx_W T n (c + 1) with
      | none => none
      | some e => if e < n ∧ T e = 44 then tx_F T n N len k (e + 1) else none
def tx_f (T : Nat → Nat) (n : Nat) (N : Nat → Nat) (len : Nat) (o : Option Nat) : Option Nat := match o with
  | none => none
  | some k => if k < n ∧ T k = 123 then tx_F T n N len 96 (k + 1) else none
theorem tx_F_ok {N : Nat → Nat} {len : Nat} : ∀ k p e0 v, tx_L T n (tx_W T n) 125 k p = some e0 → tx_F T n N len k p = some v → ∃ e, tx_W T n v = some e := by
  intro k
  induction k with
  | zero => intro p e0 v _ h; cases h
  | succ k ih =>
    intro p e0 v hL h
    obtain ⟨c, x, h1, _, _, h4, _, h6⟩ := tx_L_obj hL
    rw [tx_F, h1] at h
    simp only at h
    split at h
    · cases h; exact ⟨x, h4⟩
    · rw [h4] at h
      simp only at h
      split at h
      · rename_i hc
        rcases h6 with ⟨h6, _⟩ | ⟨_, h6⟩
        · omega
        · exact ih _ _ _ h6 h
      · cases h
theorem tx_spell {N : Nat → Nat} {len p c : Nat} (hN : ∀ j, j < len → N j ≠ 34 ∧ N j ≠ 92) (hs : tx_s T n p = some c) : (c = p + len + 2 ∧ ∀ j, j < len → T (p + 1 + j) = N j) ↔ (p + 1 + len < n ∧ T (p + 1 + len) = 34 ∧ ∀ j, j < len → T (p + 1 + j) = N j) := by
  obtain ⟨a1, a2, a3, a4, a5, a6⟩ := tx_s_some hs
  constructor
  · rintro ⟨rfl, h⟩
    refine ⟨by omega, ?_, h⟩
    rw [show p + 1 + len = p + len + 2 - 1 by omega]
    exact a5
  · rintro ⟨h1, h2, h3⟩
    refine ⟨?_, h3⟩
    by_cases hlt : p + 1 + len < c - 1
    · exact absurd h2 (a6 (p + 1 + len) (by omega) hlt).1
    · by_cases hgt : c - 1 < p + 1 + len
      · have := h3 (c - 1 - (p + 1)) (by omega)
        rw [show p + 1 + (c - 1 - (p + 1)) = c - 1 by omega, a5] at this
        exact absurd this.symm (hN (c - 1 - (p + 1)) (by omega)).1
      · omega
def tx_k (T : Nat → Nat) (a : Nat) : Nat → Nat
  | 0 => 0
  | m + 1 => tx_k T a m * 128 + T (a + m)
theorem tx_k_inj {T N : Nat → Nat} {a b : Nat} : ∀ m m', (∀ j, j < m → 0 < T (a + j) ∧ T (a + j) < 128) → (∀ j, j < m' → 0 < N (b + j) ∧ N (b + j) < 128) → (tx_k T a m = tx_k N b m' ↔ m = m' ∧ ∀ j, j < m → T (a + j) = N (b + j)) := by
  intro m
  induction m with
  | zero =>
    intro m' h1 h2
    cases m' with
    | zero => exact ⟨fun _ => ⟨rfl, fun j hj => by omega⟩, fun _ => rfl⟩
    | succ m' =>
      have := h2 m' (by omega)
      constructor
      · intro h
        rw [tx_k, tx_k] at h
        omega
      · intro h; omega
  | succ m ih =>
    intro m' h1 h2
    cases m' with
    | zero =>
      have := h1 m (by omega)
      constructor
      · intro h
        rw [tx_k, tx_k] at h
        omega
      · intro h; omega
    | succ m' =>
      have t1 := h1 m (by omega)
      have t2 := h2 m' (by omega)
      have hi := ih m' (fun j hj => h1 j (by omega)) (fun j hj => h2 j (by omega))
      rw [tx_k, tx_k]
      constructor
      · intro h
        have e1 : tx_k T a m = tx_k N b m' := by omega
        obtain ⟨rfl, e2⟩ := hi.mp e1
        refine ⟨rfl, fun j hj => ?_⟩
        by_cases hj2 : j = m
        · subst hj2; omega
        · exact e2 j (by omega)
      · rintro ⟨h, e2⟩
        have hmm : m = m' := by omega
        subst hmm
        rw [hi.mpr ⟨rfl, fun j hj => e2 j (by omega)⟩, e2 m (by omega)]
theorem tx_k_lt {T : Nat → Nat} {a : Nat} : ∀ m, (∀ j, j < m → T (a + j) < 128) → tx_k T a m < 128 ^ m := by
  intro m
  induction m with
  | zero => intro _; simp [tx_k]
  | succ m ih =>
    intro h
    have h1 := ih (fun j hj => h j (by omega))
    have h2 := h m (by omega)
    rw [tx_k, Nat.pow_succ]
    omega
end FLD
