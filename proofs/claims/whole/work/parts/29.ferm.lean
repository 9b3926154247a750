def cd_sq (a q : Nat) : Bool := Nat.beq (a % q) 0 && Nat.ble (q + 1) a
def cd_sm (a : Nat) : Bool := cd_sq a 2 || cd_sq a 3 || cd_sq a 5 || cd_sq a 7 || cd_sq a 11 || cd_sq a 13 || cd_sq a 17 || cd_sq a 19
def cd_fs (p a : Nat) : Bool := Nat.ble p a || cd_sm a || cd_ft p a
theorem cd_sq_spec {a q : Nat} (hq : 1 < q) (h : cd_sq a q = true) : ∃ q, 1 < q ∧ q < a ∧ a % q = 0 := by
  unfold cd_sq at h
  rw [Bool.and_eq_true] at h
  exact ⟨q, hq, Nat.le_of_ble_eq_true h.2, Nat.eq_of_beq_eq_true h.1⟩
theorem cd_sm_spec {a : Nat} (h : cd_sm a = true) : ∃ q, 1 < q ∧ q < a ∧ a % q = 0 := by
  unfold cd_sm at h
  simp only [Bool.or_eq_true] at h
  rcases h with ((((((h | h) | h) | h) | h) | h) | h) | h
  · exact cd_sq_spec (by decide) h
  · exact cd_sq_spec (by decide) h
  · exact cd_sq_spec (by decide) h
  · exact cd_sq_spec (by decide) h
  · exact cd_sq_spec (by decide) h
  · exact cd_sq_spec (by decide) h
  · exact cd_sq_spec (by decide) h
  · exact cd_sq_spec (by decide) h
theorem cd_fermL {p k : Nat} (hp : 1 < p) (hp2 : p ≤ 2 ^ k) (hp3 : p - 1 < 2 ^ 15) (h : cd_rng (cd_fs p) k 0 = true) : ∀ (m a : Nat), a ≤ m → 0 < a → a < p → a ^ (p - 1) % p = 1 := by
  intro m
  induction m with
  | zero => intro a h1 h2; omega
  | succ m ih =>
    intro a hm h0 hlt
    have h1 := cd_rng_spec _ k 0 h a (Nat.zero_le _) (by omega)
    unfold cd_fs at h1
    rw [Bool.or_eq_true, Bool.or_eq_true] at h1
    rcases h1 with (h1 | h1) | h1
    · have := Nat.le_of_ble_eq_true h1
      omega
    · obtain ⟨q, q1, q2, q3⟩ := cd_sm_spec h1
      have e : a = q * (a / q) := by
        have := Nat.div_add_mod a q
        omega
      have hr0 : 0 < a / q := Nat.div_pos (by omega) (by omega)
      have hr1 : a / q < a := Nat.div_lt_self h0 q1
      have i1 := ih q (by omega) (by omega) (by omega)
      have i2 := ih (a / q) (by omega) hr0 (by omega)
      rw [e, Nat.mul_pow, Nat.mul_mod, i1, i2]
      exact Nat.mod_eq_of_lt hp
    · have h2 : Nat.beq (cd_pw p 15 (p - 1) 1 a) 1 = true := by
        unfold cd_ft at h1
        have e1 : Nat.beq a 0 = false := cd_beq0 (by omega)
        have e2 : Nat.ble p a = false := by
          cases hb : Nat.ble p a with
          | false => rfl
          | true => exact absurd (Nat.le_of_ble_eq_true hb) (by omega)
        rw [e1, e2] at h1
        simpa using h1
      have h3 := Nat.eq_of_beq_eq_true h2
      rw [cd_pw_eq (by omega) _ _ _ _ hp3 hp, Nat.one_mul] at h3
      exact h3
theorem cd_fermS {p k : Nat} (hp : 1 < p) (hp2 : p ≤ 2 ^ k) (hp3 : p - 1 < 2 ^ 15) (h : cd_rng (cd_fs p) k 0 = true) (a : Nat) (ha : a % p ≠ 0) : a ^ (p - 1) % p = 1 := by
  rw [Nat.pow_mod]
  exact cd_fermL hp hp2 hp3 h (a % p) (a % p) (Nat.le_refl _) (by omega) (Nat.mod_lt _ (by omega))
theorem cd_f10007 : cd_rng (cd_fs 10007) 14 0 = true := by decide +kernel
theorem cd_f10009 : cd_rng (cd_fs 10009) 14 0 = true := by decide +kernel
