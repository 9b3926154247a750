def cd_pw (m : Nat) : Nat → Nat → Nat → Nat → Nat
  | 0, _, r, _ => r
  | f + 1, e, r, b => cond (Nat.beq e 0) r (cd_pw m f (e / 2) (cond (Nat.beq (e % 2) 1) (r * b % m) r) (b * b % m))
theorem cd_beq0 {n : Nat} (h : n ≠ 0) : Nat.beq n 0 = false := by
  cases n with
  | zero => exact absurd rfl h
  | succ n => rfl
theorem cd_pw_eq {m : Nat} (hm : 0 < m) : ∀ f e r b, e < 2 ^ f → r < m → cd_pw m f e r b = r * b ^ e % m := by
  intro f
  induction f with
  | zero =>
    intro e r b he hr
    have e0 : e = 0 := by simpa using he
    subst e0
    simp [cd_pw, Nat.mod_eq_of_lt hr]
  | succ f ih =>
    intro e r b he hr
    by_cases e0 : e = 0
    · subst e0
      simp [cd_pw, Nat.mod_eq_of_lt hr]
    · have hb0 : Nat.beq e 0 = false := cd_beq0 e0
      rw [cd_pw, hb0, cond_false]
      have he2 : e / 2 < 2 ^ f := by
        rw [Nat.pow_succ] at he
        omega
      have hsq : ∀ z : Nat, z * (b * b % m) ^ (e / 2) % m = z * (b * b) ^ (e / 2) % m := by
        intro z
        rw [Nat.mul_mod, ← Nat.pow_mod, ← Nat.mul_mod]
      have hbb : (b * b) ^ (e / 2) = b ^ (2 * (e / 2)) := by
        rw [Nat.pow_mul]
        congr 1
        exact (Nat.pow_two b).symm
      by_cases h1 : e % 2 = 1
      · have hb1 : Nat.beq (e % 2) 1 = true := by rw [h1]; rfl
        rw [hb1, cond_true, ih _ _ _ he2 (Nat.mod_lt _ hm), hsq, hbb, Nat.mod_mul_mod, Nat.mul_assoc, ← Nat.pow_succ']
        have : (2 * (e / 2)).succ = e := by omega
        rw [this]
      · have hb1 : Nat.beq (e % 2) 1 = false := by
          have : e % 2 = 0 := by omega
          rw [this]; rfl
        rw [hb1, cond_false, ih _ _ _ he2 hr, hsq, hbb]
        have : 2 * (e / 2) = e := by omega
        rw [this]
def cd_rng (f : Nat → Bool) : Nat → Nat → Bool
  | 0, lo => f lo
  | k + 1, lo => cd_rng f k lo && cd_rng f k (lo + 2 ^ k)
theorem cd_rng_spec (f : Nat → Bool) : ∀ k lo, cd_rng f k lo = true → ∀ a, lo ≤ a → a < lo + 2 ^ k → f a = true := by
  intro k
  induction k with
  | zero =>
    intro lo h a h1 h2
    have : a = lo := by simp at h2; omega
    subst this
    exact h
  | succ k ih =>
    intro lo h a h1 h2
    rw [cd_rng, Bool.and_eq_true] at h
    rw [Nat.pow_succ] at h2
    by_cases h3 : a < lo + 2 ^ k
    · exact ih lo h.1 a h1 h3
    · exact ih (lo + 2 ^ k) h.2 a (by omega) (by omega)
def cd_ft (p a : Nat) : Bool := Nat.beq a 0 || Nat.ble p a || Nat.beq (cd_pw p 15 (p - 1) 1 a) 1
theorem cd_ferm {p k : Nat} (hp : 1 < p) (hp2 : p ≤ 2 ^ k) (hp3 : p - 1 < 2 ^ 15) (h : cd_rng (cd_ft p) k 0 = true) (a : Nat) (ha : a % p ≠ 0) : a ^ (p - 1) % p = 1 := by
  have hlt : a % p < p := Nat.mod_lt _ (by omega)
  have h1 := cd_rng_spec _ k 0 h (a % p) (Nat.zero_le _) (by omega)
  have h2 : Nat.beq (cd_pw p 15 (p - 1) 1 (a % p)) 1 = true := by
    unfold cd_ft at h1
    have e1 : Nat.beq (a % p) 0 = false := cd_beq0 ha
    have e2 : Nat.ble p (a % p) = false := by
      cases hb : Nat.ble p (a % p) with
      | false => rfl
      | true => exact absurd (Nat.le_of_ble_eq_true hb) (by omega)
    rw [e1, e2] at h1
    simpa using h1
  have h3 := Nat.eq_of_beq_eq_true h2
  rw [cd_pw_eq (by omega) _ _ _ _ hp3 hp, Nat.one_mul, ← Nat.pow_mod] at h3
  exact h3
theorem cd_pow_same {p : Nat} (hp : 1 < p) (hF : ∀ a : Nat, a % p ≠ 0 → a ^ (p - 1) % p = 1) {e f : Nat} (he : 0 < e) (hf : 0 < f) (hef : e % (p - 1) = f % (p - 1)) (a : Nat) : a ^ e % p = a ^ f % p := by
  have key : ∀ g : Nat, a % p ≠ 0 → a ^ g % p = a ^ (g % (p - 1)) % p := by
    intro g ha
    have h1 : a ^ g = (a ^ (p - 1)) ^ (g / (p - 1)) * a ^ (g % (p - 1)) := by
      rw [← Nat.pow_mul, ← Nat.pow_add, Nat.div_add_mod]
    rw [h1, Nat.mul_mod, Nat.pow_mod, hF a ha, Nat.one_pow, Nat.mod_eq_of_lt hp, Nat.one_mul, Nat.mod_mod]
  by_cases ha : a % p = 0
  · have z : ∀ g : Nat, 0 < g → a ^ g % p = 0 := by
      intro g hg
      rw [Nat.pow_mod, ha, Nat.zero_pow hg, Nat.zero_mod]
    rw [z e he, z f hf]
  · rw [key e ha, key f ha, hef]
theorem cd_inv_same {n x e f : Nat} (he : e * x % n = 1 % n) (hf : f * x % n = 1 % n) : e % n = f % n := by
  have h1 : e * (f * x) % n = e % n := by
    rw [Nat.mul_mod, hf, ← Nat.mul_mod, Nat.mul_one]
  have h2 : f * (e * x) % n = f % n := by
    rw [Nat.mul_mod, he, ← Nat.mul_mod, Nat.mul_one]
  have h3 : e * (f * x) = f * (e * x) := by
    rw [← Nat.mul_assoc, ← Nat.mul_assoc, Nat.mul_comm e f]
  rw [← h1, ← h2, h3]
theorem cd_crt_first {p q u y n : Nat} (hp : 1 < p) (hu : q * u % p = 1) (hn : n < y / q) (hy : y / q < p) : (y % q + n * q) % p ≠ y % p := by
  intro h
  have e1 : y = y % q + y / q * q := by
    rw [Nat.mul_comm]
    exact (Nat.mod_add_div y q).symm
  have e2 : (y % q + y / q * q) % p = (y % q + n * q) % p := by rw [h, ← e1]
  have e3 : p ∣ (y % q + y / q * q) - (y % q + n * q) := Nat.dvd_of_mod_eq_zero (Nat.sub_mod_eq_zero_of_mod_eq e2)
  have e4 : (y % q + y / q * q) - (y % q + n * q) = (y / q - n) * q := by
    rw [Nat.sub_mul]
    omega
  rw [e4] at e3
  obtain ⟨c, hc⟩ := e3
  have e5 : (y / q - n) * (q * u) % p = 0 := by
    rw [← Nat.mul_assoc, hc, Nat.mul_assoc]
    exact Nat.mul_mod_right p _
  rw [Nat.mul_mod, hu, Nat.mul_one, Nat.mod_mod, Nat.mod_eq_of_lt (by omega)] at e5
  omega
theorem cd_f101 : cd_rng (cd_ft 101) 7 0 = true := by decide +kernel
theorem cd_f113 : cd_rng (cd_ft 113) 7 0 = true := by decide +kernel
theorem cd_f211 : cd_rng (cd_ft 211) 8 0 = true := by decide +kernel
theorem cd_f223 : cd_rng (cd_ft 223) 8 0 = true := by decide +kernel
theorem cd_f1009 : cd_rng (cd_ft 1009) 10 0 = true := by decide +kernel
theorem cd_f1013 : cd_rng (cd_ft 1013) 10 0 = true := by decide +kernel
