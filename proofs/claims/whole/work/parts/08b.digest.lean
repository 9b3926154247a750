def cd_dg (d c : Nat) : Nat := (263 * d + c) % 2147483647
theorem cd_dg_lt (d c : Nat) : cd_dg d c < 2147483647 := Nat.mod_lt _ (by decide)
theorem cd_dg_int {d c : Nat} (hd : d < 2147483647) (hc : c < 2 ^ 31) : ((263 * lN d) + (nI c).toInt64) - ((263 * lN d) + (nI c).toInt64) / 2147483647 * 2147483647 = lN (cd_dg d c) := by
  have e1 : (263 : Int64) = lN 263 := by decide
  have e2 : (2147483647 : Int64) = lN 2147483647 := by decide
  rw [e1, e2, nI_l hc, lN_mul, lN_add]
  exact pk_lRem (by omega) (by decide) (by decide)
def cd_dec : Nat → Nat → List Nat
  | 0, _ => []
  | f + 1, n => if n < 10 then [n] else cd_dec f (n / 10) ++ [n % 10]
def cd_put (d : Nat) (l : List Nat) : Nat := l.foldl (fun a c => cd_dg a (48 + c)) d
theorem cd_put_app (d : Nat) (l m : List Nat) : cd_put d (l ++ m) = cd_put (cd_put d l) m := List.foldl_append
theorem cd_put_lt {d : Nat} (hd : d < 2147483647) (l : List Nat) : cd_put d l < 2147483647 := by
  induction l generalizing d with
  | nil => exact hd
  | cons c l ih => exact ih (cd_dg_lt _ _)
def cd_num (d n : Nat) : Nat := cd_put d (cd_dec 12 n)
theorem cd_dec_fuel : ∀ (f n : Nat), n < 10 ^ f → cd_dec (f + 1) n = cd_dec f n ∨ f = 0 := by
  intro f
  induction f with
  | zero => intro n _; exact Or.inr rfl
  | succ f ih =>
    intro n hn
    left
    by_cases h : n < 10
    · simp [cd_dec, h]
    · rw [cd_dec, if_neg h]
      rw [show cd_dec (f + 1) n = cd_dec f (n / 10) ++ [n % 10] from by rw [cd_dec, if_neg h]]
      have hlt : n / 10 < 10 ^ f := by
        rw [Nat.pow_succ] at hn
        omega
      rcases ih (n / 10) hlt with e | e
      · rw [e]
      · subst e
        simp at hlt
        omega
def cd_du (n : Nat) : Nat → List Nat
  | 0 => [n % 10]
  | k + 1 => n / 10 ^ (k + 1) % 10 :: cd_du n k
theorem cd_du_app (n : Nat) : ∀ k, cd_du n (k + 1) = cd_du (n / 10) k ++ [n % 10] := by
  intro k
  induction k with
  | zero => simp [cd_du]
  | succ k ih =>
    rw [cd_du, ih, cd_du, List.cons_append]
    congr 1
    rw [Nat.div_div_eq_div_mul, Nat.pow_succ 10 (k + 1), Nat.mul_comm]
theorem cd_du_dec : ∀ (k f n : Nat), k < f → n < 10 ^ (k + 1) → (10 ^ k ≤ n ∨ k = 0) → cd_du n k = cd_dec f n := by
  intro k
  induction k with
  | zero =>
    intro f n hf hn _
    obtain ⟨f, rfl⟩ : ∃ g, f = g + 1 := ⟨f - 1, by omega⟩
    have h10 : n < 10 := by simpa using hn
    simp [cd_du, cd_dec, h10, Nat.mod_eq_of_lt h10]
  | succ k ih =>
    intro f n hf hn hk
    obtain ⟨f, rfl⟩ : ∃ g, f = g + 1 := ⟨f - 1, by omega⟩
    have hk : 10 ^ (k + 1) ≤ n := by
      rcases hk with z | z
      · exact z
      · omega
    have h1 : 1 ≤ 10 ^ k := Nat.one_le_pow _ _ (by decide)
    rw [Nat.pow_succ] at hk
    have h10 : ¬ n < 10 := by omega
    rw [cd_du_app, cd_dec, if_neg h10]
    rw [ih f (n / 10) (by omega) (by rw [Nat.pow_succ] at hn; omega) (Or.inl (by omega))]
def cd_numI (d : Nat) (x : Int32) : Nat := if x < 0 then cd_num (cd_dg d 45) x.toInt.natAbs else cd_num d x.toInt.natAbs
theorem cd_numI_nI (d : Nat) {n : Nat} (h : n < 2 ^ 31) : cd_numI d (nI n) = cd_num d n := by
  rw [cd_numI, if_neg (nI_pos h), nI_toInt h]
  rfl
theorem cd_i32_range (x : Int32) : -2147483648 ≤ x.toInt ∧ x.toInt < 2147483648 := by
  have h1 := Int32.le_toInt x
  have h2 := Int32.toInt_lt x
  constructor <;> omega
theorem cd_l_pos {x : Int32} (h : ¬ x < 0) : x.toInt64 = lN x.toInt.natAbs ∧ x.toInt.natAbs < 2 ^ 31 := by
  obtain ⟨j, hj, rfl⟩ := nI_of h
  rw [nI_toInt hj]
  exact ⟨nI_l hj, hj⟩
theorem cd_l_neg {x : Int32} (h : x < 0) : -x.toInt64 = lN x.toInt.natAbs ∧ x.toInt.natAbs ≤ 2 ^ 31 := by
  have hr := cd_i32_range x
  have h0 : x.toInt < 0 := by
    rw [Int32.lt_iff_toInt_lt] at h
    simpa using h
  have hle : x.toInt.natAbs ≤ 2 ^ 31 := by omega
  refine ⟨?_, hle⟩
  apply Int64.toInt_inj.mp
  rw [pk_lT (by omega), Int64.toInt_neg, Int32.toInt_toInt64, Int.bmod_eq_of_le (by omega) (by omega)]
  omega
theorem cd_num_lt {d : Nat} (hd : d < 2147483647) (n : Nat) : cd_num d n < 2147483647 := cd_put_lt hd _
theorem cd_numI_lt {d : Nat} (hd : d < 2147483647) (x : Int32) : cd_numI d x < 2147483647 := by
  rw [cd_numI]
  split
  · exact cd_num_lt (cd_dg_lt _ _) _
  · exact cd_num_lt hd _
