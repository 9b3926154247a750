theorem wb_tb (n : Nat) : (lN n).toBitVec = BitVec.ofNat 64 n := rfl
theorem wb_inj {a b : Int64} (h : a.toBitVec = b.toBitVec) : a = b := Int64.toBitVec_inj.mp h
theorem wb_lt2 {a b : Nat} (h : a < b) : 2 ^ a < 2 ^ b := Nat.pow_lt_pow_right (by decide) h
theorem wb_and {a b : Nat} (ha : a < 2 ^ 64) (hb : b < 2 ^ 64) : lN a &&& lN b = lN (a &&& b) := by
  apply wb_inj
  rw [Int64.toBitVec_and, wb_tb, wb_tb, wb_tb]
  apply BitVec.eq_of_toNat_eq
  rw [BitVec.toNat_and, BitVec.toNat_ofNat, BitVec.toNat_ofNat, BitVec.toNat_ofNat, Nat.mod_eq_of_lt ha, Nat.mod_eq_of_lt hb, Nat.mod_eq_of_lt (Nat.and_lt_two_pow _ hb)]
theorem wb_mask {n k : Nat} (hn : n < 2 ^ 64) (hk : k < 64) : lN n &&& lN (2 ^ k - 1) = lN (n % 2 ^ k) := by
  rw [wb_and hn (by have := wb_lt2 hk; omega), Nat.and_two_pow_sub_one_eq_mod]
theorem wb_a1 {n : Nat} (hn : n < 2 ^ 64) : lN n &&& 1 = lN (n % 2) := wb_mask (k := 1) hn (by decide)
theorem pf_lI {a : Nat} (h : a < 2 ^ 63) : (lN a).toInt = (a : Int) := lg_ofNat_toInt h
theorem pf_shr {a d : Nat} {D : Int64} (hD : (D.toBitVec.smod 64).toNat = d) (h : a < 2 ^ 62) : lN a >>> D = lN (a / 2 ^ d) := by
  have hd : a / 2 ^ d ≤ a := Nat.div_le_self _ _
  apply Int64.toInt_inj.mp
  have e : (lN a >>> D).toInt = (lN a).toInt >>> d := by
    rw [← hD]
    exact BitVec.toInt_sshiftRight ..
  rw [e, Int.shiftRight_eq_div_pow, pf_lI (by omega), pf_lI (by omega)]
  rfl
theorem cd_sh1 {a : Nat} (h : a < 2 ^ 62) : lN a >>> ((1 : Int32).toInt64 &&& 63) = lN (a / 2) := by
  have := pf_shr (d := 1) (D := (1 : Int32).toInt64 &&& 63) (by decide) h
  simpa using this
theorem cd_mulmod {a b m : Nat} (hm : m < 2 ^ 31) (ha : a < m) (hb : b < m) : (lN a * lN b) - (lN a * lN b) / lN m * lN m = lN (a * b % m) := by
  rw [lN_mul]
  have h1 : a * b ≤ m * m := Nat.mul_le_mul (Nat.le_of_lt ha) (Nat.le_of_lt hb)
  have h2 : m * m ≤ 2 ^ 31 * 2 ^ 31 := Nat.mul_le_mul (Nat.le_of_lt hm) (Nat.le_of_lt hm)
  exact pk_lRem (by omega) (by omega) (by omega)
section PWM
variable {X : cd_E} {kc ks : Nat} {h : cd_H} {Q : Option Value → cd_H → Prop}
theorem sp_Mod_power_15 {m : Nat} (F : cm_ok h) (hm : 1 < m) (hm2 : m < 2 ^ 31) : ∀ (f e r b : Nat), e < 2 ^ f → e < 2 ^ 31 → r < m → b < m → Q (some (.long (lN (cd_pw m f e r b)))) h → cd_W X m_Mod_power kc ks 15 [none, none, none, none, some (.long (lN m)), none, some (.long (lN r)), none, some (.long (lN b)), none, some (.long (lN e)), none] [] h Q := by
  have e0 : (0 : Int64) = lN 0 := by decide
  have e1 : (1 : Int64) = lN 1 := by decide
  have hmz : ¬ lN m = 0 := by rw [e0, pk_lEQ (by omega) (by decide)]; omega
  intro f
  induction f with
  | zero =>
    intro e r b he _ hr hb hq
    have z : e = 0 := by simpa using he
    subst z
    refine g_Mod_power_15 F ⟨fun _ => hq, fun hc => absurd ((lg_cmp_le _ _).mpr ?_) hc⟩
    rw [e0]; exact Int64.le_refl _
  | succ f ih =>
    intro e r b he he2 hr hb hq
    by_cases z : e = 0
    · subst z
      refine g_Mod_power_15 F ⟨fun _ => hq, fun hc => absurd ((lg_cmp_le _ _).mpr ?_) hc⟩
      rw [e0]; exact Int64.le_refl _
    · have hb0 : Nat.beq e 0 = false := cd_beq0 z
      rw [cd_pw, hb0, cond_false] at hq
      have hf2 : e / 2 < 2 ^ f := by rw [Nat.pow_succ] at he; omega
      refine g_Mod_power_15 F ⟨fun hc => ?_, fun _ => ⟨fun hc => ?_, fun hc => ?_⟩⟩
      · rw [lg_cmp_le, e0, pk_lLE (by omega) (by decide)] at hc
        omega
      · rw [lg_cmp_eq, wb_a1 (by omega), e1, pk_lEQ (by omega) (by decide)] at hc
        have hb1 : Nat.beq (e % 2) 1 = false := by
          have : e % 2 = 0 := by omega
          rw [this]; rfl
        rw [hb1, cond_false] at hq
        refine ⟨hmz, ?_⟩
        rw [cd_mulmod hm2 hb hb, cd_sh1 (by omega)]
        exact ih (e / 2) r (b * b % m) hf2 (by omega) hr (Nat.mod_lt _ (by omega)) hq
      · rw [lg_cmp_eq, wb_a1 (by omega), e1, pk_lEQ (by omega) (by decide)] at hc
        have hb1 : Nat.beq (e % 2) 1 = true := by rw [hc]; rfl
        rw [hb1, cond_true] at hq
        refine ⟨hmz, ?_⟩
        rw [cd_mulmod hm2 hb hb, cd_mulmod hm2 hr hb, cd_sh1 (by omega)]
        exact ih (e / 2) (r * b % m) (b * b % m) hf2 (by omega) (Nat.mod_lt _ (by omega)) (Nat.mod_lt _ (by omega)) hq
theorem sp_Mod_power {b e m : Nat} (F : cm_ok h) (hm : 1 < m) (hm2 : m < 2 ^ 31) (hb : b < 2 ^ 62) (he : e < 2 ^ 31) (hq : Q (some (.long (lN (b ^ e % m)))) h) : cd_W X m_Mod_power kc ks 0 [some (.long (lN b)), none, some (.long (lN e)), none, some (.long (lN m)), none, none, none, none, none, none, none] [] h Q := by
  have e0 : (0 : Int64) = lN 0 := by decide
  have e1 : (1 : Int64) = lN 1 := by decide
  have hmz : ¬ lN m = 0 := by rw [e0, pk_lEQ (by omega) (by decide)]; omega
  refine g_Mod_power F ⟨hmz, ?_⟩
  rw [e1, pk_lRem (by decide) (by omega) (by omega), pk_lRem (by omega) (by omega) (by omega), Nat.mod_eq_of_lt hm]
  refine sp_Mod_power_15 F hm hm2 31 e 1 (b % m) he he hm (Nat.mod_lt _ (by omega)) ?_
  rw [cd_pw_eq (by omega) _ _ _ _ he hm, Nat.one_mul, ← Nat.pow_mod]
  exact hq
theorem sp_Mod_root_10 {d x p e0 s : Nat} (F : cm_ok h) (hp : 2 < p) (hp2 : p < 32768) (hx : x < 65538) (hd : d < 2 ^ 62) (he0 : e0 < p) (hi : e0 * x % (p - 1) = 1) (hF : ∀ a : Nat, a % p ≠ 0 → a ^ (p - 1) % p = 1) (hs0 : 0 < s) (hs : s * x % (p - 1) = 1) (hq : Q (some (.long (lN (d ^ s % p)))) h) :
    ∀ (m e : Nat), e + m = e0 → 1 ≤ e → cd_W X m_Mod_root kc ks 10 [some (.long (lN d)), none, some (.int (nI x)), some (.int (nI p)), some (.int (nI e)), some (.int (nI (e * x % (p - 1))))] [] h Q := by
  have e1 : (1 : Int32) = nI 1 := by decide
  have e0L : (0 : Int64) = lN 0 := by decide
  have hpz : ¬ (nI p).toInt64 = 0 := by rw [nI_l (by omega), e0L, pk_lEQ (by omega) (by decide)]; omega
  have hone : 1 % (p - 1) = 1 := Nat.mod_eq_of_lt (by omega)
  intro m
  induction m with
  | zero =>
    intro e hem he
    have : e = e0 := by omega
    subst this
    refine g_Mod_root_10 F ⟨fun hc => ?_, fun _ => ⟨fun _ => ⟨hpz, ?_⟩, fun hc => absurd ?_ hc⟩⟩
    · rw [nI_leI (by omega) (by omega)] at hc
      omega
    · rw [nI_l (by omega), nI_l (by omega), pk_lRem (by omega) (by omega) (by omega)]
      refine sp_Mod_power F (by omega) (by omega) (by have := Nat.mod_lt d (show 0 < p by omega); omega) (by omega) ⟨_, rfl, F, ?_⟩
      rw [← Nat.pow_mod, cd_pow_same (by omega) hF (by omega) hs0 (cd_inv_same (hi.trans hone.symm) (hs.trans hone.symm)) d]
      exact hq
    · rw [hi, e1]
  | succ m ih =>
    intro e hem he
    refine g_Mod_root_10 F ⟨fun hc => ?_, fun _ => ⟨fun hc => ⟨hpz, ?_⟩, fun _ => ⟨?_, ?_⟩⟩⟩
    · rw [nI_leI (by omega) (by omega)] at hc
      omega
    · rw [e1, nI_eq (by have := Nat.mod_lt (e * x) (show 0 < p - 1 by omega); omega) (by decide)] at hc
      rw [nI_l (by omega), nI_l (by omega), pk_lRem (by omega) (by omega) (by omega)]
      refine sp_Mod_power F (by omega) (by omega) (by have := Nat.mod_lt d (show 0 < p by omega); omega) (by omega) ⟨_, rfl, F, ?_⟩
      rw [← Nat.pow_mod, cd_pow_same (by omega) hF (by omega) hs0 (cd_inv_same (hc.trans hone.symm) (hs.trans hone.symm)) d]
      exact hq
    · rw [e1, pk_sub (by omega), show (0 : Int32) = nI 0 from by decide, nI_eq (by omega) (by decide)]
      omega
    · have hr := Nat.mod_lt (e * x) (show 0 < p - 1 by omega)
      rw [nI_1, nI_add, e1, pk_sub (by omega), pk_rem (by omega) (by omega) (by omega)]
      have e2 : (e * x % (p - 1) + x) % (p - 1) = (e + 1) * x % (p - 1) := by
        rw [Nat.mod_add_mod, Nat.succ_mul]
      rw [e2]
      exact ih (e + 1) (by omega) (by omega)
def cd_kok (p q x s : Nat) : Prop := (2 < p ∧ 2 < q ∧ p < 32768 ∧ q < 32768 ∧ x < 65538 ∧ 0 < s ∧ s < 2 ^ 31) ∧ p * q < 2 ^ 31 ∧ s * x % (p - 1) = 1 ∧ s * x % (q - 1) = 1 ∧ (∃ u, q * u % p = 1) ∧ (∀ a : Nat, a % p ≠ 0 → a ^ (p - 1) % p = 1) ∧ ∀ a : Nat, a % q ≠ 0 → a ^ (q - 1) % q = 1
theorem sp_Mod_root {d x p s : Nat} (F : cm_ok h) (hp : 2 < p) (hp2 : p < 32768) (hx : x < 65538) (hd : d < 2 ^ 62) (hF : ∀ a : Nat, a % p ≠ 0 → a ^ (p - 1) % p = 1) (hs0 : 0 < s) (hs : s * x % (p - 1) = 1) (hq : Q (some (.long (lN (d ^ s % p)))) h) : cd_W X m_Mod_root kc ks 0 [some (.long (lN d)), none, some (.int (nI x)), some (.int (nI p)), none, none] [] h Q := by
  have e1 : (1 : Int32) = nI 1 := by decide
  have hlt := Nat.mod_lt s (show 0 < p - 1 by omega)
  have hi : s % (p - 1) * x % (p - 1) = 1 := by rw [Nat.mod_mul_mod]; exact hs
  have h1 : 1 ≤ s % (p - 1) := by
    rcases Nat.eq_zero_or_pos (s % (p - 1)) with z | z
    · rw [z, Nat.zero_mul, Nat.zero_mod] at hi
      omega
    · exact z
  refine g_Mod_root F ⟨?_, ?_⟩
  · rw [e1, pk_sub (by omega), show (0 : Int32) = nI 0 from by decide, nI_eq (by omega) (by decide)]
    omega
  · rw [e1, pk_sub (by omega), pk_rem (by omega) (by omega) (by omega)]
    have e3 : nI (x % (p - 1)) = nI (1 * x % (p - 1)) := by rw [Nat.one_mul]
    rw [e3]
    exact sp_Mod_root_10 F hp hp2 hx hd (by omega) hi hF hs0 hs hq (s % (p - 1) - 1) 1 (by omega) (Nat.le_refl _)
theorem sp_Mod_sign_39 {k p q y : Nat} (F : cm_ok h) (hk : k < 5) (hP : cd_i h 85 k = nI p) (hQ : cd_i h 86 k = nI q) (hp : 2 < p) (hp2 : p < 32768) (hq0 : 2 < q) (hq2 : q < 32768) (hu : ∃ u, q * u % p = 1) (hy : y < p * q) (hy2 : p * q < 2 ^ 31) (hq : Q (some (.int (nI y))) h) :
    ∀ (m n : Nat), n + m = y / q → cd_W X m_Mod_sign kc ks 39 [some (.ref 82), none, none, some (.int (nI k)), some (.long (lN (y % p))), none, some (.long (lN (y % q + n * q))), none, some (.int (nI n))] [] h Q := by
  obtain ⟨u, hu⟩ := hu
  have hyq : y / q < p := Nat.div_lt_of_lt_mul (by rw [Nat.mul_comm]; exact hy)
  have hyd : y % q + y / q * q = y := by rw [Nat.mul_comm]; exact Nat.mod_add_div y q
  have hpz : ¬ (nI p).toInt64 = 0 := by rw [nI_l (by omega), show (0 : Int64) = lN 0 from by decide, pk_lEQ (by omega) (by decide)]; omega
  have hypl := Nat.mod_lt y (show 0 < p by omega)
  intro m
  induction m with
  | zero =>
    intro n hn
    have hn : n = y / q := by omega
    subst hn
    rw [hyd]
    refine g_Mod_sign_39 F ⟨vp_in_nI hk (by decide), ?_⟩
    rw [nI_clamp (by omega), hP, hQ]
    refine ⟨fun hc => ?_, fun _ => ⟨hpz, ⟨fun _ => ?_, fun hc => absurd ?_ hc⟩⟩⟩
    · rw [nI_leI (by omega) (by omega)] at hc
      omega
    · rw [lN_i]; exact hq
    · rw [lg_cmp_eq, nI_l (by omega), pk_lRem (by omega) (by omega) (by omega)]
  | succ m ih =>
    intro n hn
    have hnq : n * q ≤ y / q * q := Nat.mul_le_mul_right q (by omega)
    refine g_Mod_sign_39 F ⟨vp_in_nI hk (by decide), ?_⟩
    rw [nI_clamp (by omega), hP, hQ]
    refine ⟨fun hc => ?_, fun _ => ⟨hpz, ⟨fun hc => ?_, fun _ => ?_⟩⟩⟩
    · rw [nI_leI (by omega) (by omega)] at hc
      omega
    · exfalso
      have hlt := Nat.mod_lt (y % q + n * q) (show 0 < p by omega)
      rw [lg_cmp_eq, nI_l (by omega), pk_lRem (by omega) (by omega) (by omega), pk_lEQ (by omega) (by omega)] at hc
      exact cd_crt_first (by omega) hu (by omega) hyq hc
    · rw [nI_l (by omega), lN_add, nI_1]
      have e2 : y % q + n * q + q = y % q + (n + 1) * q := by rw [Nat.succ_mul]; omega
      rw [e2]
      exact ih (n + 1) (by omega)
theorem sp_Mod_sign {d k p q x s : Nat} (F : cm_ok h) (hk : k < 5) (hP : cd_i h 85 k = nI p) (hQ : cd_i h 86 k = nI q) (hX : cd_i h 87 k = nI x) (K : cd_kok p q x s) (hd : d < 2 ^ 62) (hq : Q (some (.int (nI (d ^ s % (p * q))))) h) : cd_W X m_Mod_sign kc ks 0 [some (.ref 82), some (.long (lN d)), none, some (.int (nI k)), none, none, none, none, none] [] h Q := by
  obtain ⟨⟨a1, a2, a3, a4, a5, a6, a7⟩, a8, a9, a10, a11, a12, a13⟩ := K
  refine g_Mod_sign F ⟨vp_in_nI hk (by decide), ?_⟩
  rw [nI_clamp (by omega), hP, hX]
  refine sp_Mod_root F a1 a3 a5 hd a12 a6 a9 ⟨_, rfl, F, ?_⟩
  rw [hQ, hX]
  refine sp_Mod_root F a2 a4 a5 hd a13 a6 a10 ⟨_, rfl, F, ?_⟩
  have hpq : 0 < p * q := Nat.mul_pos (by omega) (by omega)
  have e1 : d ^ s % p = d ^ s % (p * q) % p := (Nat.mod_mul_right_mod _ _ _).symm
  have e2 : d ^ s % q = d ^ s % (p * q) % q + 0 * q := by rw [Nat.zero_mul, Nat.add_zero, Nat.mod_mul_left_mod]
  rw [e1, e2, show (0 : Int32) = nI 0 from by decide]
  exact sp_Mod_sign_39 F hk hP hQ a1 a3 a2 a4 a11 (Nat.mod_lt _ hpq) a8 hq (d ^ s % (p * q) / q) 0 (by omega)
end PWM
