section CDG1
variable {X : cd_E} {kc ks : Nat} {h : cd_H} {Q : Option Value → cd_H → Prop}
theorem sp_Dig_with {d c : Nat} (F : cc_ok h) (hd : d < 2147483647) (hc : c < 2 ^ 31) (hq : Q (some (.int (nI (cd_dg d c)))) h) : cd_W X m_Dig_with kc ks 0 [some (.int (nI d)), some (.int (nI c))] [] h Q := by
  refine g_Dig_with F ?_
  rw [nI_l (by omega), cd_dg_int hd hc, lN_i]
  exact hq
theorem sp_Dig_withNumber_69 {n : Nat} (F : cc_ok h) (hn : n < 10 ^ 10) : ∀ (k d i : Nat), k + i < 10 → d < 2147483647 → Q (some (.int (nI (cd_put d (cd_du n k))))) h → cd_W X m_Dig_withNumber kc ks 69 [none, none, some (.int (nI d)), some (.long (lN n)), none, some (.long (lN (10 ^ k))), none, some (.int (nI i))] [] h Q := by
  have e0 : (0 : Int64) = lN 0 := by decide
  have e10 : (10 : Int64) = lN 10 := by decide
  have i10 : (10 : Int32) = nI 10 := by decide
  have i48 : (48 : Int32) = nI 48 := by decide
  have step : ∀ (k d i : Nat), k + i < 10 → d < 2147483647 → cd_W X m_Dig_withNumber kc ks 69 [none, none, some (.int (nI (cd_dg d (48 + n / 10 ^ k % 10)))), some (.long (lN n)), none, some (.long (lN (10 ^ k / 10))), none, some (.int (nI (i + 1)))] [] h Q → cd_W X m_Dig_withNumber kc ks 69 [none, none, some (.int (nI d)), some (.long (lN n)), none, some (.long (lN (10 ^ k))), none, some (.int (nI i))] [] h Q := by
    intro k d i hki hd hh
    have hpos : 0 < 10 ^ k := Nat.pow_pos (by decide)
    have hle : 10 ^ k ≤ 10 ^ 9 := Nat.pow_le_pow_right (by decide) (by omega)
    refine g_Dig_withNumber_69 F ⟨fun hc => ?_, fun _ => ⟨fun hc => ?_, fun _ => ⟨?_, ?_⟩⟩⟩
    · rw [i10, nI_leI (by decide) (by omega)] at hc
      omega
    · rw [lg_cmp_le, e0, pk_lLE (by omega) (by decide)] at hc
      omega
    · rw [e0, pk_lEQ (by omega) (by decide)]
      omega
    · have hq10 : n / 10 ^ k ≤ n := Nat.div_le_self _ _
      rw [pk_lDiv (by omega) hpos (by omega), e10, pk_lRem (by omega) (by decide) (by decide), lN_i, i48, nI_add]
      refine sp_Dig_with F hd (by omega) ⟨_, rfl, F, ?_⟩
      rw [pk_lDiv (by omega) (by decide) (by decide), nI_1]
      exact hh
  intro k
  induction k with
  | zero =>
    intro d i hki hd hq
    refine step 0 d i hki hd ?_
    refine g_Dig_withNumber_69 F ⟨fun _ => ?_, fun _ => ⟨fun _ => ?_, fun hc => absurd ((lg_cmp_le _ _).mpr (by decide)) hc⟩⟩
    · simpa [cd_du, cd_put] using hq
    · simpa [cd_du, cd_put] using hq
  | succ k ih =>
    intro d i hki hd hq
    refine step (k + 1) d i hki hd ?_
    have e1 : 10 ^ (k + 1) / 10 = 10 ^ k := by rw [Nat.pow_succ]; exact Nat.mul_div_cancel _ (by decide)
    rw [e1]
    exact ih _ (i + 1) (by omega) (cd_dg_lt _ _) hq
theorem sp_Dig_withNumber_34 {n d : Nat} (F : cc_ok h) (hn : n < 10 ^ 10) (hd : d < 2147483647) (hq : Q (some (.int (nI (cd_num d n)))) h) : ∀ (m j : Nat), j + m = 9 → (10 ^ j ≤ n ∨ j = 0) → cd_W X m_Dig_withNumber kc ks 34 [none, none, some (.int (nI d)), some (.long (lN n)), none, some (.long (lN (10 ^ j))), none, some (.int (nI (j + 1)))] [] h Q := by
  have e10 : (10 : Int64) = lN 10 := by decide
  have i10 : (10 : Int32) = nI 10 := by decide
  have done : ∀ j, j ≤ 9 → (10 ^ j ≤ n ∨ j = 0) → n < 10 ^ (j + 1) → cd_W X m_Dig_withNumber kc ks 69 [none, none, some (.int (nI d)), some (.long (lN n)), none, some (.long (lN (10 ^ j))), none, some (.int 0)] [] h Q := by
    intro j hj h1 h2
    refine sp_Dig_withNumber_69 F hn j d 0 (by omega) hd ?_
    rw [cd_du_dec j 12 n (by omega) h2 h1]
    exact hq
  intro m
  induction m with
  | zero =>
    intro j hj h1
    have : j = 9 := by omega
    subst this
    refine g_Dig_withNumber_34 F ⟨fun _ => done 9 (by decide) h1 hn, fun hc => absurd ?_ hc⟩
    rw [i10, nI_leI (by decide) (by decide)]
    decide
  | succ m ih =>
    intro j hj h1
    have hle : 10 ^ j ≤ 10 ^ 9 := Nat.pow_le_pow_right (by decide) (by omega)
    refine g_Dig_withNumber_34 F ⟨fun hc => ?_, fun _ => ⟨fun hc => ?_, fun hc => ?_⟩⟩
    · rw [i10, nI_leI (by decide) (by omega)] at hc
      omega
    · rw [lg_cmp_gt, e10, lN_mul, pk_lLT (by omega) (by omega)] at hc
      exact done j (by omega) h1 (by rw [Nat.pow_succ]; exact hc)
    · rw [lg_cmp_gt, e10, lN_mul, pk_lLT (by omega) (by omega)] at hc
      rw [e10, lN_mul, nI_1, ← Nat.pow_succ]
      exact ih (j + 1) (by omega) (Or.inl (by rw [Nat.pow_succ]; omega))
theorem sp_Dig_withNumber {d : Nat} {x : Int32} (F : cc_ok h) (hd : d < 2147483647) (hq : Q (some (.int (nI (cd_numI d x)))) h) : cd_W X m_Dig_withNumber kc ks 0 [some (.int (nI d)), some (.int x), none, none, none, none, none, none] [] h Q := by
  have l1 : (1 : Int64) = lN (10 ^ 0) := by decide
  have i1 : (1 : Int32) = nI (0 + 1) := by decide
  refine g_Dig_withNumber F ⟨fun hc => ?_, fun hc => ?_⟩
  · have hx : ¬ x < 0 := fun z => by
      rw [Int32.le_iff_toInt_le] at hc
      rw [Int32.lt_iff_toInt_lt] at z
      omega
    obtain ⟨e1, e2⟩ := cd_l_pos hx
    rw [cd_numI, if_neg hx] at hq
    rw [e1, l1, i1]
    exact sp_Dig_withNumber_34 F (by omega) hd hq 9 0 rfl (Or.inr rfl)
  · have hx : x < 0 := by
      rw [Int32.le_iff_toInt_le] at hc
      rw [Int32.lt_iff_toInt_lt]
      omega
    obtain ⟨e1, e2⟩ := cd_l_neg hx
    rw [cd_numI, if_pos hx] at hq
    rw [show (45 : Int32) = nI 45 from by decide]
    refine sp_Dig_with F hd (by decide) ⟨_, rfl, F, ?_⟩
    rw [e1, l1, i1]
    exact sp_Dig_withNumber_34 F (by omega) (cd_dg_lt _ _) hq 9 0 rfl (Or.inr rfl)
theorem sp_Key_power_23 {a m : Nat} (hk : cd_k h a = some (.inl 4)) (hM : cd_i h a 1 = nI m) (F : cc_ok h) (hm : 1 < m) (hm2 : m < 2 ^ 31) : ∀ (f e r b : Nat), e < 2 ^ f → e < 2 ^ 31 → r < m → b < m → Q (some (.int (nI (cd_pw m f e r b)))) h → cd_W X m_Key_power kc ks 23 [some (.ref a), none, none, some (.long (lN r)), none, some (.long (lN b)), none, some (.int (nI e))] [] h Q := by
  have e0 : (0 : Int64) = lN 0 := by decide
  have i0 : (0 : Int32) = nI 0 := by decide
  have i1 : (1 : Int32) = nI 1 := by decide
  have hmz : ¬ (nI m).toInt64 = 0 := by rw [nI_l hm2, e0, pk_lEQ (by omega) (by decide)]; omega
  have hand : ∀ e, e < 2 ^ 31 → nI e &&& 1 = nI (e % 2) := fun e he => pk_andN (n := e) (by omega) (m := 1) 1 (by decide)
  have hshr : ∀ e, e < 2 ^ 31 → nI e >>> ((1 : Int32) &&& 31) = nI (e / 2) := fun e he => by
    have := pk_shrN (n := e) he ((1 : Int32) &&& 31) 1 (by decide)
    simpa using this
  intro f
  induction f with
  | zero =>
    intro e r b he _ hr hb hq
    have z : e = 0 := by simpa using he
    subst z
    refine g_Key_power_23 F ⟨fun _ => ?_, fun hc => absurd (by decide) hc⟩
    rw [lN_i]; exact hq
  | succ f ih =>
    intro e r b he he2 hr hb hq
    by_cases z : e = 0
    · subst z
      refine g_Key_power_23 F ⟨fun _ => ?_, fun hc => absurd (by decide) hc⟩
      rw [lN_i]; exact hq
    · have hb0 : Nat.beq e 0 = false := cd_beq0 z
      rw [cd_pw, hb0, cond_false] at hq
      have hf2 : e / 2 < 2 ^ f := by rw [Nat.pow_succ] at he; omega
      refine g_Key_power_23 F ⟨fun hc => ?_, fun _ => ⟨fun hc => ⟨hk, ?_, ?_⟩, fun hc => ⟨hk, ?_, ?_⟩⟩⟩
      · rw [i0, nI_leI (by omega) (by decide)] at hc
        omega
      · rw [hM]; exact hmz
      · rw [hand e he2, i1, nI_eq (by omega) (by decide)] at hc
        have hb1 : Nat.beq (e % 2) 1 = false := by
          have : e % 2 = 0 := by omega
          rw [this]; rfl
        rw [hb1, cond_false] at hq
        rw [hM, nI_l hm2, cd_mulmod hm2 hb hb, hshr e he2]
        exact ih (e / 2) r (b * b % m) hf2 (by omega) hr (Nat.mod_lt _ (by omega)) hq
      · rw [hM]; exact hmz
      · rw [hand e he2, i1, nI_eq (by omega) (by decide)] at hc
        have hb1 : Nat.beq (e % 2) 1 = true := by rw [hc]; rfl
        rw [hb1, cond_true] at hq
        rw [hM, nI_l hm2, cd_mulmod hm2 hb hb, cd_mulmod hm2 hr hb, hshr e he2]
        exact ih (e / 2) (r * b % m) (b * b % m) hf2 (by omega) (Nat.mod_lt _ (by omega)) (Nat.mod_lt _ (by omega)) hq
theorem sp_Key_power {a m b e : Nat} (hk : cd_k h a = some (.inl 4)) (hM : cd_i h a 1 = nI m) (F : cc_ok h) (hm : 1 < m) (hm2 : m < 2 ^ 31) (hb : b < 2 ^ 31) (he : e < 2 ^ 31) (hq : Q (some (.int (nI (b ^ e % m)))) h) : cd_W X m_Key_power kc ks 0 [some (.ref a), some (.int (nI b)), some (.int (nI e)), none, none, none, none, none] [] h Q := by
  have i0 : (0 : Int32) = nI 0 := by decide
  have l1 : (1 : Int64) = lN 1 := by decide
  refine g_Key_power F ⟨hk, fun _ => ⟨?_, ?_⟩, fun hc => absurd ?_ hc⟩
  · rw [hM, i0, nI_eq hm2 (by decide)]
    omega
  · rw [hM, pk_rem hb (by omega) hm2, nI_l (by have := Nat.mod_lt b (show 0 < m by omega); omega), l1]
    refine sp_Key_power_23 hk hM F hm hm2 31 e 1 (b % m) he he hm (Nat.mod_lt _ (by omega)) ?_
    rw [cd_pw_eq (by omega) _ _ _ _ he hm, Nat.one_mul, ← Nat.pow_mod]
    exact hq
  · rw [hM, i0, nI_ltI (by decide) hm2]
    omega
end CDG1
