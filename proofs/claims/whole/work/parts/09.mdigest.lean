def cm_dd (h h' : cd_H) : Prop := cd_n h' = cd_n h ∧ cd_k h' = cd_k h ∧ cd_r h' = cd_r h ∧ (∀ a j, a ≠ 88 → cd_i h' a j = cd_i h a j) ∧ ∀ a j, ¬ (a = 82 ∧ j = 7) → cd_l h' a j = cd_l h a j
theorem cm_dd.rf (h : cd_H) : cm_dd h h := ⟨rfl, rfl, rfl, fun _ _ _ => rfl, fun _ _ _ => rfl⟩
theorem cm_dd.tr {h h1 h2 : cd_H} (a : cm_dd h h1) (b : cm_dd h1 h2) : cm_dd h h2 :=
  ⟨b.1.trans a.1, b.2.1.trans a.2.1, b.2.2.1.trans a.2.2.1, fun x j hx => (b.2.2.2.1 x j hx).trans (a.2.2.2.1 x j hx), fun x j hx => (b.2.2.2.2 x j hx).trans (a.2.2.2.2 x j hx)⟩
theorem cm_dd.sl (h : cd_H) (x : Int64) : cm_dd h (cd_sl h 82 7 x) := ⟨rfl, rfl, rfl, fun _ _ _ => rfl, fun a j hx => by rw [cd_l_sl, if_neg hx]⟩
theorem cm_dd.si (h : cd_H) (k : Nat) (x : Int32) : cm_dd h (cd_si h 88 k x) := ⟨rfl, rfl, rfl, fun a j hx => by rw [cd_i_si, if_neg (fun z => hx z.1)], fun _ _ _ => rfl⟩
theorem cm_ok.of {h h' : cd_H} (F : cm_ok h) (hk : cd_k h' = cd_k h) (hr : cd_r h' = cd_r h) : cm_ok h' := by
  unfold cm_ok
  rw [hk, hr]
  exact F
theorem cm_dd.ok {h h' : cd_H} (a : cm_dd h h') (F : cm_ok h) : cm_ok h' := F.of a.2.1 a.2.2.1
section MDG
variable {X : cd_E} {kc ks : Nat} {h : cd_H} {Q : Option Value → cd_H → Prop}
theorem sp_Mod_put {d c : Nat} (F : cm_ok h) (hd : cd_l h 82 7 = lN d) (hd2 : d < 2147483647) (hc : c < 2 ^ 31) (hq : Q none (cd_sl h 82 7 (lN (cd_dg d c)))) : cd_W X m_Mod_put kc ks 0 [some (.ref 82), some (.int (nI c))] [] h Q := by
  refine g_Mod_put F ?_
  rw [hd, cd_dg_int hd2 hc]
  exact hq
theorem cm_l7 (h : cd_H) (x : Int64) : cd_l (cd_sl h 82 7 x) 82 7 = x := by rw [cd_l_sl, if_pos ⟨rfl, rfl⟩]
def cm_dl (D : Nat → Nat) : Nat → List Nat
  | 0 => []
  | k + 1 => D k :: cm_dl D k
theorem cm_dl_up {D : Nat → Nat} {x : Nat} : ∀ k i, k ≤ i → cm_dl (va_up D i x) k = cm_dl D k := by
  intro k
  induction k with
  | zero => intro i _; rfl
  | succ k ih =>
    intro i hi
    rw [cm_dl, cm_dl, ih i (by omega)]
    simp [va_up, show ¬ k = i by omega]
theorem sp_Mod_putNumber_62 {D : Nat → Nat} : ∀ (k d : Nat) (h : cd_H), cm_ok h → cd_l h 82 7 = lN d → d < 2147483647 → k ≤ 20 → (∀ i, i < k → cd_i h 88 i = nI (D i) ∧ D i < 10) → (∀ h', cm_dd h h' → cd_l h' 82 7 = lN (cd_put d (cm_dl D k)) → Q none h') → cd_W X m_Mod_putNumber kc ks 62 [some (.ref 82), none, none, none, none, none, some (.int (nI k - 1))] [] h Q := by
  intro k
  induction k with
  | zero =>
    intro d h F hd _ _ _ hq
    refine g_Mod_putNumber_62 F ⟨fun _ => hq h (cm_dd.rf h) hd, fun hn => absurd (by decide) hn⟩
  | succ k ih =>
    intro d h F hd hd2 hk hD hq
    rw [nI_pred]
    refine g_Mod_putNumber_62 F ⟨fun hn => absurd hn (nI_pos (by omega)), fun _ => ⟨vp_in_nI (by omega) (by decide), ?_⟩⟩
    rw [nI_clamp (by omega), (hD k (by omega)).1, show (48 : Int32) = nI 48 from by decide, nI_add]
    refine sp_Mod_put F hd hd2 (by have := (hD k (by omega)).2; omega) ⟨rfl, (cm_dd.sl h _).ok F, ?_⟩
    rw [← Int32.sub_eq_add_neg]
    exact ih _ _ ((cm_dd.sl h _).ok F) (cm_l7 h _) (cd_dg_lt _ _) (by omega) (fun i hi => hD i (by omega)) (fun h2 e2 g2 => hq h2 ((cm_dd.sl h _).tr e2) g2)
theorem sp_Mod_putNumber_28 : ∀ (f n k d : Nat) (D : Nat → Nat) (h : cd_H), cm_ok h → cd_l h 82 7 = lN d → d < 2147483647 → k + f ≤ 19 → n < 10 ^ f → n < 2 ^ 62 → (∀ i, i < k → cd_i h 88 i = nI (D i) ∧ D i < 10) → (∀ h', cm_dd h h' → cd_l h' 82 7 = lN (cd_put d (cd_dec (f + 1) n ++ cm_dl D k)) → Q none h') → cd_W X m_Mod_putNumber kc ks 28 [some (.ref 82), none, none, some (.long (lN n)), none, some (.int (nI k)), none] [] h Q := by
  intro f
  induction f with
  | zero =>
    intro n k d D h F hd hd2 hk hn hn2 hD hq
    have e10 : (10 : Int64) = lN 10 := by decide
    have e0 : (0 : Int64) = lN 0 := by decide
    have n0 : n = 0 := by simpa using hn
    subst n0
    have ediv : lN 0 / 10 = lN 0 := by decide
    have erem : (lN 0 - lN 0 / 10 * 10).toInt32 = nI 0 := by decide
    refine g_Mod_putNumber_28 F ⟨vp_in_nI (by omega) (by decide), fun hc => ?_, fun _ => ?_⟩
    · rw [lg_cmp_gt, ediv, e0, pk_lLT (by decide) (by decide)] at hc
      omega
    · rw [erem, nI_clamp (by omega), nI_1]
      refine sp_Mod_putNumber_62 (D := va_up D k 0) (k + 1) d _ ((cm_dd.si h k _).ok F) hd hd2 (by omega) (fun i hi => ?_) (fun h' e g => hq h' ((cm_dd.si h k _).tr e) ?_)
      · rw [cd_i_si]
        by_cases hik : i = k
        · subst hik
          simp [va_up]
        · have := hD i (by omega)
          simp [va_up, hik]
          exact this
      · rw [g, cm_dl, cm_dl_up k k (Nat.le_refl _), cd_dec, if_pos (by decide)]
        simp [va_up]
  | succ f ih =>
    intro n k d D h F hd hd2 hk hn hn2 hD hq
    have e10 : (10 : Int64) = lN 10 := by decide
    have e0 : (0 : Int64) = lN 0 := by decide
    have ediv : lN n / 10 = lN (n / 10) := by rw [e10]; exact pk_lDiv (by omega) (by decide) (by decide)
    have erem : (lN n - lN n / 10 * 10).toInt32 = nI (n % 10) := by
      rw [e10, pk_lRem (by omega) (by decide) (by decide), lN_i]
    refine g_Mod_putNumber_28 F ⟨vp_in_nI (by omega) (by decide), fun hc => ?_, fun hc => ?_⟩
    · rw [lg_cmp_gt, ediv, e0, pk_lLT (by decide) (by omega)] at hc
      rw [erem, ediv, nI_clamp (by omega), nI_1]
      have h10 : ¬ n < 10 := by omega
      refine ih (n / 10) (k + 1) d (va_up D k (n % 10)) _ ((cm_dd.si h k _).ok F) hd hd2 (by omega) (by rw [Nat.pow_succ] at hn; omega) (by omega) (fun i hi => ?_) (fun h' e g => hq h' ((cm_dd.si h k _).tr e) ?_)
      · rw [cd_i_si]
        by_cases hik : i = k
        · subst hik
          simp [va_up]
          omega
        · have := hD i (by omega)
          simp [va_up, hik]
          exact this
      · have e5 : cd_dec (f + 1 + 1) n = cd_dec (f + 1) (n / 10) ++ [n % 10] := by rw [cd_dec, if_neg h10]
        rw [g, cm_dl, cm_dl_up k k (Nat.le_refl _), e5]
        simp [va_up]
    · rw [lg_cmp_gt, ediv, e0, pk_lLT (by decide) (by omega)] at hc
      rw [erem, nI_clamp (by omega), nI_1]
      have h10 : n < 10 := by omega
      refine sp_Mod_putNumber_62 (D := va_up D k (n % 10)) (k + 1) d _ ((cm_dd.si h k _).ok F) hd hd2 (by omega) (fun i hi => ?_) (fun h' e g => hq h' ((cm_dd.si h k _).tr e) ?_)
      · rw [cd_i_si]
        by_cases hik : i = k
        · subst hik
          simp [va_up]
          omega
        · have := hD i (by omega)
          simp [va_up, hik]
          exact this
      · rw [g, cm_dl, cm_dl_up k k (Nat.le_refl _), cd_dec, if_pos h10]
        simp [va_up, Nat.mod_eq_of_lt h10]
theorem sp_Mod_putNumber {d n : Nat} (F : cm_ok h) (hd : cd_l h 82 7 = lN d) (hd2 : d < 2147483647) (hn : n < 2 ^ 32) (hq : ∀ h', cm_dd h h' → cd_l h' 82 7 = lN (cd_num d n) → Q none h') : cd_W X m_Mod_putNumber kc ks 0 [some (.ref 82), some (.long (lN n)), none, none, none, none, none] [] h Q := by
  have e0 : (0 : Int64) = lN 0 := by decide
  refine g_Mod_putNumber F ⟨fun _ => ?_, fun hc => absurd ((lg_cmp_ge _ _).mpr ?_) hc⟩
  · refine sp_Mod_putNumber_28 11 n 0 d (fun _ => 0) h F hd hd2 (by decide) (by omega) (by omega) (fun i hi => absurd hi (by omega)) (fun h' e g => hq h' e ?_)
    rw [g, cm_dl, List.append_nil]
    rfl
  · rw [e0, pk_lLE (by decide) (by omega)]
    omega
theorem sp_Mod_putNumberI {d : Nat} {x : Int32} (F : cm_ok h) (hd : cd_l h 82 7 = lN d) (hd2 : d < 2147483647) (hq : ∀ h', cm_dd h h' → cd_l h' 82 7 = lN (cd_numI d x) → Q none h') : cd_W X m_Mod_putNumber kc ks 0 [some (.ref 82), some (.long x.toInt64), none, none, none, none, none] [] h Q := by
  have e0 : (0 : Int64) = lN 0 := by decide
  by_cases hx : x < 0
  · obtain ⟨e1, e2⟩ := cd_l_neg hx
    have hneg : ¬ (0 : Int64) ≤ x.toInt64 := by
      rw [Int64.le_iff_toInt_le, Int32.toInt_toInt64]
      rw [Int32.lt_iff_toInt_lt] at hx
      simp at hx ⊢
      omega
    refine g_Mod_putNumber F ⟨fun hc => absurd ((lg_cmp_ge _ _).mp hc) hneg, fun _ => ?_⟩
    rw [show (45 : Int32) = nI 45 from by decide]
    refine sp_Mod_put F hd hd2 (by decide) ⟨rfl, (cm_dd.sl h _).ok F, ?_⟩
    rw [e1]
    refine sp_Mod_putNumber_28 11 _ 0 _ (fun _ => 0) _ ((cm_dd.sl h _).ok F) (cm_l7 h _) (cd_dg_lt _ _) (by decide) (by omega) (by omega) (fun i hi => absurd hi (by omega)) (fun h' e g => hq h' ((cm_dd.sl h _).tr e) ?_)
    rw [g, cm_dl, List.append_nil, cd_numI, if_pos hx]
    rfl
  · obtain ⟨e1, e2⟩ := cd_l_pos hx
    rw [e1]
    refine sp_Mod_putNumber F hd hd2 (by omega) (fun h' e g => hq h' e ?_)
    rw [g, cd_numI, if_neg hx]
end MDG
