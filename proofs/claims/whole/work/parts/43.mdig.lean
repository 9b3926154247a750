section VMD
variable {X : cd_E} {kc ks : Nat} {h : cd_H} {Q : Option Value → cd_H → Prop} {now : Nat} {AC : List sg_A} {AU : List sg_U}
theorem cm_dd.ch {h h' : cd_H} (C : cm_dd h h') : cm_ch (fun x _ => x = 88) h h' := ⟨C.1, C.2.1, C.2.2.1, fun a j hx => C.2.2.2.1 a j hx⟩
theorem sp_Mod_tokenOf_9 {a len made : Nat} {N : Nat → Nat} (ha : a < 24) (hm : made < 2 ^ 31) : ∀ (i j d : Nat) (h : cd_H), i + j = len → cm_ok h → cd_l h 82 7 = lN d → d < 2147483647 → cm_nam h a N len → cd_i h 100 a = nI made → (∀ h', cm_dd h h' → Q (some (.long (lN (cd_num (cd_dg (cd_num (cd_dg ((List.range' j i).foldl (fun x u => cd_dg x (N u)) d) 47) a) 47) made)))) h') → cd_W X m_Mod_tokenOf kc ks 9 [some (.ref 82), some (.int (nI a)), some (.int (nI j))] [] h Q := by
  intro i
  induction i with
  | zero =>
    intro j d h hj F hd hd2 A hma hq
    have e : j = len := by omega
    subst e
    have l12 := A.1
    refine g_Mod_tokenOf_9 F ⟨vp_in_nI ha (by decide), ?_⟩
    rw [nI_clamp (by omega), A.2.1, nI_l (by omega)]
    refine ⟨fun _ => ?_, fun t => absurd (nI_le (Nat.le_refl _) (by omega)) t⟩
    show cd_W X m_Mod_put 0 0 0 [some (.ref 82), some (.int (nI 47))] [] h _
    have C1 := cm_dd.sl h (lN (cd_dg d 47))
    refine sp_Mod_put F hd hd2 (by decide) ⟨rfl, C1.ok F, ?_⟩
    refine sp_Mod_putNumber (C1.ok F) (cm_l7 _ _) (cd_dg_lt _ _) (by omega) (fun h2 C2 e2 => ⟨rfl, C2.ok (C1.ok F), ?_⟩)
    have C12 := C1.tr C2
    show cd_W X m_Mod_put 0 0 0 [some (.ref 82), some (.int (nI 47))] [] h2 _
    have C3 := cm_dd.sl h2 (lN (cd_dg (cd_num (cd_dg d 47) a) 47))
    refine sp_Mod_put (C12.ok F) e2 (cd_num_lt (cd_dg_lt _ _) _) (by decide) ⟨rfl, (C12.tr C3).ok F, ?_⟩
    rw [(C12.tr C3).2.2.2.1 100 a (by decide), hma, nI_l hm]
    refine sp_Mod_putNumber ((C12.tr C3).ok F) (cm_l7 _ _) (cd_dg_lt _ _) (by omega) (fun h4 C4 e4 => ⟨rfl, C4.ok ((C12.tr C3).ok F), ?_⟩)
    rw [e4]
    exact hq h4 ((C12.tr C3).tr C4)
  | succ i ih =>
    intro j d h hj F hd hd2 A hma hq
    have l12 := A.1
    obtain ⟨y1, y2⟩ := A.2.2 j (by omega)
    refine g_Mod_tokenOf_9 F ⟨vp_in_nI ha (by decide), ?_⟩
    have e12 : (12 : Int32) * nI a + nI j = nI (12 * a + j) := by rw [show (12 : Int32) = nI 12 by decide, pk_mul, nI_add]
    rw [nI_clamp (by omega), A.2.1, e12, nI_leI (by omega) (by omega)]
    refine ⟨fun t => by omega, fun _ => ⟨vp_in_nI (by omega) (by decide), ?_⟩⟩
    rw [nI_clamp (by omega), y1]
    have C1 := cm_dd.sl h (lN (cd_dg d (N j)))
    refine sp_Mod_put F hd hd2 (by omega) ⟨rfl, C1.ok F, ?_⟩
    rw [nI_1]
    exact ih (j + 1) (cd_dg d (N j)) _ (by omega) (C1.ok F) (cm_l7 _ _) (cd_dg_lt _ _) (A.of (fun x k hx => rfl)) hma (fun h' C => hq h' (C1.tr C))
theorem sp_Mod_tokenOf (F : cm_ok h) (U : cm_aut h now AC AU) (hnow : now ≤ 1000) {i : Nat} {u : sg_U} (hu : AU[i]? = some u) (hq : ∀ h', cm_dd h h' → Q (some (.long (lN (sg_tok i u)))) h') : cd_W X m_Mod_tokenOf kc ks 0 [some (.ref 82), some (.int (nI i)), none] [] h Q := by
  have hil : i < AU.length := (List.getElem?_eq_some_iff.mp hu).1
  have u1 := U.1
  obtain ⟨b1, b2, b3, b4, b5, b6, b7, b8, b9, b10, b11⟩ := U.2.2.1 i u hu
  refine g_Mod_tokenOf F ?_
  have C1 := cm_dd.sl h (7 : Int64)
  show cd_W X m_Mod_tokenOf kc ks 9 [some (.ref 82), some (.int (nI i)), some (.int (nI 0))] [] (cd_sl h 82 7 7) Q
  exact sp_Mod_tokenOf_9 (by omega) (by omega) (sgu_len u) 0 7 _ (by omega) (C1.ok F) (cm_l7 _ _) (by decide) (b3.of (fun x k hx => rfl)) b4 (fun h' C => hq h' (C1.tr C))
def cm_kxm (h : cd_H) (k x p q : Nat) : Prop := k < 5 ∧ cd_i h 85 k = nI p ∧ cd_i h 86 k = nI q ∧ cd_i h 87 k = nI x ∧ p < 32768 ∧ q < 32768 ∧ x < 65538
theorem sp_Mod_thumbprint (F : cm_ok h) {k x p q : Nat} (K : cm_kxm h k x p q) (hq : ∀ h', cm_dd h h' → Q (some (.long (lN (sg_thu x (p * q))))) h') : cd_W X m_Mod_thumbprint kc ks 0 [some (.ref 82), some (.int (nI k))] [] h Q := by
  obtain ⟨k1, k2, k3, k4, k5, k6, k7⟩ := K
  have hpq : p * q < 2 ^ 31 := by
    have : p * q ≤ 32767 * 32767 := Nat.mul_le_mul (by omega) (by omega)
    omega
  refine g_Mod_thumbprint F ⟨vp_in_nI k1 (by decide), ?_⟩
  have C1 := cm_dd.sl h (7 : Int64)
  rw [nI_clamp (by omega), C1.2.2.2.1 87 k (by decide), k4, nI_l (by omega)]
  refine sp_Mod_putNumber (d := 7) (C1.ok F) (cm_l7 _ _) (by decide) (by omega) (fun h2 C2 e2 => ⟨rfl, C2.ok (C1.ok F), ?_⟩)
  show cd_W X m_Mod_put 0 0 0 [some (.ref 82), some (.int (nI 58))] [] h2 _
  have C3 := cm_dd.sl h2 (lN (cd_dg (cd_num 7 x) 58))
  have C := (C1.tr C2).tr C3
  refine sp_Mod_put ((C1.tr C2).ok F) e2 (cd_num_lt (by decide) _) (by decide) ⟨rfl, C.ok F, ?_⟩
  rw [C.2.2.2.1 85 k (by decide), C.2.2.2.1 86 k (by decide), k2, k3, nI_l (by omega), nI_l (by omega), lN_mul]
  refine sp_Mod_putNumber (C.ok F) (cm_l7 _ _) (cd_dg_lt _ _) (by omega) (fun h4 C4 e4 => ⟨rfl, C4.ok (C.ok F), ?_⟩)
  rw [e4]
  exact hq h4 (C.tr C4)
theorem sp_Mod_proof (F : cm_ok h) (U : cm_aut h now AC AU) (hnow : now ≤ 1000) {i k x p q : Nat} {u : sg_U} (hu : AU[i]? = some u) (K : cm_kxm h k x p q) (hq : ∀ h', cm_dd h h' → Q (some (.int (nI (sg_prf (sg_tok i u) (sg_thu x (p * q)))))) h') : cd_W X m_Mod_proof kc ks 0 [some (.ref 82), some (.int (nI i)), some (.int (nI k)), none, none, none, none] [] h Q := by
  have t1 := sg_tok_lt i u
  have t2 := sg_thu_lt x (p * q)
  refine g_Mod_proof F (sp_Mod_tokenOf F U hnow hu (fun h1 C1 => ⟨_, rfl, C1.ok F, ?_⟩))
  have K1 : cm_kxm h1 k x p q := ⟨K.1, by rw [C1.2.2.2.1 85 k (by decide)]; exact K.2.1, by rw [C1.2.2.2.1 86 k (by decide)]; exact K.2.2.1, by rw [C1.2.2.2.1 87 k (by decide)]; exact K.2.2.2.1, K.2.2.2.2⟩
  refine sp_Mod_thumbprint (C1.ok F) K1 (fun h2 C2 => ⟨_, rfl, C2.ok (C1.ok F), ?_⟩)
  have C12 := C1.tr C2
  have C3 := cm_dd.sl h2 (7 : Int64)
  refine sp_Mod_putNumber (d := 7) (C3.ok (C12.ok F)) (cm_l7 _ _) (by decide) (by omega) (fun h4 C4 e4 => ⟨rfl, C4.ok (C3.ok (C12.ok F)), ?_⟩)
  have C14 := (C12.tr C3).tr C4
  show cd_W X m_Mod_put 0 0 0 [some (.ref 82), some (.int (nI 46))] [] h4 _
  have C5 := cm_dd.sl h4 (lN (cd_dg (cd_num 7 (sg_tok i u)) 46))
  refine sp_Mod_put (C14.ok F) e4 (cd_num_lt (by decide) _) (by decide) ⟨rfl, (C14.tr C5).ok F, ?_⟩
  refine sp_Mod_putNumber ((C14.tr C5).ok F) (cm_l7 _ _) (cd_dg_lt _ _) (by omega) (fun h6 C6 e6 => ⟨rfl, C6.ok ((C14.tr C5).ok F), ?_⟩)
  rw [e6, lN_i]
  exact hq h6 ((C14.tr C5).tr C6)
end VMD
