def kx (k : Nat) : Nat := [3, 11, 5, 7, 65537].getD k 0
def kp (k : Nat) : Nat := [101, 211, 1009, 10007, 32749].getD k 0
def kq (k : Nat) : Nat := [113, 223, 1013, 10009, 32719].getD k 0
def ksec (k : Nat) : Nat := [1867, 5651, 51005, 35764303, 100089869].getD k 0
def cc_kys (h : cd_H) : Prop := ∀ k, k < 5 → cc_kxm h (66 + k) (kx k) (kp k * kq k) ∧ cd_i h (66 + k) 3 = nI (ksec k)
def cm_kys (h : cd_H) : Prop := ∀ k, k < 5 → cm_kxm h k (kx k) (kp k) (kq k)
def cc_net (h : cd_H) (NW : Nat → Option Nat) : Prop := ∀ j, j < 48 → cd_i h 77 j = cd_op (NW j) ∧ ∀ v, NW j = some v → v < 2147483647
def cm_net (h : cd_H) (NW : Nat → Option Nat) : Prop := ∀ j, j < 48 → (NW j = none → cd_i h 109 j = 0) ∧ ∀ v, NW j = some v → cd_i h 109 j = 1 ∧ cd_i h 110 j = nI v
def sg_spot (AU : List sg_U) (x y : Int32) (w a : Nat) (u : sg_U) : Prop := w ≤ 1 ∧ x = nI w ∧ y = nI a ∧ AU[a]? = some u
section VNE
variable {X : cd_E} {kc ks : Nat} {h : cd_H} {Q : Option Value → cd_H → Prop} {now : Nat} {AC : List sg_A} {AU : List sg_U} {accs auts : List Nat} {b cap : Nat} {NW : Nat → Option Nat}
theorem sp_Mod_isSpot (F : cm_ok h) (U : cm_aut h now AC AU) {x y : Int32} (h1 : ∀ w a u, sg_spot AU x y w a u → Q (some (.int 1)) h) (h0 : (∀ w a u, ¬ sg_spot AU x y w a u) → Q (some (.int 0)) h) : cd_W X m_Mod_isSpot kc ks 0 [some (.ref 82), some (.int x), some (.int y)] [] h Q := by
  have u1 := U.1
  refine g_Mod_isSpot F ⟨fun t => h0 (fun w a u s => ?_), fun t => ⟨fun t2 => h0 (fun w a u s => ?_), fun t2 => ⟨fun t3 => h0 (fun w a u s => ?_), fun t3 => ?_⟩⟩⟩
  · obtain ⟨s1, rfl, -, -⟩ := s
    exact nI_pos (by omega) t
  · obtain ⟨s1, rfl, -, -⟩ := s
    rw [show (1 : Int32) = nI 1 by decide, nI_ltI (by decide) (by omega)] at t2
    omega
  · obtain ⟨s1, -, rfl, s4⟩ := s
    have := (List.getElem?_eq_some_iff.mp s4).1
    exact nI_pos (by omega) t3
  · obtain ⟨w, hw, rfl⟩ := nI_of t
    obtain ⟨a, ha, rfl⟩ := nI_of t3
    rw [show (1 : Int32) = nI 1 by decide, nI_ltI (by decide) hw] at t2
    rw [U.2.1, nI_leI (by omega) ha]
    refine ⟨fun t4 => h0 (fun w' a' u' s => ?_), fun t4 => h1 w a _ ⟨by omega, rfl, rfl, List.getElem?_eq_getElem (by omega)⟩⟩
    obtain ⟨s1, s2, s3, s4⟩ := s
    have := (List.getElem?_eq_some_iff.mp s4).1
    rw [nI_eq ha (by omega)] at s3
    omega
theorem sp_Mod_withdraw (F : cm_ok h) (U : cm_aut h now AC AU) (W : cm_net h NW) {x y : Int32} (h1 : ∀ w a u, sg_spot AU x y w a u → ∀ h', cm_ch (fun z _ => z = 109) h h' → cm_net h' (fun j => if j = 24 * w + sg_pl AU u then none else NW j) → Q (some (.int (b2i (NW (24 * w + sg_pl AU u)).isSome))) h') (h0 : (∀ w a u, ¬ sg_spot AU x y w a u) → Q (some (.int 0)) h) : cd_W X m_Mod_withdraw kc ks 0 [some (.ref 82), some (.int x), some (.int y), none, none] [] h Q := by
  have u1 := U.1
  refine g_Mod_withdraw F (sp_Mod_isSpot F U (fun w a u s => ⟨_, rfl, F, fun _ => ?_, fun t => absurd t (by decide)⟩) (fun s => ⟨_, rfl, F, fun t => absurd rfl t, fun _ => h0 s⟩))
  have s' := s
  obtain ⟨s1, rfl, rfl, s4⟩ := s'
  have hal := (List.getElem?_eq_some_iff.mp s4).1
  have hpl := sg_pl_le s4
  refine sp_Mod_spot F U s1 s4 ⟨_, rfl, F, vp_in_nI (by omega) (by decide), ?_⟩
  rw [nI_clamp (by omega)]
  obtain ⟨w1, w2⟩ := W (24 * w + sg_pl AU u) (by omega)
  have C : cm_ch (fun z _ => z = 109) h (cd_si h 109 (24 * w + sg_pl AU u) (vp_nar .boolean 0)) := cm_ch.si rfl
  have N' : cm_net (cd_si h 109 (24 * w + sg_pl AU u) (vp_nar .boolean 0)) (fun j => if j = 24 * w + sg_pl AU u then none else NW j) := by
    intro j hj
    show ((if j = 24 * w + sg_pl AU u then none else NW j) = none → _) ∧ ∀ v, (if j = 24 * w + sg_pl AU u then none else NW j) = some v → _
    by_cases e : j = 24 * w + sg_pl AU u
    · rw [if_pos e]
      refine ⟨fun _ => ?_, fun v hv => by cases hv⟩
      rw [cd_i_si, if_pos ⟨rfl, e⟩]
      rfl
    · rw [if_neg e, cd_i_si, if_neg (fun z => e z.2), cd_i_si, if_neg (fun z => by omega)]
      exact W j hj
  have K := h1 w a u s _ C N'
  cases hN : NW (24 * w + sg_pl AU u) with
  | none =>
    rw [hN] at K
    rw [w1 hN]
    exact ⟨Or.inl rfl, K⟩
  | some v =>
    rw [hN] at K
    rw [(w2 v hN).1]
    exact ⟨Or.inr rfl, K⟩
end VNE
