theorem cm_aut.of {h h' : cd_H} {now : Nat} {AC : List sg_A} {AU : List sg_U} (U : cm_aut h now AC AU) (e : ∀ x j, (x = 82 ∧ j = 23) ∨ (97 ≤ x ∧ x ≤ 103) → cd_i h' x j = cd_i h x j) : cm_aut h' now AC AU := by
  refine ⟨U.1, by rw [e 82 23 (by omega)]; exact U.2.1, fun i u hu => ?_, fun i hi h24 => ?_⟩
  · obtain ⟨b1, b2, b3, b4, b5, b6, b7, b8⟩ := U.2.2.1 i u hu
    exact ⟨b1, by rw [e 97 i (by omega)]; exact b2, b3.of (fun x j hx => e x j (by omega)), by rw [e 100 i (by omega)]; exact b4, by rw [e 101 i (by omega)]; exact b5, fun z => by rw [e 102 i (by omega)]; exact b6 z, by rw [e 103 i (by omega)]; exact b7, b8⟩
  · rw [e 101 i (by omega), e 103 i (by omega)]
    exact U.2.2.2 i hi h24
theorem cm_kys.of {h h' : cd_H} (K : cm_kys h) (e : ∀ x j, 85 ≤ x ∧ x ≤ 87 → cd_i h' x j = cd_i h x j) : cm_kys h' := fun k hk => by
  obtain ⟨k1, k2, k3, k4, k5⟩ := K k hk
  exact ⟨k1, by rw [e 85 k (by omega)]; exact k2, by rw [e 86 k (by omega)]; exact k3, by rw [e 87 k (by omega)]; exact k4, k5⟩
section VPU
variable {X : cd_E} {kc ks : Nat} {h : cd_H} {Q : Option Value → cd_H → Prop} {now : Nat} {AC : List sg_A} {AU : List sg_U} {accs auts : List Nat} {b cap : Nat} {NW : Nat → Option Nat}
def sg_put (a : Nat) (u : sg_U) (k : Nat) : Nat := sg_prf (sg_tok a u) (sg_thu (kx k) (kp k * kq k))
theorem sg_put_lt (a : Nat) (u : sg_U) (k : Nat) : sg_put a u k < 2147483647 := cd_num_lt (cd_dg_lt _ _) _
theorem sp_Mod_publish (F : cm_ok h) (U : cm_aut h now AC AU) (hnow : now ≤ 1000) (Ky : cm_kys h) (W : cm_net h NW) {x y z : Int32} (h1 : ∀ w a u k, sg_spot AU x y w a u → k < 4 → z = nI k → ∀ h', cm_ch (fun z _ => z = 109 ∨ z = 110 ∨ z = 88) h h' → cm_net h' (fun j => if j = 24 * w + sg_pl AU u then some (sg_put a u k) else NW j) → Q (some (.int 1)) h') (h0 : (∀ w a u k, ¬ (sg_spot AU x y w a u ∧ k < 4 ∧ z = nI k)) → Q (some (.int 0)) h) : cd_W X m_Mod_publish kc ks 0 [some (.ref 82), some (.int x), some (.int y), some (.int z), none] [] h Q := by
  have u1 := U.1
  refine g_Mod_publish F (sp_Mod_isSpot F U (fun w a u s => ⟨_, rfl, F, fun t => absurd t (by decide), fun _ => ⟨fun t => h0 (fun w' a' u' k' s' => ?_), fun t => ⟨fun t2 => ?_, fun t2 => h0 (fun w' a' u' k' s' => ?_)⟩⟩⟩) (fun s => ⟨_, rfl, F, fun _ => h0 (fun w a u k s' => s w a u s'.1), fun t => absurd rfl t⟩))
  · rw [s'.2.2] at t
    exact nI_pos (by have := s'.2.1; omega) t
  · have s' := s
    obtain ⟨s1, rfl, rfl, s4⟩ := s'
    obtain ⟨k, hk, rfl⟩ := nI_of t
    rw [show (3 : Int32) = nI 3 by decide, nI_leI hk (by decide)] at t2
    have hal := (List.getElem?_eq_some_iff.mp s4).1
    have hpl := sg_pl_le s4
    refine sp_Mod_spot F U s1 s4 ⟨_, rfl, F, vp_in_nI (by omega) (by decide), ?_⟩
    rw [nI_clamp (by omega)]
    have C : cm_ch (fun z _ => z = 109 ∨ z = 110 ∨ z = 88) h (cd_si h 109 (24 * w + sg_pl AU u) (vp_nar .boolean 1)) := cm_ch.si (Or.inl rfl)
    have ei : ∀ q j, ¬ q = 109 → cd_i (cd_si h 109 (24 * w + sg_pl AU u) (vp_nar .boolean 1)) q j = cd_i h q j := fun q j hq => by rw [cd_i_si, if_neg (fun z => hq z.1)]
    refine sp_Mod_proof (C.ok F) (U.of (fun q j hq => ei q j (by omega))) hnow s4 (Ky.of (fun q j hq => ei q j (by omega)) k (by omega)) (fun h2 C2 => ⟨_, rfl, C2.ok (C.ok F), ?_⟩)
    have C3 : cm_ch (fun z _ => z = 109 ∨ z = 110 ∨ z = 88) h2 (cd_si h2 110 (24 * w + sg_pl AU u) (nI (sg_put a u k))) := cm_ch.si (Or.inr (Or.inl rfl))
    refine h1 w a u k s (by omega) rfl _ ((C.tr (C2.ch.sub (fun q j hq => Or.inr (Or.inr hq)))).tr C3) (fun j hj => ?_)
    show ((if j = 24 * w + sg_pl AU u then some (sg_put a u k) else NW j) = none → _) ∧ ∀ v, (if j = 24 * w + sg_pl AU u then some (sg_put a u k) else NW j) = some v → _
    by_cases e : j = 24 * w + sg_pl AU u
    · rw [if_pos e]
      refine ⟨fun hn => (by cases hn), fun v hv => ?_⟩
      cases hv
      refine ⟨?_, ?_⟩
      · rw [cd_i_si, if_neg (fun z => by omega), C2.2.2.2.1 109 j (by decide), cd_i_si, if_pos ⟨rfl, e⟩]
        rfl
      · rw [cd_i_si, if_pos ⟨rfl, e⟩]
        rfl
    · rw [if_neg e, cd_i_si, if_neg (fun z => by omega), C2.2.2.2.1 109 j (by decide), cd_i_si, if_neg (fun z => e z.2), cd_i_si, if_neg (fun z => e z.2), C2.2.2.2.1 110 j (by decide), ei 110 j (by decide)]
      exact W j hj
  · obtain ⟨-, s2, s3⟩ := s'
    rw [s3, show (3 : Int32) = nI 3 by decide, nI_leI (by omega) (by decide)] at t2
    omega
end VPU
