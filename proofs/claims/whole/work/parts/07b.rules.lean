section CDR2
variable {X : cd_E} {M : cd_M} {kc ks pc : Nat} {L : List (Option Value)} {S : List Value} {h : cd_H} {Q : Option Value → cd_H → Prop}
theorem cd_ldcSw {idx i : Nat} {tx : String} (hd : decode (cd_cc M) pc = .ok (.ldc_w idx, 3)) (hc : ((cd_y M).cls, idx, tx, i) ∈ cd_strs) (k : cd_W X M kc ks (pc + 3) L (.ref i :: S) h Q) : cd_W X M kc ks pc L S h Q := by
  intro p e R s m args below meth c H locs cells slots ls Qf F a1 a2 hR hs hl hn ret
  have K := k p e R s m args below meth c H locs cells slots ls Qf F a1 a2 hR hs hl hn ret
  have hZ := F.2.2.2.2.2.2.2.2.2.1.2.2.1 _ hc
  intro T hT Z
  obtain ⟨t, b1, b2⟩ := K T hT Z
  exact ⟨t, Z.ldcStringW F.2.1 F.2.2.2.2.1 (text := tx) (a := cd_al X i) hZ.1 hZ.2 (g := F0 m pc ls (S.map (cd_v X))) rfl (by rw [F.2.2.1]; exact hd) t b1, b2⟩
end CDR2
theorem cc_KL_lt : ∀ z ∈ cc_KL, z.1 < 82 := by decide
theorem cc_RL_lt : ∀ z ∈ cc_RL, z.1 < 82 := by decide
theorem cc_ok.new {h : cd_H} {q : Nat ⊕ (Nat × Nat)} (F : cc_ok h) (hn : 82 ≤ cd_n h) : cc_ok (cd_new h q) :=
  ⟨fun z hz => by rw [cd_k_new, if_neg (by have := cc_KL_lt z hz; omega)]; exact F.1 z hz, fun z hz => by rw [cd_r_new, if_neg (by have := cc_RL_lt z hz; omega)]; exact F.2 z hz⟩
theorem cc_ok.of {h h' : cd_H} (F : cc_ok h) (hk : cd_k h' = cd_k h) (hr : cd_r h' = cd_r h) : cc_ok h' := by
  unfold cc_ok
  rw [hk, hr]
  exact F
