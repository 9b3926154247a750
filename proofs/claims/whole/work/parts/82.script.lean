def cd_sL (X : cd_E) : Nat := match (cd_O X)[cd_al X 35]? with
  | none => 0
  | some c => c.slots.size
def cd_sx (X : cd_E) (j : Nat) : Int32 := match (cd_O X)[cd_al X 35]? with
  | none => 0
  | some c => match c.slots[j]? with
    | some (.int x) => x
    | _ => 0
section SCR
variable {X : cd_E} {M : cd_M} {kc ks pc : Nat} {L : List (Option Value)} {S : List Value} {h : cd_H} {Q : Option Value → cd_H → Prop}
theorem cd_scr {s : State} {H : Heap} (ok : cd_ok X) (hR : cd_R X h H) (hG : cd_G X s) : ∃ cell : Cell, H[cd_al X 35]? = some cell ∧ s.isArrayOf cell .int ∧ cell.vm ≠ .unknown ∧ cell.slots.size = cd_sL X ∧ ∀ j : Nat, j < cd_sL X → cell.slots[j]? = some (.int (cd_sx X j)) := by
  obtain ⟨l, xs, cell, h1, h2, h3, h4, h5⟩ := hG.2.2.2.2.2.2.2.2.2
  have hl := ok.1 35 (by decide)
  have eL : cd_sL X = cell.slots.size := by rw [cd_sL, h1]
  refine ⟨cell, by rw [hR.2.2.2.2.1 _ hl]; exact h1, h2, h3, eL.symm, fun j hj => ?_⟩
  have e := h5 j (by omega)
  have ex : cd_sx X j = xs j := by rw [cd_sx, h1]; simp only [e]
  rw [ex]
  exact e
theorem cd_slen (hd : decode (cd_cc M) pc = .ok (.arraylength, 1)) (k : cd_W X M kc ks (pc + 1) L (.int (nI (cd_sL X)) :: S) h Q) : cd_W X M kc ks pc L (.ref 35 :: S) h Q := by
  intro p e R s m args below meth c H locs cells slots ls Qf F a1 a2 hR hs hl hn ret
  obtain ⟨cell, hc, hof, hvm, hsz, hx⟩ := cd_scr F.1 hR F.2.2.2.2.2.2.2.2.2.1
  exact W.alen (n := nI (cd_sL X)) F.2.1 F.2.2.1 hc hof (by rw [hsz]; rfl) rfl rfl hd (k p e R s m args below meth c H locs cells slots ls Qf F a1 a2 hR hs hl hn ret)
theorem cd_sld {j : Int32} (hd : decode (cd_cc M) pc = .ok (.iaload, 1)) (hin : vp_in j (cd_sL X)) (k : cd_W X M kc ks (pc + 1) L (.int (cd_sx X j.toNatClampNeg) :: S) h Q) : cd_W X M kc ks pc L (.int j :: .ref 35 :: S) h Q := by
  intro p e R s m args below meth c H locs cells slots ls Qf F a1 a2 hR hs hl hn ret
  obtain ⟨cell, hc, hof, hvm, hsz, hx⟩ := cd_scr F.1 hR F.2.2.2.2.2.2.2.2.2.1
  have hlt : j.toNatClampNeg < cd_sL X := Nat.not_le.mp fun q => hin (Or.inr q)
  exact W.iald (v := .int (cd_sx X j.toNatClampNeg)) F.2.1 F.2.2.1 hc hof hvm (by rw [hsz]; exact hin) (by rw [hx _ hlt]) rfl rfl hd (k p e R s m args below meth c H locs cells slots ls Qf F a1 a2 hR hs hl hn ret)
end SCR
