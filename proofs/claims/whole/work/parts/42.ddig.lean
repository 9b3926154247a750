def sg_nd (N : Nat → Nat) (len : Nat) : Nat := (List.range' 0 len).foldl (fun x u => cd_dg x (N u)) 7
def sg_tok (i : Nat) (u : sg_U) : Nat := cd_num (cd_dg (cd_num (cd_dg (sg_nd (sgu_N u) (sgu_len u)) 47) i) 47) (sgu_made u)
def sg_thu (x m : Nat) : Nat := cd_num (cd_dg (cd_num 7 x) 58) m
def sg_prf (t th : Nat) : Nat := cd_num (cd_dg (cd_num 7 t) 46) th
theorem sg_tok_lt (i : Nat) (u : sg_U) : sg_tok i u < 2147483647 := cd_num_lt (cd_dg_lt _ _) _
theorem sg_thu_lt (x m : Nat) : sg_thu x m < 2147483647 := cd_num_lt (cd_dg_lt _ _) _
section VDD
variable {X : cd_E} {kc ks : Nat} {h : cd_H} {Q : Option Value → cd_H → Prop} {now : Nat} {AU : List sg_U} {accs auts : List Nat} {b cap : Nat}
theorem sp_Dig_num (F : cc_ok h) {d n : Nat} (hd : d < 2147483647) (hn : n < 2 ^ 31) (hq : Q (some (.int (nI (cd_num d n)))) h) : cd_W X m_Dig_withNumber kc ks 0 [some (.int (nI d)), some (.int (nI n)), none, none, none, none, none, none] [] h Q := by
  refine sp_Dig_withNumber F hd ?_
  rw [cd_numI_nI d hn]
  exact hq
theorem sp_Aut_tokenDigest (F : cc_ok h) (U : cc_aut h now accs AU auts b cap) (hnow : now ≤ 1000) {i y : Nat} {u : sg_U} (hy : auts[i]? = some y) (hu : AU[i]? = some u) (hq : Q (some (.int (nI (sg_tok i u)))) h) : cd_W X m_Aut_tokenDigest kc ks 0 [some (.ref y), none] [] h Q := by
  obtain ⟨⟨c1, c2, c3⟩, c4, ⟨s, sb, c6, c6b, c6c, c6d, c6e⟩, c7, c8, c9, c10, c11, ⟨c12, c13, c14, c15⟩, c16, c17⟩ := U.2.2.2.2 i y u hy hu
  have hil : i < AU.length := (List.getElem?_eq_some_iff.mp hu).1
  have u1 := U.1
  have hnd : sg_nd (sgu_N u) (sgu_len u) < 2147483647 := by
    unfold sg_nd
    generalize sgu_len u = L
    cases L with
    | zero => exact (by decide : (7 : Nat) < 2147483647)
    | succ L =>
      rw [List.range'_concat, List.foldl_append]
      exact cd_dg_lt _ _
  refine g_Aut_tokenDigest F ⟨c2, s, c6, g_Dig_withText F ?_⟩
  show cd_W X m_Dig_withText 0 0 4 [none, some (.ref s), some (.int (nI 7)), some (.int (nI 0))] [] h _
  refine sp_Dig_withText_4 F c6b (sgu_len u) 0 7 (by omega) (by decide) ⟨_, rfl, F, ?_⟩
  show cd_W X m_Dig_with 0 0 0 [some (.int (nI (sg_nd (sgu_N u) (sgu_len u)))), some (.int (nI 47))] [] h _
  refine sp_Dig_with F hnd (by decide) ⟨_, rfl, F, c2, ?_⟩
  rw [c3]
  refine sp_Dig_num F (cd_dg_lt _ _) (by omega) ⟨_, rfl, F, ?_⟩
  show cd_W X m_Dig_with 0 0 0 [some (.int (nI _)), some (.int (nI 47))] [] h _
  refine sp_Dig_with F (cd_num_lt (cd_dg_lt _ _) _) (by decide) ⟨_, rfl, F, c2, ?_⟩
  rw [c7]
  exact sp_Dig_num F (cd_dg_lt _ _) (by omega) ⟨_, rfl, F, hq⟩
def cc_kxm (h : cd_H) (y x m : Nat) : Prop := cd_k h y = some (.inl 4) ∧ cd_i h y 2 = nI x ∧ cd_i h y 1 = nI m ∧ x < 2 ^ 31 ∧ m < 2 ^ 31
theorem sp_Key_thumbprint (F : cc_ok h) {y x m : Nat} (K : cc_kxm h y x m) (hq : Q (some (.int (nI (sg_thu x m)))) h) : cd_W X m_Key_thumbprint kc ks 0 [some (.ref y), none] [] h Q := by
  obtain ⟨k1, k2, k3, k4, k5⟩ := K
  refine g_Key_thumbprint F ⟨k1, ?_⟩
  rw [k2]
  show cd_W X m_Dig_withNumber 0 0 0 [some (.int (nI 7)), some (.int (nI x)), none, none, none, none, none, none] [] h _
  refine sp_Dig_num F (by decide) k4 ⟨_, rfl, F, ?_⟩
  show cd_W X m_Dig_with 0 0 0 [some (.int (nI _)), some (.int (nI 58))] [] h _
  refine sp_Dig_with F (cd_num_lt (by decide) _) (by decide) ⟨_, rfl, F, k1, ?_⟩
  rw [k3]
  exact sp_Dig_num F (cd_dg_lt _ _) k5 ⟨_, rfl, F, hq⟩
theorem sp_Aut_proof (F : cc_ok h) (U : cc_aut h now accs AU auts b cap) (hnow : now ≤ 1000) {i y z x m : Nat} {u : sg_U} (hy : auts[i]? = some y) (hu : AU[i]? = some u) (K : cc_kxm h z x m) (hq : Q (some (.int (nI (sg_prf (sg_tok i u) (sg_thu x m))))) h) : cd_W X m_Aut_proof kc ks 0 [some (.ref y), some (.ref z), none] [] h Q := by
  have c2 := (U.2.2.2.2 i y u hy hu).1.2.1
  have t1 := sg_tok_lt i u
  have t2 := sg_thu_lt x m
  refine g_Aut_proof F ⟨c2, sp_Aut_tokenDigest F U hnow hy hu ⟨_, rfl, F, ?_⟩⟩
  show cd_W X m_Dig_withNumber 0 0 0 [some (.int (nI 7)), some (.int (nI (sg_tok i u))), none, none, none, none, none, none] [] h _
  refine sp_Dig_num F (by decide) (by omega) ⟨_, rfl, F, ?_⟩
  show cd_W X m_Dig_with 0 0 0 [some (.int (nI _)), some (.int (nI 46))] [] h _
  refine sp_Dig_with F (cd_num_lt (by decide) _) (by decide) ⟨_, rfl, F, K.1, sp_Key_thumbprint F K ⟨_, rfl, F, ?_⟩⟩
  exact sp_Dig_num F (cd_dg_lt _ _) (by omega) ⟨_, rfl, F, hq⟩
end VDD
