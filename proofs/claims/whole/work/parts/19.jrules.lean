section CDJ
variable {X : cd_E} {M M' : cd_M} {kc ks kc' ks' pc : Nat} {L L0 : List (Option Value)} {S As : List Value} {h : cd_H} {Q : Option Value → cd_H → Prop}
theorem cd_getsQ {idx : Nat} (hd : decode (cd_cc M) pc = .ok (.getstatic idx, 3)) (hlink : Cond.fieldLink (cd_y M).cls idx "jdk/internal/util/Preconditions" "SIOOBE_FORMATTER" "Ljava/util/function/BiFunction;" ∈ cd_tbl) (k : ∀ o : Option Nat, cd_W X M kc ks (pc + 3) L (va_rf o :: S) h Q) : cd_W X M kc ks pc L S h Q := by
  intro p e R s m args below meth c H locs cells slots ls Qf F a1 a2 hR hs hl hn ret
  have hts := F.2.2.2.2.2.1
  have hG := F.2.2.2.2.2.2.2.2.2.1
  obtain ⟨o, cf, kf, fi, f, a, cell, h1, h2, h3, h4, h5, h6, h7, h8⟩ := hG.2.2.2.2.2.2.2.2.1
  have K := k o p e R s m args below meth c H locs cells slots ls Qf F a1 a2 hR hs hl hn ret
  rw [List.map_cons, cd_v_rf] at K
  exact W.gets F.2.1 F.2.2.1 F.2.2.2.2.1 (hts _ hlink) h1 h2 h3 h4 (by rw [hR.2.2.2.2.1 a (Nat.not_le.mp h8)]; exact h5) (fun e => by rw [e] at h6; cases h6) h7 rfl hd K
theorem cd_inst {idx a c n : Nat} {r : vw_C} (hd : decode (cd_cc M) pc = .ok (.instanceof idx, 3)) (hr : vwCl[c]? = some r) (hcl : Cond.classLink (cd_y M).cls idx r.1 ∈ cd_tbl ∧ Cond.instantiable r.1 n ∈ cd_tbl) (hk : cd_k h a = some (.inl c)) (k : cd_W X M kc ks (pc + 3) L (.int 1 :: S) h Q) : cd_W X M kc ks pc L (.ref a :: S) h Q := by
  intro p e R s m args below meth c0 H locs cells slots ls Qf F a1 a2 hR hs hl hn ret
  have hK := F.2.2.2.2.2.2.2.2.2.1.1
  obtain ⟨r', cell, hr', q1, q2, -, q3, -, -⟩ := hR.2.2.2.1 a _ hk
  have hfc := (hK.1 c r hr).2.1
  obtain ⟨cC, hcA⟩ := classAt_of (F.2.2.2.2.2.1 _ hcl.2)
  exact va_instS (a := cd_al X a) F.2.1 F.2.2.1 F.2.2.2.2.1 (F.2.2.2.2.2.1 _ hcl.1) hcA ⟨cell, q1, q3, by rw [q2]; exact hfc⟩ hd (k p e R s m args below meth c0 H locs cells slots ls Qf F a1 a2 hR hs hl hn ret)
def cd_mr (X : cd_E) : Nat := if cd_mi X < cd_B X then 34 else 64 + (cd_mi X - cd_B X)
theorem cd_mr_al (ok : cd_ok X) {s : State} (hG : cd_G X s) : cd_al X (cd_mr X) = cd_mi X := by
  unfold cd_mr
  split
  · rename_i hlt
    exact hG.2.2.2.2.2.2.2.1 hlt
  · rw [ok.2.1 _ (by omega)]
    omega
theorem cd_ldcM {idx : Nat} (hd : decode (cd_cc M) pc = .ok (.ldc idx, 2)) (hlink : Cond.classLink (cd_y M).cls idx "[Ljava/lang/Object;" ∈ cd_tbl) (k : cd_W X M kc ks (pc + 2) L (.ref (cd_mr X) :: S) h Q) : cd_W X M kc ks pc L S h Q := by
  intro p e R s m args below meth c H locs cells slots ls Qf F a1 a2 hR hs hl hn ret
  have hts := F.2.2.2.2.2.1
  have hG := F.2.2.2.2.2.2.2.2.2.1
  have K := k p e R s m args below meth c H locs cells slots ls Qf F a1 a2 hR hs hl hn ret
  have e4 : List.map (cd_v X) (.ref (cd_mr X) :: S) = .ref (cd_mi X) :: S.map (cd_v X) := by rw [List.map_cons, ← cd_mr_al F.1 hG]; rfl
  rw [e4] at K
  exact va_ldcM F.2.1 F.2.2.1 F.2.2.2.2.1 (hts _ hlink) hG.2.2.2.2.2.1 hd K
def cd_CU (M M' : cd_M) (idx n c : Nat) (x : MethodName) : Prop := cd_C0 M M' n ∧ (x.cls ≠ "java/lang/invoke/MethodHandle" ∧ x.cls ≠ "java/lang/invoke/VarHandle" ∧ (parseMethodDescriptor x.desc).map (fun d => d.parameters.length) = some n) ∧ Cond.methodLink (cd_y M).cls idx x ∈ cd_tbl ∧ Cond.sameMethod x.cls x.cls x.name x.desc ∈ cd_tbl ∧ (∃ b0 m0 r0, Cond.code x b0 m0 r0 ∈ cd_tbl) ∧ Cond.instanceMethod x ∈ cd_tbl ∧ (∃ r : vw_C, vwCl[c]? = some r ∧ ∀ (args : Array Value) (s : State), (∀ w ∈ cd_tbl, w.before args s = true) → (Cond.selects r.1 x (cd_y M')).before args s = true) ∧ Cond.instanceMethod (cd_y M') ∈ cd_tbl
theorem cd_callU {idx a c0 : Nat} {x : MethodName} (hd : decode (cd_cc M) pc = .ok (.invokevirtual idx, 3)) (hc : cd_CU M M' idx As.length c0 x) (hk : cd_k h a = some (.inl c0)) (hL : cd_args (.ref a :: As) ++ List.replicate (cd_nL M' - (cd_args (.ref a :: As)).length) none = L0) (hlen : (cd_args (.ref a :: As)).length ≤ cd_nL M') (hS : (S.map Value.category).sum ≤ 8)
    (k : cd_W X M' kc' ks' 0 L0 [] h (fun r h' => cd_W X M kc ks (pc + 3) L (r.toList ++ S) h' Q)) : cd_W X M (kc + kc') (ks + ks') pc L (As.reverse ++ .ref a :: S) h Q := by
  intro p e R s m args below meth c H locs cells slots ls Qf F a1 a2 hR hs hl hn ret
  obtain ⟨⟨c1, c2, c3, c4, c5, c6⟩, ⟨d1, d2, d3⟩, hlk, hsame, ⟨b0, m0, r0, hcx⟩, hix, ⟨r, hr, hsel⟩, hins⟩ := hc
  have hG := F.2.2.2.2.2.2.2.2.2.1
  have hts := F.2.2.2.2.2.1
  have hM := cd_met F.1 c1 hL hlen k
  have hfr := F.2.2.2.2.2.2.2.2.2.2.1
  have hlo := F.2.2.2.2.2.2.2.2.2.2.2
  have hK := hG.1
  obtain ⟨r', cell, hr', q1, q2, -, q3, -, -⟩ := hR.2.2.2.1 a _ hk
  have hfc := (hK.1 c0 r hr).2.1
  have hpre := cd_pre (As := .ref a :: As) F.1 hG hR
  have hpv : PreV s H r.1 (cd_al X a) (cd_Pc X (.ref a :: As) h) (As.map (cd_v X)) := ⟨hpre.1, ⟨cell, q1, q3, by rw [q2]; exact hfc⟩, hpre.2⟩
  have cw : va_CU R s args (cd_y M).cls r.1 x.cls idx x (cd_y M') (cd_cc M') (cd_nL M') (cd_rt M') (Cond.code (cd_y M') (cd_cc M') (cd_nL M') (cd_rt M') :: cd_tbl) (cd_rm M' kc' ks') kc' ks' As.length :=
    ⟨⟨rfl, rfl, Nat.le_trans c5 hfr, Nat.le_trans c6 hlo, pay_in hts (cd_goodIn c2), List.mem_cons_self⟩, hts _ c2, hts _ c3, ⟨d1, d2⟩, fun sig hsig => by rw [hsig] at d3; exact (Option.some.inj d3).symm, hts _ hlk, hts _ hsame, va_Decl.of (hts _ hix) (hts _ hcx), hsel args s hts, hts _ hins⟩
  refine cd_after (S := S) (a := (Value.ref (cd_al X a) :: As.map (cd_v X)).toArray) F a1 a2 hs hl hn ret ?_
  exact va_runU (Ts := cd_tbl) ⟨F.2.1, F.2.2.1, F.2.2.2.1, F.2.2.2.2.1, hts⟩ hM cw hpv rfl (List.length_map _) hl.1 cd_stkO (lv_room (cd_cat8 hS)) hd ⟨by omega, by omega⟩
theorem cd_selW {C : String} {x y : MethodName} (hw : Cond.selects C x y ∈ cd_tbl) (args : Array Value) (s : State) (hts : ∀ w ∈ cd_tbl, w.before args s = true) : (Cond.selects C x y).before args s = true := hts _ hw
theorem cd_selP {C : String} {y : MethodName} {n : Nat} (hy : y.cls ≠ "java/lang/invoke/MethodHandle" ∧ y.cls ≠ "java/lang/invoke/VarHandle") (h1 : Cond.instantiable C n ∈ cd_tbl) (h2 : Cond.privateMethod y ∈ cd_tbl) (h3 : Cond.instanceMethod y ∈ cd_tbl) (h4 : Cond.sameMethod y.cls y.cls y.name y.desc ∈ cd_tbl) (args : Array Value) (s : State) (hts : ∀ w ∈ cd_tbl, w.before args s = true) : (Cond.selects C y y).before args s = true := by
  obtain ⟨c, k, hc, hk, -, -, -, -⟩ := Cond.instantiable_spec (hts _ h1)
  obtain ⟨cn, ck, r1, hcn, hck, hni, hf, hn1⟩ := Cond.sameMethod_found (hts _ h4)
  obtain ⟨mk, methM, hnamed, hmethM, -, -⟩ := Cond.instanceMethod_spec (hts _ h3)
  have hfound : s.methodFound? y.cls y.name y.desc = some mk := State.methodFound?_of_named hnamed hy
  have hcls : mk.cls = cn := Option.some.inj ((findClass_of_methodNamed hnamed).symm.trans hcn)
  have hsel : selectMethod {} s.vm c mk = .method mk := selectMethod_private hmethM (Cond.privateMethod_at (hts _ h2) mk methM hnamed hmethM)
  simp only [Cond.before, Cond.holds, Cond.value, hc, hfound, hnamed, hsel, hcls, hck]
  simp; exact hni
def cd_CSU (M M' : cd_M) (idx n c : Nat) : Prop := cd_C0 M M' n ∧ Cond.methodLink (cd_y M).cls idx (cd_y M') ∈ cd_tbl ∧ Cond.sameMethod (cd_y M').cls (cd_y M').cls (cd_y M').name (cd_y M').desc ∈ cd_tbl ∧ Cond.superclass (cd_y M).cls (cd_y M').cls ∈ cd_tbl ∧ Cond.instanceMethod (cd_y M') ∈ cd_tbl ∧ (cd_y M').name ≠ "<init>" ∧ ∃ (r : vw_C) (k : Nat), vwCl[c]? = some r ∧ Cond.instantiable r.1 k ∈ cd_tbl
theorem cd_callSU {idx a c0 : Nat} (hd : decode (cd_cc M) pc = .ok (.invokespecial idx, 3)) (hc : cd_CSU M M' idx As.length c0) (hk : cd_k h a = some (.inl c0)) (hL : cd_args (.ref a :: As) ++ List.replicate (cd_nL M' - (cd_args (.ref a :: As)).length) none = L0) (hlen : (cd_args (.ref a :: As)).length ≤ cd_nL M') (hS : (S.map Value.category).sum ≤ 8)
    (k : cd_W X M' kc' ks' 0 L0 [] h (fun r h' => cd_W X M kc ks (pc + 3) L (r.toList ++ S) h' Q)) : cd_W X M (kc + kc') (ks + ks') pc L (As.reverse ++ .ref a :: S) h Q := by
  intro p e R s m args below meth c H locs cells slots ls Qf F a1 a2 hR hs hl hn ret
  obtain ⟨⟨c1, c2, c3, c4, c5, c6⟩, hlk, hsame, hsup, hins, hne, r, kk, hr, hinst⟩ := hc
  have hG := F.2.2.2.2.2.2.2.2.2.1
  have hts := F.2.2.2.2.2.1
  have hM := cd_met F.1 c1 hL hlen k
  have hfr := F.2.2.2.2.2.2.2.2.2.2.1
  have hlo := F.2.2.2.2.2.2.2.2.2.2.2
  have hK := hG.1
  obtain ⟨r', cell, hr', q1, q2, -, q3, -, -⟩ := hR.2.2.2.1 a _ hk
  have hfc := (hK.1 c0 r hr).2.1
  obtain ⟨cC, hcA⟩ := classAt_of (hts _ hinst)
  have hpre := cd_pre (As := .ref a :: As) F.1 hG hR
  have hpv : PreV s H r.1 (cd_al X a) (cd_Pc X (.ref a :: As) h) (As.map (cd_v X)) := ⟨hpre.1, ⟨cell, q1, q3, by rw [q2]; exact hfc⟩, hpre.2⟩
  have cw : va_CS R s args (cd_y M).cls idx (cd_y M') (cd_cc M') (cd_nL M') (cd_rt M') (Cond.code (cd_y M') (cd_cc M') (cd_nL M') (cd_rt M') :: cd_tbl) (cd_rm M' kc' ks') kc' ks' As.length :=
    ⟨⟨rfl, rfl, Nat.le_trans c5 hfr, Nat.le_trans c6 hlo, pay_in hts (cd_goodIn c2), List.mem_cons_self⟩, hts _ hlk, hts _ hsame, hts _ hsup, hts _ hins, hts _ c3, hts _ c2, hne, fun sig hsig => by have d3 := c4.2.2; rw [hsig] at d3; exact (Option.some.inj d3).symm⟩
  refine cd_after (S := S) (a := (Value.ref (cd_al X a) :: As.map (cd_v X)).toArray) F a1 a2 hs hl hn ret ?_
  exact va_runSU (Ts := cd_tbl) hcA ⟨F.2.1, F.2.2.1, F.2.2.2.1, F.2.2.2.2.1, hts⟩ hM cw hpv rfl (List.length_map _) hl.1 cd_stkO (lv_room (cd_cat8 hS)) hd ⟨by omega, by omega⟩
theorem cd_getC {idx a n : Nat} (hd : decode (cd_cc M) pc = .ok (.invokevirtual idx, 3)) (hz : cd_aT[5]? = some (.object "java/lang/Object")) (hk : cd_k h a = some (.inr (5, n))) (ha : 64 ≤ a) (hl1 : Cond.methodLink (cd_y M).cls idx ⟨"java/lang/Object", "getClass", "()Ljava/lang/Class;"⟩ ∈ cd_tbl)
    (hsel : Cond.selects "[Ljava/lang/Object;" ⟨"java/lang/Object", "getClass", "()Ljava/lang/Class;"⟩ ⟨"java/lang/Object", "getClass", "()Ljava/lang/Class;"⟩ ∈ cd_tbl) (hinst : Cond.instanceMethod ⟨"java/lang/Object", "getClass", "()Ljava/lang/Class;"⟩ ∈ cd_tbl) (hnat : Cond.native ⟨"java/lang/Object", "getClass", "()Ljava/lang/Class;"⟩ ∈ cd_tbl)
    (hfr : 1 ≤ cd_fr M) (hlo : 22 ≤ cd_lo M) (hS : (S.map Value.category).sum ≤ 8) (k : cd_W X M kc ks (pc + 3) L (.ref (cd_mr X) :: S) h Q) : cd_W X M kc ks pc L (.ref a :: S) h Q := by
  intro p e R s m args below meth c H locs cells slots ls Qf F a1 a2 hR hs hl hn ret
  have hts := F.2.2.2.2.2.1
  have hG := F.2.2.2.2.2.2.2.2.2.1
  have hK := hG.1
  obtain ⟨cA, cell, hty, hc, hof, hav⟩ := cd_arr F.1 hR hK hz hk
  obtain ⟨e1, e2⟩ := hav.2.2.1 ha
  have hRA := va_nmO (nm := "[Ljava/lang/Object;") (hK.2.1 5 _ hty).2 (by decide +kernel)
  have K := k p e R s m args below meth c H locs cells slots ls Qf F a1 a2 hR hs hl hn ret
  have e4 : List.map (cd_v X) (.ref (cd_mr X) :: S) = .ref (cd_mi X) :: S.map (cd_v X) := by rw [List.map_cons, ← cd_mr_al F.1 hG]; rfl
  rw [e4] at K
  have h8 := cd_cat8 (X := X) hS
  have hlo' := F.2.2.2.2.2.2.2.2.2.2.2
  exact va_getC (a := cd_al X a) F.2.1 F.2.2.1 (F.2.2.2.1.trans hl.1.symm) F.2.2.2.2.1 (hts _ hl1) hG.2.2.2.2.2.2.1.use (hts _ hsel) (hts _ hinst) (hts _ hnat) hG.2.2.2.2.2.1 ⟨cell, hc, hav.2.1, by rw [e1]; exact hRA⟩ (Nat.le_trans hfr F.2.2.2.2.2.2.2.2.2.2.1) (by omega) hd K
def cd_cp (h : cd_H) (a0 sp a dp n : Nat) : cd_H := (cd_n h, cd_k h, fun b j => if b = a ∧ dp ≤ j ∧ j < dp + n then cd_i h a0 (sp + (j - dp)) else cd_i h b j, fun b j => if b = a ∧ dp ≤ j ∧ j < dp + n then cd_l h a0 (sp + (j - dp)) else cd_l h b j, fun b j => if b = a ∧ dp ≤ j ∧ j < dp + n then cd_r h a0 (sp + (j - dp)) else cd_r h b j)
theorem cd_rd_cp (X : cd_E) (h : cd_H) (a0 sp a dp n b : Nat) (t : FieldType) (j : Nat) : cd_rd X (cd_cp h a0 sp a dp n) b t j = if b = a ∧ dp ≤ j ∧ j < dp + n then cd_rd X h a0 t (sp + (j - dp)) else cd_rd X h b t j := by
  by_cases hc : b = a ∧ dp ≤ j ∧ j < dp + n
  · cases t <;> simp [cd_rd, cd_cp, cd_i, cd_l, cd_r, hc]
  · cases t <;> simp [cd_rd, cd_cp, cd_i, cd_l, cd_r, hc]
set_option maxHeartbeats 1000000 in
theorem cd_copy {idx a a0 z n0 n1 sp dp n : Nat} {t : FieldType} (hd : decode (cd_cc M) pc = .ok (.invokestatic idx, 3)) (hlk : Cond.methodLink (cd_y M).cls idx arraycopyName ∈ cd_tbl) (hnat : Cond.native arraycopyName ∈ cd_tbl) (hstat : Cond.static arraycopyName ∈ cd_tbl) (hini : Cond.initialized "java/lang/System" ∈ cd_tbl)
    (hz : cd_aT[z]? = some t) (hk0 : cd_k h a0 = some (.inr (z, n0))) (hk : cd_k h a = some (.inr (z, n1))) (ha : 64 ≤ a) (h0 : 64 ≤ a0) (hb0 : sp + n ≤ n0) (hb1 : dp + n ≤ n1) (hm0 : n0 < 2 ^ 30) (hm1 : n1 < 2 ^ 30)
    (hv : ∀ i, i < n → (∃ x : Int32, cd_rd X h a0 t (sp + i) = .int x ∧ fits t (.int x) = true ∧ refKind t = false) ∨ (∃ C, t = .object C ∧ ∀ v, cd_r h a0 (sp + i) = some v → ∃ c, cd_k h v = some (.inl c) ∧ cd_CA X c C))
    (hfr : 1 ≤ cd_fr M) (hlo : 40 ≤ cd_lo M) (hS : (S.map Value.category).sum ≤ 8) (k : cd_W X M kc ks (pc + 3) L S (cd_cp h a0 sp a dp n) Q) : cd_W X M kc ks pc L (.int (nI n) :: .int (nI dp) :: .ref a :: .int (nI sp) :: .ref a0 :: S) h Q := by
  intro p e R s m args below meth c H locs cells slots ls Qf F a1 a2 hR hs hl hn ret
  have hts := F.2.2.2.2.2.1
  have hG := F.2.2.2.2.2.2.2.2.2.1
  have hK := hG.1
  obtain ⟨cA, cs, hty, hc0, hof0, hav0⟩ := cd_arr F.1 hR hK hz hk0
  obtain ⟨cA', cd, hty', hc1, hof1, hav1⟩ := cd_arr F.1 hR hK hz hk
  cases hty.symm.trans hty'
  obtain ⟨e1, e2⟩ := hav0.2.2.1 h0
  obtain ⟨f1, f2⟩ := hav1.2.2.1 ha
  have hz0 : cs.slots.size = n0 := hav0.2.2.2.1.2 h0
  have hz1 : cd.slots.size = n1 := hav1.2.2.2.1.2 ha
  obtain ⟨-, k0, hk0', cm0, hkk0⟩ := (hK.2.1 z _ hty).1 0 (fun _ => .null)
  have h8 := cd_cat8 (X := X) hS
  have hlo' := F.2.2.2.2.2.2.2.2.2.2.2
  have cl1 : (nI sp).toNatClampNeg = sp := nI_clamp (by omega)
  have cl2 : (nI dp).toNatClampNeg = dp := nI_clamp (by omega)
  have cl3 : (nI n).toNatClampNeg = n := nI_clamp (by omega)
  have getE : ∀ i, i < n → cs.slots.getD (sp + i) .null = cd_rd X h a0 t (sp + i) := by
    intro i hi
    rw [Array.getD_eq_getD_getElem?, hav0.2.2.2.2 (sp + i) (by omega)]
    rfl
  intro T hT Z
  obtain ⟨vm', X', step⟩ := Z.arraycopy F.2.1 F.2.2.2.2.1 (hts _ hlk) (hts _ hnat) (hts _ hstat) (hts _ hini) (src := cd_al X a0) (dst := cd_al X a) (cs := cs) (cd := cd) (srcPos := nI sp) (destPos := nI dp) (n := nI n) (by rw [hT]; exact hc0) (by rw [hT]; exact hc1)
    (fun _ q => by rw [e2] at q; cases q) (fun _ q => by rw [f2] at q; cases q) hav0.1 hav1.1 (by rw [e1]; exact hk0') (by rw [f1]; exact hk0') hkk0 hkk0 (by simp) (nI_pos (by omega)) (nI_pos (by omega)) (nI_pos (by omega))
    (by rw [nI_toInt (by omega), nI_toInt (by omega), hz0]; omega)
    (by rw [nI_toInt (by omega), nI_toInt (by omega), hz1]; omega)
    (fun vm₁ hal i hi => by
      rw [cl3] at hi
      rw [cl1, getE i hi]
      rcases hv i hi with ⟨x, ex, hfit, hnr⟩ | ⟨C, rfl, hel⟩
      · rw [ex]
        exact ⟨hfit, trivial⟩
      · show fits _ (va_rf ((cd_r h a0 (sp + i)).map (cd_al X))) = true ∧ _
        cases hy : cd_r h a0 (sp + i) with
        | none => exact ⟨rfl, by show State.takes _ _ (va_rf ((cd_r h a0 (sp + i)).map (cd_al X))); rw [hy]; exact trivial⟩
        | some y =>
          obtain ⟨cy, hky, hCA⟩ := hel y hy
          obtain ⟨r', cellV, hr', g1, g2, -, g3, -, -⟩ := hR.2.2.2.1 y _ hky
          obtain ⟨kA, comp, r1, r2, r3, -⟩ := (hK.2.1 z _ hty).2
          cases hk0'.symm.trans r1
          cases hkk0.symm.trans r2
          obtain ⟨hasg, -⟩ := hCA s args hts hG _ r3
          obtain ⟨kC, hkC⟩ := (hK.1 cy r' hr').2.2
          obtain ⟨kE, hkE, -⟩ := Vm.findClass_spec r3
          obtain ⟨kC', hkC', -⟩ := hal.2.2 _ _ hkC
          obtain ⟨kE', hkE', -⟩ := hal.2.2 _ _ hkE
          refine ⟨rfl, ?_⟩
          show State.takes _ _ (va_rf ((cd_r h a0 (sp + i)).map (cd_al X)))
          rw [hy]
          refine ⟨cellV, (show T.heap[cd_al X y]? = some cellV by rw [hT]; exact g1), (fun q hq => by rw [hq] at g3; cases g3), ⟨kC', by rw [g2]; exact hkC'⟩, ⟨kE', hkE'⟩, ?_⟩
          show vm₁.assignable _ _ = true
          rw [hal.assignable, g2]
          exact hasg)
    (g := F0 m pc ls (.int (nI n) :: .int (nI dp) :: .ref (cd_al X a) :: .int (nI sp) :: .ref (cd_al X a0) :: S.map (cd_v X))) rfl (by rw [F.2.2.2.1]; exact hl.1) (rest := S.map (cd_v X)) rfl (by rw [F.2.2.1]; exact hd) (Nat.le_trans hfr F.2.2.2.2.2.2.2.2.2.2.1) (by show 2 * 0 + _ + _ ≤ _; have hw : nativeFrameWords "java/lang/System" "arraycopy" 5 = 7 := (by decide); omega)
  have hlt : cd_al X a < H.size := (Array.getElem?_eq_some_iff.mp hc1).1
  have hheap : ((T.setVm vm').setCell (cd_al X a) (copied cs cd (nI sp) (nI dp) (nI n))).heap = H.setIfInBounds (cd_al X a) (copied cs cd (nI sp) (nI dp) (nI n)) := by rw [← hT]; rfl
  have fct := Cell.storeRun_facts cd (nI dp).toNatClampNeg (cs.stretch (nI sp).toNatClampNeg (nI n).toNatClampNeg)
  have hR' : cd_R X (cd_cp h a0 sp a dp n) (H.setIfInBounds (cd_al X a) (copied cs cd (nI sp) (nI dp) (nI n))) := by
    refine cd_R.put F.1 hR ha hk (by simp) (fun b hb => by simp [Array.getElem?_setIfInBounds, Ne.symm hb]) rfl rfl (fun b hb t' j => by rw [cd_rd_cp, if_neg (fun z => hb z.1)]) ⟨(cA, t), copied cs cd (nI sp) (nI dp) (nI n), hty, (by simp [Array.getElem?_setIfInBounds, hlt]), ?_, ?_, ?_, ?_, ?_⟩
    · rw [fct.2.1]; exact hav1.1
    · rw [fct.2.1]; exact hav1.2.1
    · intro ha'; exact ⟨fct.1.trans f1, fct.2.1.trans f2⟩
    · exact cd_sz.of (fct.2.2.1.trans hz1)
    · intro j hj
      have hj : j < n1 := hj
      show (cd.storeRun (nI dp).toNatClampNeg (cs.stretch (nI sp).toNatClampNeg (nI n).toNatClampNeg)).slots[j]? = _
      rw [cl1, cl2, cl3, Cell.storeRun_get _ _ _ _ (by rw [Cell.stretch_length, hz1]; exact hb1), Cell.stretch_length, cd_rd_cp]
      by_cases hc : dp ≤ j ∧ j < dp + n
      · rw [if_pos hc, if_pos ⟨rfl, hc⟩]
        unfold Cell.stretch
        rw [List.getElem?_map, List.getElem?_range (by omega)]
        show some (cs.slots.getD (sp + (j - dp)) .null) = _
        rw [getE (j - dp) (by omega)]
      · rw [if_neg hc, if_neg (fun z => hc z.2)]
        exact hav1.2.2.2.2 j hj
  obtain ⟨t2, b1, b2⟩ := k p e R s m args below meth c _ (locs ++ (cs.stretch (nI sp).toNatClampNeg (nI n).toNatClampNeg).zipIdx.map fun q => ⟨cd_al X a, (nI dp).toNatClampNeg + q.2⟩) cells slots ls Qf F a1 a2 hR' (fun q hq => by
    rcases List.mem_append.mp hq with z | z
    · exact hs q z
    · obtain ⟨y, -, hy⟩ := List.mem_map.mp z
      rw [← hy]
      exact cd_al_ge F.1 ha) hl hn ret _ hheap X'
  exact ⟨t2, step t2 b1, b2⟩
theorem cd_mmax {idx : Nat} {x y : Int32} (hd : decode (cd_cc M) pc = .ok (.invokestatic idx, 3)) (h1 : Cond.methodLink (cd_y M).cls idx Lib.Math.max.name ∈ cd_tbl) (h2 : Cond.static Lib.Math.max.name ∈ cd_tbl) (h3 : Cond.initialized "java/lang/Math" ∈ cd_tbl) (h4 : Cond.code Lib.Math.max.name Lib.Math.max.code 2 (some .int) ∈ cd_tbl) (hfr : 1 ≤ cd_fr M) (hlo : 21 ≤ cd_lo M) (hS : (S.map Value.category).sum ≤ 8) (k : cd_W X M kc ks (pc + 3) L (.int (if x < y then y else x) :: S) h Q) : cd_W X M kc ks pc L (.int y :: .int x :: S) h Q := by
  intro p e R s m args below meth c H locs cells slots ls Qf F a1 a2 hR hs hl hn ret
  have hts := F.2.2.2.2.2.1
  have h8 := cd_cat8 (X := X) hS
  have hlo' := F.2.2.2.2.2.2.2.2.2.2.2
  exact va_mmax F.2.1 F.2.2.1 (F.2.2.2.1.trans hl.1.symm) F.2.2.2.2.1 (hts _ h1) (hts _ h2) (hts _ h3) (hts _ h4) (Nat.le_trans hfr F.2.2.2.2.2.2.2.2.2.2.1) (by omega) (by omega) (by omega) hd (k p e R s m args below meth c H locs cells slots ls Qf F a1 a2 hR hs hl hn ret)
theorem cd_mmin {idx : Nat} {x y : Int32} (hd : decode (cd_cc M) pc = .ok (.invokestatic idx, 3)) (h1 : Cond.methodLink (cd_y M).cls idx Lib.Math.min.name ∈ cd_tbl) (h2 : Cond.static Lib.Math.min.name ∈ cd_tbl) (h3 : Cond.initialized "java/lang/Math" ∈ cd_tbl) (h4 : Cond.code Lib.Math.min.name Lib.Math.min.code 2 (some .int) ∈ cd_tbl) (hfr : 1 ≤ cd_fr M) (hlo : 21 ≤ cd_lo M) (hS : (S.map Value.category).sum ≤ 8) (k : cd_W X M kc ks (pc + 3) L (.int (if y < x then y else x) :: S) h Q) : cd_W X M kc ks pc L (.int y :: .int x :: S) h Q := by
  intro p e R s m args below meth c H locs cells slots ls Qf F a1 a2 hR hs hl hn ret
  have hts := F.2.2.2.2.2.1
  have h8 := cd_cat8 (X := X) hS
  have hlo' := F.2.2.2.2.2.2.2.2.2.2.2
  exact va_mmin F.2.1 F.2.2.1 (F.2.2.2.1.trans hl.1.symm) F.2.2.2.2.1 (hts _ h1) (hts _ h2) (hts _ h3) (hts _ h4) (Nat.le_trans hfr F.2.2.2.2.2.2.2.2.2.2.1) (by omega) (by omega) (by omega) hd (k p e R s m args below meth c H locs cells slots ls Qf F a1 a2 hR hs hl hn ret)
theorem cd_CAo {c : Nat} {r : vw_C} (hr : vwCl[c]? = some r) (h1 : Cond.superclass r.1 "java/lang/Object" ∈ cd_tbl) (h2 : Cond.sameMethod "java/lang/Object" "java/lang/Object" "getClass" "()Ljava/lang/Class;" ∈ cd_tbl) : cd_CA X c "java/lang/Object" := by
  intro s args hts hG comp hcomp
  have hfc := (hG.1.1 c r hr).2.1
  obtain ⟨p, k, kp, q1, q2, q3, q4, q5, q6, q7⟩ := Cond.superclass_spec hfc (hts _ h1)
  obtain ⟨cn, ck, r1, hcn, hck, hni, -, -⟩ := Cond.sameMethod_found (hts _ h2)
  cases hcomp.symm.trans q1
  cases hcomp.symm.trans hcn
  cases q3.symm.trans hck
  refine ⟨?_, kp, q3⟩
  have hsz : 0 < s.vm.classes.size := Nat.lt_of_le_of_lt (Nat.zero_le _) (Array.getElem?_eq_some_iff.mp q2).1
  have hsub : s.vm.isSubclass ((cd_D X).1 c) comp = true := by
    unfold Vm.isSubclass
    obtain ⟨n, hn⟩ : ∃ n, s.vm.classes.size = n + 1 := ⟨s.vm.classes.size - 1, by omega⟩
    rw [hn]
    simp [Vm.isSubclassAux, q2, q4]
  unfold Vm.assignable
  simp [Vm.assignableAux, q2, q3, q5, q6, hni, hsub]
end CDJ
