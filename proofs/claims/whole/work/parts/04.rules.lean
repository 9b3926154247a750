def cd_rv (h : cd_H) (a : Nat) (t : FieldType) (j : Nat) : Value := match t with
  | .long => .long (cd_l h a j)
  | .object _ => va_rf (cd_r h a j)
  | .array _ => va_rf (cd_r h a j)
  | _ => .int (cd_i h a j)
theorem cd_v_rv (X : cd_E) (h : cd_H) (a : Nat) (t : FieldType) (j : Nat) : cd_v X (cd_rv h a t j) = cd_rd X h a t j := by
  cases t <;> first | rfl | exact cd_v_rf X _
def cd_lk (args : Array Value) (s : State) (own : String) (idx : Nat) (ref name desc : String) : Prop := (Cond.fieldLink own idx ref name desc).before args s = true ∨ ∃ host, (Cond.fieldLinkNest own idx ref name desc host).before args s = true
def cd_FL (X : cd_E) (own : String) (idx c k : Nat) (t : FieldType) : Prop :=
  cd_tc c k = t ∧ ∃ r : vw_C, vwCl[c]? = some r ∧ k < r.2.2 ∧ ∀ (s : State) (args : Array Value), (∀ w ∈ cd_tbl, w.before args s = true) → cd_G X s →
    ∃ (ref name desc : String) (cf i : Nat) (kk : Class) (f : Field), cd_lk args s own idx ref name desc ∧ s.fieldFound? ref name desc = some (cf, kk, i, f) ∧ f.isStatic = false ∧ f.slot = (cd_D X).2 c k
def cd_FP (X : cd_E) (M : cd_M) (idx c k : Nat) (t : FieldType) : Prop :=
  cd_tc c k = t ∧ ∃ r : vw_C, vwCl[c]? = some r ∧ k < r.2.2 ∧ ∀ (s : State) (args : Array Value) (m : MethodId), (∀ w ∈ cd_tbl, w.before args s = true) → cd_G X s → s.vm.findClass (cd_y M).cls = some m.cls →
    (∀ a b, a < r.2.2 → b < r.2.2 → a ≠ b → (cd_D X).2 c a ≠ (cd_D X).2 c b) ∧
    ∃ (ref name desc : String) (cf i : Nat) (kk : Class) (f : Field), cd_lk args s (cd_y M).cls idx ref name desc ∧ s.fieldFound? ref name desc = some (cf, kk, i, f) ∧ f.isStatic = false ∧ f.slot = (cd_D X).2 c k ∧
      (hasFlag f.accessFlags Acc.final = false ∨ (m.cls = cf ∧ (cd_y M).name = "<init>")) ∧ ∀ v : Value, narrow t v = v → fits t v = true → narrow f.type v = v ∧ s.fitsSlot ((cd_D X).1 c) .none f.slot v = true
section CDG
variable {X : cd_E} {M : cd_M} {kc ks pc : Nat} {L : List (Option Value)} {S : List Value} {h : cd_H} {Q : Option Value → cd_H → Prop}
theorem cd_get {idx a c k : Nat} {t : FieldType} {v : Value} (hd : decode (cd_cc M) pc = .ok (.getfield idx, 3)) (hf : cd_FL X (cd_y M).cls idx c k t) (hk : cd_k h a = some (.inl c)) (hv : cd_rv h a t k = v) (kk : cd_W X M kc ks (pc + 3) L (v :: S) h Q) : cd_W X M kc ks pc L (.ref a :: S) h Q := by
  intro p e R s m args below meth c0 H locs cells slots ls Qf F a1 a2 hR hs hl hn ret
  subst hv
  have K := kk p e R s m args below meth c0 H locs cells slots ls Qf F a1 a2 hR hs hl hn ret
  obtain ⟨et, r, hr, hkN, hfx⟩ := hf
  obtain ⟨ref, name, desc, cf, i, kc', f, hlk, hfd, hst, hsl⟩ := hfx s args F.2.2.2.2.2.1 F.2.2.2.2.2.2.2.2.2.1
  obtain ⟨r', cell, hr', q1, q2, q3, -, -, q4⟩ := hR.2.2.2.1 a _ hk
  cases hr.symm.trans hr'
  have hslot : cell.slots[f.slot]? = some (cd_v X (cd_rv h a t k)) := by
    rw [hsl, q4 k hkN, et, cd_v_rv]
  rcases hlk with hlk | ⟨host, hlk⟩
  · exact W.getf F.2.1 F.2.2.1 F.2.2.2.2.1 hlk hfd hst q1 q3 hslot rfl rfl hd K
  · exact va_Wgetf F.2.1 F.2.2.1 F.2.2.2.2.1 hlk hfd hst q1 q3 hslot rfl rfl hd K
theorem cd_put0 {idx a c k : Nat} {t : FieldType} {v : Value} {h' : cd_H} (hd : decode (cd_cc M) pc = .ok (.putfield idx, 3)) (hf : cd_FP X M idx c k t) (hk : cd_k h a = some (.inl c)) (ha : 64 ≤ a) (hw : narrow t (cd_v X v) = cd_v X v) (hfit : fits t (cd_v X v) = true)
    (en : cd_n h' = cd_n h) (ek : cd_k h' = cd_k h) (eo : ∀ b, b ≠ a → ∀ (t : FieldType) (j : Nat), cd_rd X h' b t j = cd_rd X h b t j) (ea : ∀ j, j ≠ k → ∀ t : FieldType, cd_rd X h' a t j = cd_rd X h a t j) (ev : cd_rd X h' a t k = cd_v X v)
    (kk : cd_W X M kc ks (pc + 3) L S h' Q) : cd_W X M kc ks pc L (v :: .ref a :: S) h Q := by
  intro p e R s m args below meth c0 H locs cells slots ls Qf F a1 a2 hR hs hl hn ret
  obtain ⟨et, r, hr, hkN, hfx⟩ := hf
  obtain ⟨hap, ref, name, desc, cf, i, kc', f, hlk, hfd, hst, hsl, hfin, hsto⟩ := hfx s args m F.2.2.2.2.2.1 F.2.2.2.2.2.2.2.2.2.1 F.2.2.2.2.1
  obtain ⟨r', cell, hr', q1, q2, q3', q5, q3, q4⟩ := hR.2.2.2.1 a _ hk
  cases hr.symm.trans hr'
  have q3 := q3 ha
  obtain ⟨s1, s2⟩ := hsto _ hw hfit
  have hlt : f.slot < cell.slots.size := by rw [hsl]; exact k2_hasslot (q4 k hkN)
  have haH : cd_al X a < H.size := (Array.getElem?_eq_some_iff.mp q1).1
  have hfin' : hasFlag f.accessFlags Acc.final = false ∨ (m.cls = cf ∧ meth.name = "<init>") := by
    rcases hfin with z | ⟨z1, z2⟩
    · exact Or.inl z
    · exact Or.inr ⟨z1, by rw [F.2.2.2.2.2.2.2.2.1]; exact z2⟩
  have hR' : cd_R X h' (H.setIfInBounds (cd_al X a) (cell.setSlot f.slot (cd_v X v))) := by
    refine cd_R.put F.1 hR ha hk (by simp) (fun b hb => by simp [Array.getElem?_setIfInBounds, Ne.symm hb]) en ek eo ?_
    refine ⟨r, cell.setSlot f.slot (cd_v X v), hr, by simp [Array.getElem?_setIfInBounds, haH], q2, q3', q5, fun _ => q3, fun j hj => ?_⟩
    have h1 := t_set q4 hap hkN (cd_v X v) j hj
    rw [hsl, h1]
    by_cases hjk : j = k
    · subst hjk
      simp only [updV, if_true]
      rw [et, ev]
    · simp only [updV, if_neg hjk]
      rw [ea j hjk]
  have hs' : ∀ q ∈ locs ++ [(⟨cd_al X a, f.slot⟩ : Loc)], cd_B X ≤ q.base := by
    intro q hq
    rcases List.mem_append.mp hq with z | z
    · exact hs q z
    · rw [List.mem_singleton.mp z]
      exact cd_al_ge F.1 ha
  have K := kk p e R s m args below meth c0 _ _ cells slots ls Qf F a1 a2 hR' hs' hl hn ret
  rcases hlk with hlk | ⟨host, hlk⟩
  · exact W.putf F.2.1 F.2.2.1 F.2.2.2.2.1 hlk hfd hst hfin' q1 (by rw [q3]; exact fun z => by cases z) hlt s1 (by rw [q2, q3]; exact s2) rfl rfl hd K
  · exact va_Wputf F.2.1 F.2.2.1 F.2.2.2.2.1 hlk hfd hst hfin' q1 (by rw [q3]; exact fun z => by cases z) hlt s1 (by rw [q2, q3]; exact s2) rfl rfl hd K
theorem cd_rd_si {b a k : Nat} {x : Int32} (hb : b ≠ a) (t : FieldType) (j : Nat) : cd_rd X (cd_si h a k x) b t j = cd_rd X h b t j := cd_rd_of (h := h) (h' := cd_si h a k x) (fun j => by rw [cd_i_si, if_neg (fun z => hb z.1)]) (fun _ => rfl) (fun _ => rfl) t j
theorem cd_rd_sl {b a k : Nat} {x : Int64} (hb : b ≠ a) (t : FieldType) (j : Nat) : cd_rd X (cd_sl h a k x) b t j = cd_rd X h b t j := cd_rd_of (h := h) (h' := cd_sl h a k x) (fun _ => rfl) (fun j => by rw [cd_l_sl, if_neg (fun z => hb z.1)]) (fun _ => rfl) t j
theorem cd_rd_sr {b a k : Nat} {x : Option Nat} (hb : b ≠ a) (t : FieldType) (j : Nat) : cd_rd X (cd_sr h a k x) b t j = cd_rd X h b t j := cd_rd_of (h := h) (h' := cd_sr h a k x) (fun _ => rfl) (fun _ => rfl) (fun j => by rw [cd_r_sr, if_neg (fun z => hb z.1)]) t j
def cd_tI (t : FieldType) : Prop := ∀ (z : cd_H) (a j : Nat), cd_rv z a t j = .int (cd_i z a j)
theorem cd_rd_I {t : FieldType} (ht : cd_tI t) (z : cd_H) (a j : Nat) : cd_rd X z a t j = .int (cd_i z a j) := by rw [← cd_v_rv, ht]; rfl
theorem cd_putI {idx a c k : Nat} {t : FieldType} {x : Int32} (hd : decode (cd_cc M) pc = .ok (.putfield idx, 3)) (hf : cd_FP X M idx c k t) (ht : cd_tI t) (hk : cd_k h a = some (.inl c)) (ha : 64 ≤ a) (hw : narrow t (.int x) = .int x) (hfit : fits t (.int x) = true)
    (kk : cd_W X M kc ks (pc + 3) L S (cd_si h a k x) Q) : cd_W X M kc ks pc L (.int x :: .ref a :: S) h Q := by
  refine cd_put0 (v := .int x) (h' := cd_si h a k x) hd hf hk ha hw hfit rfl rfl (fun b hb t j => cd_rd_si hb t j) (fun j hj t => ?_) ?_ kk
  · cases t <;> simp [cd_rd, cd_i_si, cd_l_si, cd_r_si, hj]
  · rw [cd_rd_I ht, cd_i_si, if_pos ⟨rfl, rfl⟩]; rfl
theorem cd_putL {idx a c k : Nat} {x : Int64} (hd : decode (cd_cc M) pc = .ok (.putfield idx, 3)) (hf : cd_FP X M idx c k .long) (hk : cd_k h a = some (.inl c)) (ha : 64 ≤ a)
    (kk : cd_W X M kc ks (pc + 3) L S (cd_sl h a k x) Q) : cd_W X M kc ks pc L (.long x :: .ref a :: S) h Q := by
  refine cd_put0 (v := .long x) (h' := cd_sl h a k x) hd hf hk ha rfl rfl rfl rfl (fun b hb t j => cd_rd_sl hb t j) (fun j hj t => ?_) ?_ kk
  · cases t <;> simp [cd_rd, cd_i_sl, cd_l_sl, cd_r_sl, hj]
  · show Value.long (cd_l (cd_sl h a k x) a k) = _
    rw [cd_l_sl, if_pos ⟨rfl, rfl⟩]; rfl
theorem cd_putR {idx a c k : Nat} {t : FieldType} {o : Option Nat} (hd : decode (cd_cc M) pc = .ok (.putfield idx, 3)) (hf : cd_FP X M idx c k t) (ht : cd_isR t) (hk : cd_k h a = some (.inl c)) (ha : 64 ≤ a)
    (kk : cd_W X M kc ks (pc + 3) L S (cd_sr h a k o) Q) : cd_W X M kc ks pc L (va_rf o :: .ref a :: S) h Q := by
  refine cd_put0 (v := va_rf o) (h' := cd_sr h a k o) hd hf hk ha ?_ ?_ rfl rfl (fun b hb t j => cd_rd_sr hb t j) (fun j hj t => ?_) ?_ kk
  · rcases ht with ⟨n, rfl⟩ | ⟨n, rfl⟩ <;> cases o <;> rfl
  · rcases ht with ⟨n, rfl⟩ | ⟨n, rfl⟩ <;> cases o <;> rfl
  · cases t <;> simp [cd_rd, cd_i_sr, cd_l_sr, cd_r_sr, hj]
  · rw [cd_v_rf]
    rcases ht with ⟨n, rfl⟩ | ⟨n, rfl⟩ <;> simp [cd_rd, cd_r_sr]
theorem cd_ldc {idx : Nat} {v : Int32} (hd : decode (cd_cc M) pc = .ok (.ldc idx, 2)) (hc : Cond.constant (cd_y M).cls idx v ∈ cd_tbl) (k : cd_W X M kc ks (pc + 2) L (.int v :: S) h Q) : cd_W X M kc ks pc L S h Q := by
  intro p e R s m args below meth c H locs cells slots ls Qf F a1 a2 hR hs hl hn ret
  exact lv_ldc F.2.1 F.2.2.1 F.2.2.2.2.1 (F.2.2.2.2.2.1 _ hc) hd (k p e R s m args below meth c H locs cells slots ls Qf F a1 a2 hR hs hl hn ret)
theorem cd_ldcw {idx : Nat} {v : Int32} (hd : decode (cd_cc M) pc = .ok (.ldc_w idx, 3)) (hc : Cond.constant (cd_y M).cls idx v ∈ cd_tbl) (k : cd_W X M kc ks (pc + 3) L (.int v :: S) h Q) : cd_W X M kc ks pc L S h Q := by
  intro p e R s m args below meth c H locs cells slots ls Qf F a1 a2 hR hs hl hn ret
  exact lv_ldcw F.2.1 F.2.2.1 F.2.2.2.2.1 (F.2.2.2.2.2.1 _ hc) hd (k p e R s m args below meth c H locs cells slots ls Qf F a1 a2 hR hs hl hn ret)
theorem cd_ldc2 {idx : Nat} {v : Int64} (hd : decode (cd_cc M) pc = .ok (.ldc2_w idx, 3)) (hc : Cond.constantLong (cd_y M).cls idx v ∈ cd_tbl) (k : cd_W X M kc ks (pc + 3) L (.long v :: S) h Q) : cd_W X M kc ks pc L S h Q := by
  intro p e R s m args below meth c H locs cells slots ls Qf F a1 a2 hR hs hl hn ret
  exact lv_ldc2 F.2.1 F.2.2.1 F.2.2.2.2.1 (F.2.2.2.2.2.1 _ hc) hd (k p e R s m args below meth c H locs cells slots ls Qf F a1 a2 hR hs hl hn ret)
theorem cd_ldcS {idx i : Nat} {tx : String} (hd : decode (cd_cc M) pc = .ok (.ldc idx, 2)) (hc : ((cd_y M).cls, idx, tx, i) ∈ cd_strs) (k : cd_W X M kc ks (pc + 2) L (.ref i :: S) h Q) : cd_W X M kc ks pc L S h Q := by
  intro p e R s m args below meth c H locs cells slots ls Qf F a1 a2 hR hs hl hn ret
  exact va_ldcS F.2.1 F.2.2.1 F.2.2.2.2.1 (F.2.2.2.2.2.2.2.2.2.1.2.2.1 _ hc) hd (k p e R s m args below meth c H locs cells slots ls Qf F a1 a2 hR hs hl hn ret)
theorem cd_gets {idx : Nat} {v : Value} {C n d ref : String} (hd : decode (cd_cc M) pc = .ok (.getstatic idx, 3)) (hc : (C, n, d, v) ∈ cd_stats) (hlink : Cond.fieldLink (cd_y M).cls idx ref n d ∈ cd_tbl) (hsame : C = ref ∨ Cond.sameField ref C n d ∈ cd_tbl) (k : cd_W X M kc ks (pc + 3) L (v :: S) h Q) : cd_W X M kc ks pc L S h Q := by
  intro p e R s m args below meth c H locs cells slots ls Qf F a1 a2 hR hs hl hn ret
  have hts := F.2.2.2.2.2.1
  obtain ⟨cf, kf, fi, f, a, cell, h1, h2, h3, h4, h5, h6, h7, h8⟩ := F.2.2.2.2.2.2.2.2.2.1.2.2.2.1 _ hc
  have hs2 : s.fieldFound? ref n d = some (cf, kf, fi, f) := by
    rcases hsame with rfl | z
    · exact h1
    · exact u_same (hts _ z) _ h1
  exact W.gets F.2.1 F.2.2.1 F.2.2.2.2.1 (hts _ hlink) hs2 h2 h3 h4 (by rw [hR.2.2.2.2.1 a (Nat.not_le.mp h8)]; exact h5) (fun e => by rw [e] at h6; cases h6) h7 rfl hd (k p e R s m args below meth c H locs cells slots ls Qf F a1 a2 hR hs hl hn ret)
end CDG
section CDA
variable {X : cd_E} {M : cd_M} {kc ks pc : Nat} {L : List (Option Value)} {S : List Value} {h : cd_H} {Q : Option Value → cd_H → Prop}
theorem cd_arr {H : Heap} {s : State} (ok : cd_ok X) (hR : cd_R X h H) (hK : cd_K X s) {a z n : Nat} {t : FieldType} (hz : cd_aT[z]? = some t) (hk : cd_k h a = some (.inr (z, n))) : ∃ (cA : ClassId) (cell : Cell), (cd_ty X)[z]? = some (cA, t) ∧ H[cd_al X a]? = some cell ∧ s.isArrayOf cell t ∧ cd_av X h a n (cA, t) cell := by
  obtain ⟨cA, hty⟩ := ok.2.2 z t hz
  obtain ⟨q, cell, h1, h2, hav⟩ := hR.2.2.2.1 a _ hk
  cases hty.symm.trans h1
  refine ⟨cA, cell, hty, h2, ?_, hav⟩
  by_cases ha : 64 ≤ a
  · obtain ⟨e1, e2⟩ := hav.2.2.1 ha
    obtain ⟨g1, k, g2, g3⟩ := (hK.2.1 z _ hty).1 0 (fun _ => .null)
    exact ⟨(fun q hq => by rw [e2] at hq; cases hq), k, (by rw [e1]; exact g2), g3⟩
  · refine hK.2.2 a z n (cA, t) cell (by omega) ?_ hty ?_
    · rw [← hR.2.2.2.2.2 a (by omega)]; exact hk
    · rw [← hR.2.2.2.2.1 _ (ok.1 a (by omega))]; exact h2
theorem cd_R.arr {H H' : Heap} (ok : cd_ok X) (hR : cd_R X h H) {h' : cd_H} {a z n i : Nat} {t : FieldType} {w : Value} {cA : ClassId} {cell : Cell} (ha : 64 ≤ a) (hk : cd_k h a = some (.inr (z, n))) (hty : (cd_ty X)[z]? = some (cA, t)) (hav : cd_av X h a n (cA, t) cell) (hi : i < n) (e : H'[cd_al X a]? = some (cell.setSlot i w)) (hz : H'.size = H.size) (oq : ∀ b : Nat, b ≠ cd_al X a → H'[b]? = H[b]?)
    (en : cd_n h' = cd_n h) (ek : cd_k h' = cd_k h) (eo : ∀ b, b ≠ a → ∀ (t : FieldType) (j : Nat), cd_rd X h' b t j = cd_rd X h b t j) (ea : ∀ j, j ≠ i → cd_rd X h' a t j = cd_rd X h a t j) (ev : cd_rd X h' a t i = w) : cd_R X h' H' := by
  obtain ⟨a1, a2, a3, a4, a5⟩ := hav
  have a4 : cell.slots.size = n := a4.2 ha
  refine cd_R.put ok hR ha hk hz oq en ek eo ⟨(cA, t), cell.setSlot i w, hty, e, a1, a2, a3, cd_sz.of ((k2_slotsz cell i w).trans a4), fun j hj => ?_⟩
  by_cases hji : j = i
  · subst hji
    rw [ev]
    exact Cell.slots_setSlot_self w (by rw [a4]; exact hi)
  · rw [slot_ne cell w (fun q => hji q.symm), ea j hji]
    exact a5 j hj
theorem cd_locs {locs : List Loc} {a i : Nat} (ok : cd_ok X) (ha : 64 ≤ a) (hs : ∀ q ∈ locs, cd_B X ≤ q.base) : ∀ q ∈ locs ++ [(⟨cd_al X a, i⟩ : Loc)], cd_B X ≤ q.base := by
  intro q hq
  rcases List.mem_append.mp hq with z | z
  · exact hs q z
  · rw [List.mem_singleton.mp z]
    exact cd_al_ge ok ha
theorem cd_alen {a z n : Nat} {t : FieldType} (hd : decode (cd_cc M) pc = .ok (.arraylength, 1)) (hz : cd_aT[z]? = some t) (hk : cd_k h a = some (.inr (z, n))) (k : cd_W X M kc ks (pc + 1) L (.int (nI n) :: S) h Q) : cd_W X M kc ks pc L (.ref a :: S) h Q := by
  intro p e R s m args below meth c H locs cells slots ls Qf F a1 a2 hR hs hl hn ret
  have hK := F.2.2.2.2.2.2.2.2.2.1.1
  obtain ⟨cA, cell, hty, hc, hof, hav⟩ := cd_arr F.1 hR hK hz hk
  exact W.alen (n := nI n) F.2.1 F.2.2.1 hc hof (by first | exact hav.2.2.2.1.1.2 | exact hav.2.2.2.1.1.2.symm) rfl rfl hd (k p e R s m args below meth c H locs cells slots ls Qf F a1 a2 hR hs hl hn ret)
theorem cd_iald {a z n : Nat} {j : Int32} (hd : decode (cd_cc M) pc = .ok (.iaload, 1)) (hz : cd_aT[z]? = some .int) (hk : cd_k h a = some (.inr (z, n))) (hin : vp_in j n) (k : cd_W X M kc ks (pc + 1) L (.int (cd_i h a j.toNatClampNeg) :: S) h Q) : cd_W X M kc ks pc L (.int j :: .ref a :: S) h Q := by
  intro p e R s m args below meth c H locs cells slots ls Qf F a1 a2 hR hs hl hn ret
  have hK := F.2.2.2.2.2.2.2.2.2.1.1
  obtain ⟨cA, cell, hty, hc, hof, hav⟩ := cd_arr F.1 hR hK hz hk
  have hlt : j.toNatClampNeg < n := Nat.not_le.mp fun q => hin (Or.inr q)
  exact W.iald (v := .int (cd_i h a j.toNatClampNeg)) F.2.1 F.2.2.1 hc hof hav.1 (cd_vin hin hav.2.2.2.1.1.1) (by rw [hav.2.2.2.2 _ hlt]; rfl) rfl rfl hd (k p e R s m args below meth c H locs cells slots ls Qf F a1 a2 hR hs hl hn ret)
theorem cd_cald {a z n : Nat} {j : Int32} (hd : decode (cd_cc M) pc = .ok (.caload, 1)) (hz : cd_aT[z]? = some .char) (hk : cd_k h a = some (.inr (z, n))) (hin : vp_in j n) (k : cd_W X M kc ks (pc + 1) L (.int (cd_i h a j.toNatClampNeg) :: S) h Q) : cd_W X M kc ks pc L (.int j :: .ref a :: S) h Q := by
  intro p e R s m args below meth c H locs cells slots ls Qf F a1 a2 hR hs hl hn ret
  have hK := F.2.2.2.2.2.2.2.2.2.1.1
  obtain ⟨cA, cell, hty, hc, hof, hav⟩ := cd_arr F.1 hR hK hz hk
  have hlt : j.toNatClampNeg < n := Nat.not_le.mp fun q => hin (Or.inr q)
  exact W.cald (v := .int (cd_i h a j.toNatClampNeg)) F.2.1 F.2.2.1 hc hof hav.1 (cd_vin hin hav.2.2.2.1.1.1) (by rw [hav.2.2.2.2 _ hlt]; rfl) rfl rfl hd (k p e R s m args below meth c H locs cells slots ls Qf F a1 a2 hR hs hl hn ret)
theorem cd_bald {a z n : Nat} {j : Int32} (hd : decode (cd_cc M) pc = .ok (.baload, 1)) (hz : cd_aT[z]? = some .byte) (hk : cd_k h a = some (.inr (z, n))) (hin : vp_in j n) (k : cd_W X M kc ks (pc + 1) L (.int (cd_i h a j.toNatClampNeg) :: S) h Q) : cd_W X M kc ks pc L (.int j :: .ref a :: S) h Q := by
  intro p e R s m args below meth c H locs cells slots ls Qf F a1 a2 hR hs hl hn ret
  have hK := F.2.2.2.2.2.2.2.2.2.1.1
  obtain ⟨cA, cell, hty, hc, hof, hav⟩ := cd_arr F.1 hR hK hz hk
  have hlt : j.toNatClampNeg < n := Nat.not_le.mp fun q => hin (Or.inr q)
  exact W.bald (v := .int (cd_i h a j.toNatClampNeg)) F.2.1 F.2.2.1 hc hof hav.1 (cd_vin hin hav.2.2.2.1.1.1) (by rw [hav.2.2.2.2 _ hlt]; rfl) rfl rfl hd (k p e R s m args below meth c H locs cells slots ls Qf F a1 a2 hR hs hl hn ret)
theorem cd_zald {a z n : Nat} {j : Int32} (hd : decode (cd_cc M) pc = .ok (.baload, 1)) (hz : cd_aT[z]? = some .boolean) (hk : cd_k h a = some (.inr (z, n))) (hin : vp_in j n) (k : cd_W X M kc ks (pc + 1) L (.int (cd_i h a j.toNatClampNeg) :: S) h Q) : cd_W X M kc ks pc L (.int j :: .ref a :: S) h Q := by
  intro p e R s m args below meth c H locs cells slots ls Qf F a1 a2 hR hs hl hn ret
  have hK := F.2.2.2.2.2.2.2.2.2.1.1
  obtain ⟨cA, cell, hty, hc, hof, hav⟩ := cd_arr F.1 hR hK hz hk
  have hlt : j.toNatClampNeg < n := Nat.not_le.mp fun q => hin (Or.inr q)
  exact W.zald (v := .int (cd_i h a j.toNatClampNeg)) F.2.1 F.2.2.1 hc hof hav.1 (cd_vin hin hav.2.2.2.1.1.1) (by rw [hav.2.2.2.2 _ hlt]; rfl) rfl rfl hd (k p e R s m args below meth c H locs cells slots ls Qf F a1 a2 hR hs hl hn ret)
theorem cd_aald {a z n : Nat} {j : Int32} {C : String} (hd : decode (cd_cc M) pc = .ok (.aaload, 1)) (hz : cd_aT[z]? = some (.object C)) (hk : cd_k h a = some (.inr (z, n))) (hin : vp_in j n) (k : cd_W X M kc ks (pc + 1) L (va_rf (cd_r h a j.toNatClampNeg) :: S) h Q) : cd_W X M kc ks pc L (.int j :: .ref a :: S) h Q := by
  intro p e R s m args below meth c H locs cells slots ls Qf F a1 a2 hR hs hl hn ret
  have hK := F.2.2.2.2.2.2.2.2.2.1.1
  obtain ⟨cA, cell, hty, hc, hof, hav⟩ := cd_arr F.1 hR hK hz hk
  have hlt : j.toNatClampNeg < n := Nat.not_le.mp fun q => hin (Or.inr q)
  have K := k p e R s m args below meth c H locs cells slots ls Qf F a1 a2 hR hs hl hn ret
  rw [List.map_cons, cd_v_rf] at K
  exact W.aald (v := va_rf ((cd_r h a j.toNatClampNeg).map (cd_al X))) F.2.1 F.2.2.1 hc hof rfl hav.1 (cd_vin hin hav.2.2.2.1.1.1) (by rw [hav.2.2.2.2 _ hlt]; rfl) rfl rfl hd K
theorem cd_iasto {a z n : Nat} {j x : Int32} (hd : decode (cd_cc M) pc = .ok (.iastore, 1)) (hz : cd_aT[z]? = some .int) (hk : cd_k h a = some (.inr (z, n))) (ha : 64 ≤ a) (hin : vp_in j n) (k : cd_W X M kc ks (pc + 1) L S (cd_si h a j.toNatClampNeg x) Q) : cd_W X M kc ks pc L (.int x :: .int j :: .ref a :: S) h Q := by
  intro p e R s m args below meth c H locs cells slots ls Qf F a1 a2 hR hs hl hn ret
  have hK := F.2.2.2.2.2.2.2.2.2.1.1
  obtain ⟨cA, cell, hty, hc, hof, hav⟩ := cd_arr F.1 hR hK hz hk
  refine W.iast F.2.1 F.2.2.1 hc hof hav.1 (by rw [show cell.slots.size = n from hav.2.2.2.1.2 ha]; exact hin) rfl rfl hd fun H1 e1 e2 e3 => ?_
  refine k p e R s m args below meth c H1 _ cells slots ls Qf F a1 a2 (cd_R.arr F.1 hR ha hk hty hav (Nat.not_le.mp fun q => hin (Or.inr q)) e1 e2 e3 rfl rfl (fun b hb t i => cd_rd_si hb t i) (fun i hi => ?_) ?_) (cd_locs F.1 ha hs) hl hn ret
  · simp [cd_rd, cd_i_si, hi]
  · exact (congrArg Value.int (if_pos ⟨rfl, rfl⟩) : Value.int (cd_i (cd_si h a j.toNatClampNeg x) a j.toNatClampNeg) = Value.int x)
theorem cd_casto {a z n : Nat} {j x : Int32} (hd : decode (cd_cc M) pc = .ok (.castore, 1)) (hz : cd_aT[z]? = some .char) (hk : cd_k h a = some (.inr (z, n))) (ha : 64 ≤ a) (hin : vp_in j n) (k : cd_W X M kc ks (pc + 1) L S (cd_si h a j.toNatClampNeg (vp_nar .char x)) Q) : cd_W X M kc ks pc L (.int x :: .int j :: .ref a :: S) h Q := by
  intro p e R s m args below meth c H locs cells slots ls Qf F a1 a2 hR hs hl hn ret
  have hK := F.2.2.2.2.2.2.2.2.2.1.1
  obtain ⟨cA, cell, hty, hc, hof, hav⟩ := cd_arr F.1 hR hK hz hk
  refine W.cast F.2.1 F.2.2.1 hc hof hav.1 (by rw [show cell.slots.size = n from hav.2.2.2.1.2 ha]; exact hin) rfl rfl hd fun H1 e1 e2 e3 => ?_
  refine k p e R s m args below meth c H1 _ cells slots ls Qf F a1 a2 (cd_R.arr F.1 hR ha hk hty hav (Nat.not_le.mp fun q => hin (Or.inr q)) e1 e2 e3 rfl rfl (fun b hb t i => cd_rd_si hb t i) (fun i hi => ?_) ?_) (cd_locs F.1 ha hs) hl hn ret
  · simp [cd_rd, cd_i_si, hi]
  · exact (congrArg Value.int (if_pos ⟨rfl, rfl⟩) : Value.int (cd_i (cd_si h a j.toNatClampNeg (vp_nar .char x)) a j.toNatClampNeg) = Value.int (vp_nar .char x))
theorem cd_basto {a z n : Nat} {j x : Int32} (hd : decode (cd_cc M) pc = .ok (.bastore, 1)) (hz : cd_aT[z]? = some .byte) (hk : cd_k h a = some (.inr (z, n))) (ha : 64 ≤ a) (hin : vp_in j n) (k : cd_W X M kc ks (pc + 1) L S (cd_si h a j.toNatClampNeg (vp_nar .byte x)) Q) : cd_W X M kc ks pc L (.int x :: .int j :: .ref a :: S) h Q := by
  intro p e R s m args below meth c H locs cells slots ls Qf F a1 a2 hR hs hl hn ret
  have hK := F.2.2.2.2.2.2.2.2.2.1.1
  obtain ⟨cA, cell, hty, hc, hof, hav⟩ := cd_arr F.1 hR hK hz hk
  refine W.bast F.2.1 F.2.2.1 hc hof hav.1 (by rw [show cell.slots.size = n from hav.2.2.2.1.2 ha]; exact hin) rfl rfl hd fun H1 e1 e2 e3 => ?_
  refine k p e R s m args below meth c H1 _ cells slots ls Qf F a1 a2 (cd_R.arr F.1 hR ha hk hty hav (Nat.not_le.mp fun q => hin (Or.inr q)) e1 e2 e3 rfl rfl (fun b hb t i => cd_rd_si hb t i) (fun i hi => ?_) ?_) (cd_locs F.1 ha hs) hl hn ret
  · simp [cd_rd, cd_i_si, hi]
  · exact (congrArg Value.int (if_pos ⟨rfl, rfl⟩) : Value.int (cd_i (cd_si h a j.toNatClampNeg (vp_nar .byte x)) a j.toNatClampNeg) = Value.int (vp_nar .byte x))
theorem cd_zasto {a z n : Nat} {j x : Int32} (hd : decode (cd_cc M) pc = .ok (.bastore, 1)) (hz : cd_aT[z]? = some .boolean) (hk : cd_k h a = some (.inr (z, n))) (ha : 64 ≤ a) (hin : vp_in j n) (k : cd_W X M kc ks (pc + 1) L S (cd_si h a j.toNatClampNeg (vp_nar .boolean x)) Q) : cd_W X M kc ks pc L (.int x :: .int j :: .ref a :: S) h Q := by
  intro p e R s m args below meth c H locs cells slots ls Qf F a1 a2 hR hs hl hn ret
  have hK := F.2.2.2.2.2.2.2.2.2.1.1
  obtain ⟨cA, cell, hty, hc, hof, hav⟩ := cd_arr F.1 hR hK hz hk
  refine W.zast F.2.1 F.2.2.1 hc hof hav.1 (by rw [show cell.slots.size = n from hav.2.2.2.1.2 ha]; exact hin) rfl rfl hd fun H1 e1 e2 e3 => ?_
  refine k p e R s m args below meth c H1 _ cells slots ls Qf F a1 a2 (cd_R.arr F.1 hR ha hk hty hav (Nat.not_le.mp fun q => hin (Or.inr q)) e1 e2 e3 rfl rfl (fun b hb t i => cd_rd_si hb t i) (fun i hi => ?_) ?_) (cd_locs F.1 ha hs) hl hn ret
  · simp [cd_rd, cd_i_si, hi]
  · exact (congrArg Value.int (if_pos ⟨rfl, rfl⟩) : Value.int (cd_i (cd_si h a j.toNatClampNeg (vp_nar .boolean x)) a j.toNatClampNeg) = Value.int (vp_nar .boolean x))
theorem cd_aastN {a z n : Nat} {j : Int32} {C : String} (hd : decode (cd_cc M) pc = .ok (.aastore, 1)) (hz : cd_aT[z]? = some (.object C)) (hk : cd_k h a = some (.inr (z, n))) (ha : 64 ≤ a) (hin : vp_in j n) (k : cd_W X M kc ks (pc + 1) L S (cd_sr h a j.toNatClampNeg none) Q) : cd_W X M kc ks pc L (.null :: .int j :: .ref a :: S) h Q := by
  intro p e R s m args below meth c H locs cells slots ls Qf F a1 a2 hR hs hl hn ret
  have hK := F.2.2.2.2.2.2.2.2.2.1.1
  obtain ⟨cA, cell, hty, hc, hof, hav⟩ := cd_arr F.1 hR hK hz hk
  refine va_WaastN (C := C) F.2.1 F.2.2.1 hc hof hav.1 (by rw [show cell.slots.size = n from hav.2.2.2.1.2 ha]; exact hin) rfl rfl hd fun H1 e1 e2 e3 => ?_
  refine k p e R s m args below meth c H1 _ cells slots ls Qf F a1 a2 (cd_R.arr F.1 hR ha hk hty hav (Nat.not_le.mp fun q => hin (Or.inr q)) e1 e2 e3 rfl rfl (fun b hb t i => cd_rd_sr hb t i) (fun i hi => ?_) ?_) (cd_locs F.1 ha hs) hl hn ret
  · simp [cd_rd, cd_r_sr, hi]
  · simp [cd_rd, cd_r_sr, va_rf]
def cd_CA (X : cd_E) (c : Nat) (C : String) : Prop := ∀ (s : State) (args : Array Value), (∀ w ∈ cd_tbl, w.before args s = true) → cd_G X s → ∀ comp : ClassId, s.vm.findClass C = some comp → s.vm.assignable ((cd_D X).1 c) comp = true ∧ ∃ kc : Class, s.vm.classes[comp]? = some kc
theorem cd_aast {a z n v c : Nat} {j : Int32} {C : String} (hd : decode (cd_cc M) pc = .ok (.aastore, 1)) (hz : cd_aT[z]? = some (.object C)) (hk : cd_k h a = some (.inr (z, n))) (ha : 64 ≤ a) (hv : cd_k h v = some (.inl c)) (hca : cd_CA X c C) (hin : vp_in j n) (k : cd_W X M kc ks (pc + 1) L S (cd_sr h a j.toNatClampNeg (some v)) Q) : cd_W X M kc ks pc L (.ref v :: .int j :: .ref a :: S) h Q := by
  intro p e R s m args below meth c0 H locs cells slots ls Qf F a1 a2 hR hs hl hn ret
  have hG := F.2.2.2.2.2.2.2.2.2.1
  have hK := hG.1
  obtain ⟨cA, cell, hty, hc, hof, hav⟩ := cd_arr F.1 hR hK hz hk
  obtain ⟨ec, ev⟩ := hav.2.2.1 ha
  obtain ⟨r, cellV, hr, g1, g2, -, g3, -, -⟩ := hR.2.2.2.1 v _ hv
  obtain ⟨-, hfc, kC, hkC⟩ := hK.1 c r hr
  obtain ⟨kA, comp, k1, k2, k3, -⟩ := (hK.2.1 z _ hty).2
  obtain ⟨has, kc', hkc'⟩ := hca s args F.2.2.2.2.2.1 hG comp k3
  have hlt : j.toNatClampNeg < n := Nat.not_le.mp fun q => hin (Or.inr q)
  have h0 : ¬ j < 0 := fun q => hin (Or.inl q)
  refine W.aast F.2.1 F.2.2.1 hc (fun q h => by rw [ev] at h; cases h) hav.1 (by rw [ec]; exact k1) k2 rfl hkc' ⟨h0, by rw [show cell.slots.size = n from hav.2.2.2.1.2 ha]; exact hlt⟩ g1 (fun q h => by rw [h] at g3; cases g3) (by rw [g2]; exact hkC) (by rw [g2]; exact has) rfl rfl hd fun H1 e1 e2 e3 => ?_
  refine k p e R s m args below meth c0 H1 _ cells slots ls Qf F a1 a2 (cd_R.arr F.1 hR ha hk hty hav (Nat.not_le.mp fun q => hin (Or.inr q)) e1 e2 e3 rfl rfl (fun b hb t i => cd_rd_sr hb t i) (fun i hi => ?_) ?_) (cd_locs F.1 ha hs) hl hn ret
  · simp [cd_rd, cd_r_sr, hi]
  · simp [cd_rd, cd_r_sr, va_rf]
def cd_dOK (t : FieldType) : Bool := match t with
  | .float => false
  | .double => false
  | _ => true
theorem cd_rd_new (q : Nat ⊕ (Nat × Nat)) {t : FieldType} (ht : cd_dOK t = true) (j : Nat) : cd_rd X (cd_new h q) (cd_n h) t j = defaultValue t := by
  cases t <;> simp_all [cd_rd, cd_i_new, cd_l_new, cd_r_new, defaultValue, va_rf, cd_dOK]
def cd_NC (own : String) (idx c n : Nat) : Prop := ∃ r : vw_C, vwCl[c]? = some r ∧ (∀ k, k < r.2.2 → cd_dOK (cd_tc c k) = true) ∧ (∀ k, k < r.2.2 → parseFieldDescriptor (r.2.1 k).2.2.1 = some (cd_tc c k)) ∧ (∀ w ∈ u_ws r.1 r.2.1 r.2.2, w ∈ cd_tbl) ∧ Cond.classLink own idx r.1 ∈ cd_tbl ∧ Cond.instantiable r.1 n ∈ cd_tbl ∧ Cond.initialized r.1 ∈ cd_tbl
theorem cd_newo {idx c n : Nat} (hd : decode (cd_cc M) pc = .ok (.new idx, 3)) (hc : cd_NC (cd_y M).cls idx c n) (k : cd_W X M kc ks (pc + 3) L (.ref (cd_n h) :: S) (cd_new h (.inl c)) Q) : cd_W X M (kc + 1) (ks + n) pc L S h Q := by
  intro p e R s m args below meth c0 H locs cells slots ls Qf F a1 a2 hR hs hl hn ret
  obtain ⟨r, hr, hdo, hpar, hin, hcl, hinst, hini⟩ := hc
  have hts := F.2.2.2.2.2.1
  have hK := F.2.2.2.2.2.2.2.2.2.1.1
  obtain ⟨hSl, hfc, -⟩ := hK.1 c r hr
  have hKc : u_Kn s r.1 r.2.1 r.2.2 ((cd_D X).1 c) ((cd_D X).2 c) := by
    obtain ⟨cC, hcA⟩ := classAt_of (hts _ hinst)
    cases hfc.symm.trans hcA.1
    exact ⟨fun k hk => by
      obtain ⟨cf, kf, fi, fd, z1, z2, -⟩ := hSl k hk
      exact ⟨cf, kf, fi, fd, z1, z2⟩, hcA⟩
  have hal := cd_al_n F.1 hR
  refine W.newcK F.2.1 F.2.2.1 F.2.2.2.2.1 (hts _ hcl) (hts _ hinst) (hts _ hini) rfl hd (by omega) (by omega) hKc.2.1 (h := H.size) rfl fun H' kC hkC e1 e2 e3 => ?_
  have hR' : cd_R X (cd_new h (.inl c)) H' := by
    obtain ⟨cell, b1, b2, b3, b4⟩ := u_born (fun k => cd_tc c k) hts hin hKc hkC e1 hpar
    refine cd_R.push F.1 hR e2 e3 ⟨r, cell, hr, by rw [hal]; exact b1, b2, (by rw [b3]; exact (fun z => by cases z)), (by rw [b3]; rfl), (fun _ => b3), fun k hk => ?_⟩
    rw [b4 k hk, cd_rd_new _ (hdo k hk)]
  have K := k p e R s m args below meth c0 H' locs (cells + 1) (slots + n) ls Qf F (by omega) (by omega) hR' hs hl hn ret
  have e4 : List.map (cd_v X) (.ref (cd_n h) :: S) = .ref H.size :: S.map (cd_v X) := by rw [List.map_cons, ← hal]; rfl
  rw [e4] at K
  exact K
theorem cd_newa {at0 : ArrayType} {z N : Nat} {n : Int32} (hd : decode (cd_cc M) pc = .ok (.newarray at0, 2)) (hz : cd_aT[z]? = some (newarray.typeOf at0)) (hac : Cond.arrayClass (newarray.typeOf at0) ∈ cd_tbl) (hdo : cd_dOK (newarray.typeOf at0) = true) (h0 : ¬ n < 0) (hN : n.toNatClampNeg = N) (hby : N * componentBytes (newarray.typeOf at0) ≤ 536870912) (k : cd_W X M kc ks (pc + 2) L (.ref (cd_n h) :: S) (cd_new h (.inr (z, N))) Q) : cd_W X M (kc + 1) (ks + N) pc L (.int n :: S) h Q := by
  intro p e R s m args below meth c H locs cells slots ls Qf F a1 a2 hR hs hl hn ret
  subst hN
  have hts := F.2.2.2.2.2.1
  have hK := F.2.2.2.2.2.2.2.2.2.1.1
  have hal := cd_al_n F.1 hR
  obtain ⟨cA, hty⟩ := F.1.2.2 z _ hz
  have hRA := (hK.2.1 z _ hty).2
  refine W.newa F.2.1 F.2.2.1 (hts _ hac) rfl hd rfl h0 hby (by omega) (by omega) fun cA' kA comp h1 h2 h3 => ?_
  have hcA : cA' = cA := by
    have h4 : s.vm.findClass ("[" ++ (newarray.typeOf at0).toString) = some cA := by cases at0 <;> exact hRA
    exact Option.some.inj (h1.symm.trans h4)
  subst hcA
  rw [arrV_new]
  have hR' : cd_R X (cd_new h (.inr (z, n.toNatClampNeg))) (H.push (arrV cA' n.toNatClampNeg (fun _ => defaultValue (newarray.typeOf at0)))) := by
    refine cd_R.push F.1 hR (by simp) (fun b hb => by rw [Array.getElem?_push, if_neg (Nat.ne_of_lt hb)]) ⟨(cA', newarray.typeOf at0), _, hty, (by rw [hal]; exact Array.getElem?_push_size), (fun z => by cases z), rfl, (fun _ => ⟨rfl, rfl⟩), cd_sz.of (arrV_size _ _ _), fun j hj => ?_⟩
    rw [arrV_read _ _ hj, cd_rd_new _ hdo]
    skip
  have K := k p e R s m args below meth c _ locs (cells + 1) (slots + n.toNatClampNeg) ls Qf F (by omega) (by omega) hR' hs hl hn ret
  have e4 : List.map (cd_v X) (.ref (cd_n h) :: S) = .ref H.size :: S.map (cd_v X) := by rw [List.map_cons, ← hal]; rfl
  rw [e4] at K
  exact K
theorem cd_anew {idx z N : Nat} {C : String} {n : Int32} (hd : decode (cd_cc M) pc = .ok (.anewarray idx, 3)) (hz : cd_aT[z]? = some (.object C)) (hcl : Cond.classLink (cd_y M).cls idx C ∈ cd_tbl) (hov : C ∈ cd_over) (h0 : ¬ n < 0) (hN : n.toNatClampNeg = N) (hby : N * 4 ≤ 536870912) (k : cd_W X M kc ks (pc + 3) L (.ref (cd_n h) :: S) (cd_new h (.inr (z, N))) Q) : cd_W X M (kc + 1) (ks + N) pc L (.int n :: S) h Q := by
  intro p e R s m args below meth c H locs cells slots ls Qf F a1 a2 hR hs hl hn ret
  subst hN
  have hts := F.2.2.2.2.2.1
  have hG := F.2.2.2.2.2.2.2.2.2.1
  have hK := hG.1
  have hal := cd_al_n F.1 hR
  obtain ⟨cA, hty⟩ := F.1.2.2 z _ hz
  obtain ⟨-, -, -, -, -, hRA⟩ := (hK.2.1 z _ hty).2
  refine W.anew F.2.1 F.2.2.1 F.2.2.2.2.1 (hts _ hcl) (va_AO.use (hG.2.2.2.2.1 C hov)) rfl hd rfl h0 hby (by omega) (by omega) fun cA' kA comp h1 h2 h3 h4 => ?_
  have hcA : cA' = cA := Option.some.inj (h1.symm.trans hRA)
  subst hcA
  rw [arrV_new]
  have hR' : cd_R X (cd_new h (.inr (z, n.toNatClampNeg))) (H.push (arrV cA' n.toNatClampNeg (fun _ => Value.null))) := by
    refine cd_R.push F.1 hR (by simp) (fun b hb => by rw [Array.getElem?_push, if_neg (Nat.ne_of_lt hb)]) ⟨(cA', .object C), _, hty, (by rw [hal]; exact Array.getElem?_push_size), (fun z => by cases z), rfl, (fun _ => ⟨rfl, rfl⟩), cd_sz.of (arrV_size _ _ _), fun j hj => ?_⟩
    rw [arrV_read _ _ hj, cd_rd_new (t := .object C) _ rfl]
    rfl
  have K := k p e R s m args below meth c _ locs (cells + 1) (slots + n.toNatClampNeg) ls Qf F (by omega) (by omega) hR' hs hl hn ret
  have e4 : List.map (cd_v X) (.ref (cd_n h) :: S) = .ref H.size :: S.map (cd_v X) := by rw [List.map_cons, ← hal]; rfl
  rw [e4] at K
  exact K
theorem cd_cast {idx a c n : Nat} {r : vw_C} (hd : decode (cd_cc M) pc = .ok (.checkcast idx, 3)) (hr : vwCl[c]? = some r) (hcl : Cond.classLink (cd_y M).cls idx r.1 ∈ cd_tbl ∧ Cond.instantiable r.1 n ∈ cd_tbl) (hk : cd_k h a = some (.inl c)) (k : cd_W X M kc ks (pc + 3) L (.ref a :: S) h Q) : cd_W X M kc ks pc L (.ref a :: S) h Q := by
  intro p e R s m args below meth c0 H locs cells slots ls Qf F a1 a2 hR hs hl hn ret
  have hK := F.2.2.2.2.2.2.2.2.2.1.1
  obtain ⟨r', cell, hr', q1, q2, -, q3, -, -⟩ := hR.2.2.2.1 a _ hk
  have hfc := (hK.1 c r hr).2.1
  obtain ⟨cC, hcA⟩ := classAt_of (F.2.2.2.2.2.1 _ hcl.2)
  exact va_castS (a := cd_al X a) F.2.1 F.2.2.1 F.2.2.2.2.1 (F.2.2.2.2.2.1 _ hcl.1) hcA ⟨cell, q1, q3, by rw [q2]; exact hfc⟩ hd (k p e R s m args below meth c0 H locs cells slots ls Qf F a1 a2 hR hs hl hn ret)
theorem cd_castN {idx : Nat} (hd : decode (cd_cc M) pc = .ok (.checkcast idx, 3)) (k : cd_W X M kc ks (pc + 3) L (.null :: S) h Q) : cd_W X M kc ks pc L (.null :: S) h Q := by
  intro p e R s m args below meth c H locs cells slots ls Qf F a1 a2 hR hs hl hn ret
  exact lv_castN F.2.1 F.2.2.1 hd (k p e R s m args below meth c H locs cells slots ls Qf F a1 a2 hR hs hl hn ret)
theorem cd_tabOut {dflt lo hi : Int} {offs : Array Int} {len tgt : Nat} {x : Int32} (hd : decode (cd_cc M) pc = .ok (.tableswitch dflt lo hi offs, len)) (hx : x.toInt < lo ∨ hi < x.toInt) (ht : (pc : Int) + dflt = (tgt : Int)) (k : cd_W X M kc ks tgt L S h Q) : cd_W X M kc ks pc L (.int x :: S) h Q := by
  intro p e R s m args below meth c H locs cells slots ls Qf F a1 a2 hR hs hl hn ret
  exact lv_tableOut F.2.1 F.2.2.1 hd hx ht (k p e R s m args below meth c H locs cells slots ls Qf F a1 a2 hR hs hl hn ret)
theorem cd_tabIn {dflt lo hi off : Int} {offs : Array Int} {len tgt : Nat} {x : Int32} (hd : decode (cd_cc M) pc = .ok (.tableswitch dflt lo hi offs, len)) (h1 : ¬ x.toInt < lo) (h2 : ¬ hi < x.toInt) (ho : offs[(x.toInt - lo).toNat]? = some off) (ht : (pc : Int) + off = (tgt : Int)) (k : cd_W X M kc ks tgt L S h Q) : cd_W X M kc ks pc L (.int x :: S) h Q := by
  intro p e R s m args below meth c H locs cells slots ls Qf F a1 a2 hR hs hl hn ret
  exact lv_tableIn F.2.1 F.2.2.1 hd h1 h2 ho ht (k p e R s m args below meth c H locs cells slots ls Qf F a1 a2 hR hs hl hn ret)
theorem cd_objInit {idx a : Nat} (hd : decode (cd_cc M) pc = .ok (.invokespecial idx, 3)) (h1 : Cond.methodLink (cd_y M).cls idx objectInit ∈ cd_tbl) (h2 : Cond.instanceMethod objectInit ∈ cd_tbl) (h3 : Cond.code objectInit ⟨#[0xb1]⟩ 1 none ∈ cd_tbl) (hfr : 1 ≤ cd_fr M) (hlo : 20 ≤ cd_lo M) (hS : (S.map Value.category).sum ≤ 8) (k : cd_W X M kc ks (pc + 3) L S h Q) : cd_W X M kc ks pc L (.ref a :: S) h Q := by
  intro p e R s m args below meth c H locs cells slots ls Qf F a1 a2 hR hs hl hn ret
  have hts := F.2.2.2.2.2.1
  have hcat : ((S.map (cd_v X)).map fun v => v.category).sum ≤ 8 := by
    have e1 : (S.map (cd_v X)).map (fun v => v.category) = S.map Value.category := by
      rw [List.map_map]
      exact List.map_congr_left (fun v _ => cd_v_cat X v)
    rw [e1]; exact hS
  refine W.objInit F.2.1 F.2.2.1 F.2.2.2.2.1 (hts _ h1) (hts _ h2) (hts _ h3) rfl (hl.1.trans F.2.2.2.1.symm) rfl hd (Nat.le_trans hfr F.2.2.2.2.2.2.2.2.2.2.1) ?_ (k p e R s m args below meth c H locs cells slots ls Qf F a1 a2 hR hs hl hn ret)
  have h9 := F.2.2.2.2.2.2.2.2.2.2.2
  have h8 := lv_room (m := m) (pc := pc) (ls := ls) (rest := List.map (cd_v X) (.ref a :: S)) hcat
  omega
end CDA
theorem cd_args_rf (o : Option Nat) (vs : List Value) : cd_args (va_rf o :: vs) = some (va_rf o) :: cd_args vs := by cases o <;> rfl
theorem cd_lg_len (X : cd_E) : ∀ As : List Value, (lg_sl (As.map (cd_v X))).length = (cd_args As).length := by
  intro As
  induction As with
  | nil => rfl
  | cons v vs ih =>
    have e : lg_sl (List.map (cd_v X) (v :: vs)) = (if (cd_v X v).category = 2 then [.val (cd_v X v), .second] else [.val (cd_v X v)]) ++ lg_sl (vs.map (cd_v X)) := by simp [lg_sl]
    rw [e, cd_v_cat, List.length_append, ih]
    cases v <;> simp [cd_args, Value.category] <;> omega
def cd_Pc (X : cd_E) (As : List Value) (h : cd_H) : Array Value → State → Prop := fun v U => v = (As.map (cd_v X)).toArray ∧ cd_G X U ∧ cd_R X h U.heap
def cd_Qc (X : cd_E) (Q : Option Value → cd_H → Prop) : Array Value → State → Outcome → State → Prop := fun _ _ o t => ∃ (r : Option Value) (h' : cd_H), o = .returned (r.map (cd_v X)) ∧ Q r h' ∧ cd_R X h' t.heap
def cd_rm (M : cd_M) (kc ks : Nat) : Room := { frames := cd_fr M, cells := kc, slots := ks, locals := cd_lo M }
section CDC
variable {X : cd_E} {M M' : cd_M} {kc ks kc' ks' pc : Nat} {L L0 : List (Option Value)} {S As : List Value} {h : cd_H} {Q : Option Value → cd_H → Prop}
set_option maxHeartbeats 1000000 in
theorem cd_met (ok : cd_ok X) (hp : plainName (cd_y M').cls = true) (hL : cd_args As ++ List.replicate (cd_nL M' - (cd_args As).length) none = L0) (hlen : (cd_args As).length ≤ cd_nL M') (k : cd_W X M' kc ks 0 L0 [] h Q) :
    Met (cd_la X) (cd_y M') (Cond.code (cd_y M') (cd_cc M') (cd_nL M') (cd_rt M') :: cd_tbl) (cd_rm M' kc ks) (cd_Pc X As h) (cd_Qc X Q) kc ks (fun q => cd_B X ≤ q) := by
  refine Met.ofW (cc := cd_cc M') (maxL := cd_nL M') (ret := cd_rt M') hp rfl ?_
  intro p e s m args below meth c s₁ B hml hv
  obtain ⟨rfl, hG, hR⟩ := hv
  have hts0 := atoms_spec (ws := Cond.code (cd_y M') (cd_cc M') (cd_nL M') (cd_rt M') :: cd_tbl) B.pre
  have hlg : (lg_sl (As.map (cd_v X))).length ≤ cd_nL M' := by rw [cd_lg_len]; exact hlen
  have hl := lv_entry (As.map (cd_v X)) (n := cd_nL M') hlg
  rw [lg_entry_eq]
  generalize (lg_sl (As.map (cd_v X)) ++ List.replicate (cd_nL M' - (lg_sl (As.map (cd_v X))).length) Slot.unset).toArray = ls at hl ⊢
  have hx := B.exec
  have hb := B.bytes
  have hr := B.returns
  have hlocks := B.notSynchronized
  refine k p e _ s m _ below meth c s.heap [] 0 0 ls _ ⟨ok, hx, hb, hml, findClass_of_methodNamed B.named, fun w hw => hts0 w (List.mem_cons_of_mem _ hw), hr, hlocks, (name_of_methodNamed B.named B.method).1, hG, Nat.le_refl _, Nat.le_refl _⟩ (Nat.le_of_eq (Nat.zero_add kc)) (Nat.le_of_eq (Nat.zero_add ks)) hR (fun q hq => by cases hq) (cd_has_sub hl (fun q hq => cd_args_sub X As _ 0 q (by rw [hL]; exact hq))) (by rw [← hL]; simp; omega) ?_
  intro pc' ls' H' locs' r h' q hR' hs' hret
  cases r with
  | none => exact W.vret hx hb (hr.trans hret.2) (fun t ht hW => ⟨none, h', rfl, q, by rw [ht]; exact hR'⟩) hs' hret.1 hlocks
  | some v =>
    cases v with
    | int x =>
      obtain ⟨hd, ty, e1, e2⟩ := hret
      exact W.zret hx hb (hr.trans e1) e2 (fun t ht hW => ⟨some (.int x), h', rfl, q, by rw [ht]; exact hR'⟩) hs' hd hlocks
    | long x =>
      obtain ⟨hd, e1⟩ := hret
      exact W.lret hx hb (hr.trans e1) (fun t ht hW => ⟨some (.long x), h', rfl, q, by rw [ht]; exact hR'⟩) hs' hd hlocks
    | null =>
      obtain ⟨hd, ty, e1, e2⟩ := hret
      exact W.aret hx hb (hr.trans e1) e2 (Or.inl rfl) (fun t ht hW => ⟨some .null, h', rfl, q, by rw [ht]; exact hR'⟩) hs' hd hlocks
    | ref x =>
      obtain ⟨hd, ty, e1, e2⟩ := hret
      exact W.aret hx hb (hr.trans e1) e2 (Or.inr ⟨_, rfl⟩) (fun t ht hW => ⟨some (.ref x), h', rfl, q, by rw [ht]; exact hR'⟩) hs' hd hlocks
    | float x => exact hret.elim
    | double x => exact hret.elim
    | retAddr x => exact hret.elim
theorem cd_go {p : Program} {l : Launch} {e : Env} {R : Room} {s : State} {m : MethodId} {args : Array Value} {below : List Frame} {meth : Method} {c : Code} {H : Heap} {locs : List Loc} {cells slots mc ms : Nat} {Qf : State → Prop} {pc : Nat} {ls : Array Slot} {st0 rest : List Value} {Qa : State → Outcome → State → Prop} {free : Addr → Prop}
    (hr : va_Run p l e R s m args below meth c H locs cells slots mc ms (F0 m pc ls st0) rest Qa free)
    (kk : ∀ (v : Option Value) (t : State) (L' : List Loc), (∀ q ∈ L', free q.base) → (∃ st₀, Qa st₀ (.returned v) t) → W p l e R s m args below meth c t.heap (locs ++ L') (cells + mc) (slots + ms) Qf (F0 m (pc + 3) ls (v.toList ++ rest))) : W p l e R s m args below meth c H locs cells slots Qf (F0 m pc ls st0) := by
  intro T hT Z
  obtain ⟨v, st₀, t, T', L, h0, Z', hL, e1, e2, hq, st⟩ := hr T hT Z
  obtain ⟨t2, a1, b1⟩ := kk v t L hL ⟨st₀, hq⟩ T' e1 Z'
  exact ⟨t2, st t2 a1, b1⟩
theorem cd_goodIn {M' : cd_M} (hc : Cond.code (cd_y M') (cd_cc M') (cd_nL M') (cd_rt M') ∈ cd_tbl) : GoodIn cd_tbl (Cond.code (cd_y M') (cd_cc M') (cd_nL M') (cd_rt M') :: cd_tbl) := by
  intro w hw
  rcases List.mem_cons.mp hw with rfl | hw
  · exact ⟨hc, cd_good _ hc⟩
  · exact ⟨hw, cd_good w hw⟩
theorem cd_pre (ok : cd_ok X) {s : State} {H : Heap} (hG : cd_G X s) (hR : cd_R X h H) : PreS s H (cd_Pc X As h) (As.map (cd_v X)) :=
  ⟨fun _ U _ _ q => ⟨q.1, cd_G_same q.2.1 rfl, q.2.2⟩, fun U hU hW => ⟨rfl, cd_G_warm hG hW, by rw [hU]; exact hR⟩⟩
theorem cd_cat8 (hS : (S.map Value.category).sum ≤ 8) : ((S.map (cd_v X)).map fun v => v.category).sum ≤ 8 := by
  have e1 : (S.map (cd_v X)).map (fun v => v.category) = S.map Value.category := by
    rw [List.map_map]
    exact List.map_congr_left (fun v _ => cd_v_cat X v)
  rw [e1]; exact hS
def cd_C0 (M M' : cd_M) (n : Nat) : Prop := plainName (cd_y M').cls = true ∧ Cond.code (cd_y M') (cd_cc M') (cd_nL M') (cd_rt M') ∈ cd_tbl ∧ Cond.initialized (cd_y M').cls ∈ cd_tbl ∧ ((cd_y M').cls ≠ "java/lang/invoke/MethodHandle" ∧ (cd_y M').cls ≠ "java/lang/invoke/VarHandle" ∧ (parseMethodDescriptor (cd_y M').desc).map (fun d => d.parameters.length) = some n) ∧ cd_fr M' + 1 ≤ cd_fr M ∧ 8 + (cd_nL M' + 11) + cd_lo M' ≤ cd_lo M
theorem cd_after {p : Program} {e : Env} {R : Room} {s : State} {m : MethodId} {args : Array Value} {below : List Frame} {meth : Method} {c : Code} {H : Heap} {locs : List Loc} {cells slots : Nat} {Qf : State → Prop} {ls : Array Slot} {st0 : List Value} {a : Array Value}
    (F : cd_F X M p R s m args meth c) (a1 : cells + (kc + kc') ≤ R.cells) (a2 : slots + (ks + ks') ≤ R.slots) (hs : ∀ q ∈ locs, cd_B X ≤ q.base) (hl : lv_has ls (cd_nL M) (cd_as X L 0)) (hn : L.length = cd_nL M)
    (ret : ∀ (pc' : Nat) (ls' : Array Slot) (H' : Heap) (locs' : List Loc) (r : Option Value) (h' : cd_H), Q r h' → cd_R X h' H' → (∀ q ∈ locs', cd_B X ≤ q.base) → cd_ret M pc' r → W p (cd_la X) e R s m args below meth c H' locs' R.cells R.slots Qf (F0 m pc' ls' (r.toList.map (cd_v X))))
    (hr : va_Run p (cd_la X) e R s m args below meth c H locs cells slots kc' ks' (F0 m pc ls st0) (S.map (cd_v X)) (cd_Qc X (fun r h' => cd_W X M kc ks (pc + 3) L (r.toList ++ S) h' Q) a) (fun q => cd_B X ≤ q)) : W p (cd_la X) e R s m args below meth c H locs cells slots Qf (F0 m pc ls st0) := by
  refine cd_go hr (fun v t L' hL' hq => ?_)
  obtain ⟨st₀, r, h', ho, hQ, hR'⟩ := hq
  have hv : v = r.map (cd_v X) := Outcome.returned.inj ho
  have K := hQ p e R s m args below meth c t.heap (locs ++ L') (cells + kc') (slots + ks') ls Qf F (by omega) (by omega) hR' (fun q hq => by
    rcases List.mem_append.mp hq with z | z
    · exact hs q z
    · exact hL' q z) hl hn ret
  have e4 : List.map (cd_v X) (r.toList ++ S) = v.toList ++ S.map (cd_v X) := by
    rw [hv]
    cases r <;> simp
  rw [e4] at K
  exact K
theorem cd_stk : List.map (cd_v X) (As.reverse ++ S) = (As.map (cd_v X)).reverse ++ S.map (cd_v X) := by simp [List.map_reverse]
theorem cd_stkO {a : Nat} : List.map (cd_v X) (As.reverse ++ .ref a :: S) = (As.map (cd_v X)).reverse ++ .ref (cd_al X a) :: S.map (cd_v X) := by simp [List.map_reverse, cd_v]
def cd_CS (X : cd_E) (M M' : cd_M) (idx n : Nat) : Prop := cd_C0 M M' n ∧ Cond.static (cd_y M') ∈ cd_tbl ∧ (Cond.methodLink (cd_y M).cls idx (cd_y M') ∈ cd_tbl ∨ ∃ host, ∀ s : State, cd_G X s → va_Nw (.methodLinkNest (cd_y M).cls idx (cd_y M') host) s)
theorem cd_callS {idx : Nat} (hd : decode (cd_cc M) pc = .ok (.invokestatic idx, 3)) (hc : cd_CS X M M' idx As.length) (hL : cd_args As ++ List.replicate (cd_nL M' - (cd_args As).length) none = L0) (hlen : (cd_args As).length ≤ cd_nL M') (hS : (S.map Value.category).sum ≤ 8)
    (k : cd_W X M' kc' ks' 0 L0 [] h (fun r h' => cd_W X M kc ks (pc + 3) L (r.toList ++ S) h' Q)) : cd_W X M (kc + kc') (ks + ks') pc L (As.reverse ++ S) h Q := by
  intro p e R s m args below meth c H locs cells slots ls Qf F a1 a2 hR hs hl hn ret
  obtain ⟨⟨c1, c2, c3, c4, c5, c6⟩, hst, hlk⟩ := hc
  have hG := F.2.2.2.2.2.2.2.2.2.1
  have hts := F.2.2.2.2.2.1
  have hM := cd_met F.1 c1 hL hlen k
  have hfr := F.2.2.2.2.2.2.2.2.2.2.1
  have hlo := F.2.2.2.2.2.2.2.2.2.2.2
  have hroom : (cd_rm M' kc' ks').frames + 1 ≤ R.frames ∧ 8 + (cd_nL M' + 11) + (cd_rm M' kc' ks').locals ≤ R.locals := ⟨Nat.le_trans c5 hfr, Nat.le_trans c6 hlo⟩
  refine cd_after (S := S) (a := (As.map (cd_v X)).toArray) F a1 a2 hs hl hn ret ?_
  rcases hlk with hlk | ⟨host, hlk⟩
  · exact va_runS (Ts := cd_tbl) ⟨F.2.1, F.2.2.1, F.2.2.2.1, F.2.2.2.2.1, hts⟩ hM ⟨callB_of As.length hts (cd_goodIn c2) rfl rfl rfl (hts _ c3) (hts _ hlk) c4 hroom, hts _ hst⟩ (cd_pre F.1 hG hR) rfl (List.length_map _) hl.1 cd_stk (lv_room (cd_cat8 hS)) hd ⟨by omega, by omega⟩
  · exact va_runSN (Ts := cd_tbl) ⟨F.2.1, F.2.2.1, F.2.2.2.1, F.2.2.2.2.1, hts⟩ hM ⟨va_cnB As.length hts (cd_goodIn c2) rfl rfl rfl (hlk s hG) (hts _ c3) c4 hroom, hts _ hst, trivial⟩ (cd_pre F.1 hG hR) rfl (List.length_map _) hl.1 cd_stk (lv_room (cd_cat8 hS)) hd ⟨by omega, by omega⟩
def cd_CV (X : cd_E) (M M' : cd_M) (idx n c : Nat) : Prop := cd_C0 M M' n ∧ (∃ r : vw_C, vwCl[c]? = some r ∧ (cd_y M').cls = r.1) ∧ Cond.instanceMethod (cd_y M') ∈ cd_tbl ∧ Cond.selects (cd_y M').cls (cd_y M') (cd_y M') ∈ cd_tbl ∧ (Cond.methodLink (cd_y M).cls idx (cd_y M') ∈ cd_tbl ∨ ∃ host, ∀ s : State, cd_G X s → va_Nw (.methodLinkNest (cd_y M).cls idx (cd_y M') host) s)
theorem cd_callV {idx a c0 : Nat} (hd : decode (cd_cc M) pc = .ok (.invokevirtual idx, 3)) (hc : cd_CV X M M' idx As.length c0) (hk : cd_k h a = some (.inl c0)) (hL : cd_args (.ref a :: As) ++ List.replicate (cd_nL M' - (cd_args (.ref a :: As)).length) none = L0) (hlen : (cd_args (.ref a :: As)).length ≤ cd_nL M') (hS : (S.map Value.category).sum ≤ 8)
    (k : cd_W X M' kc' ks' 0 L0 [] h (fun r h' => cd_W X M kc ks (pc + 3) L (r.toList ++ S) h' Q)) : cd_W X M (kc + kc') (ks + ks') pc L (As.reverse ++ .ref a :: S) h Q := by
  intro p e R s m args below meth c H locs cells slots ls Qf F a1 a2 hR hs hl hn ret
  obtain ⟨⟨c1, c2, c3, c4, c5, c6⟩, ⟨r, hr, hcls⟩, hins, hsel, hlk⟩ := hc
  have hG := F.2.2.2.2.2.2.2.2.2.1
  have hts := F.2.2.2.2.2.1
  have hM := cd_met F.1 c1 hL hlen k
  have hfr := F.2.2.2.2.2.2.2.2.2.2.1
  have hlo := F.2.2.2.2.2.2.2.2.2.2.2
  have hroom : (cd_rm M' kc' ks').frames + 1 ≤ R.frames ∧ 8 + (cd_nL M' + 11) + (cd_rm M' kc' ks').locals ≤ R.locals := ⟨Nat.le_trans c5 hfr, Nat.le_trans c6 hlo⟩
  have hK := hG.1
  obtain ⟨r', cell, hr', q1, q2, -, q3, -, -⟩ := hR.2.2.2.1 a _ hk
  have hfc := (hK.1 c0 r hr).2.1
  have hpre := cd_pre (As := .ref a :: As) F.1 hG hR
  have hpv : PreV s H (cd_y M').cls (cd_al X a) (cd_Pc X (.ref a :: As) h) (As.map (cd_v X)) := ⟨hpre.1, ⟨cell, q1, q3, by rw [q2, hcls]; exact hfc⟩, hpre.2⟩
  refine cd_after (S := S) (a := (Value.ref (cd_al X a) :: As.map (cd_v X)).toArray) F a1 a2 hs hl hn ret ?_
  rcases hlk with hlk | ⟨host, hlk⟩
  · exact va_runV (Ts := cd_tbl) ⟨F.2.1, F.2.2.1, F.2.2.2.1, F.2.2.2.2.1, hts⟩ hM ⟨callB_of As.length hts (cd_goodIn c2) rfl rfl rfl (hts _ c3) (hts _ hlk) c4 hroom, hts _ hins, hts _ hsel⟩ hpv rfl (List.length_map _) hl.1 cd_stkO (lv_room (cd_cat8 hS)) hd ⟨by omega, by omega⟩
  · exact va_runVN (Ts := cd_tbl) ⟨F.2.1, F.2.2.1, F.2.2.2.1, F.2.2.2.2.1, hts⟩ hM ⟨va_cnB As.length hts (cd_goodIn c2) rfl rfl rfl (hlk s hG) (hts _ c3) c4 hroom, hts _ hins, hts _ hsel⟩ hpv rfl (List.length_map _) hl.1 cd_stkO (lv_room (cd_cat8 hS)) hd ⟨by omega, by omega⟩
def cd_CI (X : cd_E) (M M' : cd_M) (idx n : Nat) : Prop := cd_C0 M M' n ∧ (cd_y M').name = "<init>" ∧ cd_rt M' = none ∧ Cond.instanceMethod (cd_y M') ∈ cd_tbl ∧ (Cond.methodLink (cd_y M).cls idx (cd_y M') ∈ cd_tbl ∨ ∃ host, ∀ s : State, cd_G X s → va_Nw (.methodLinkNest (cd_y M).cls idx (cd_y M') host) s)
theorem cd_callI {idx a : Nat} (hd : decode (cd_cc M) pc = .ok (.invokespecial idx, 3)) (hc : cd_CI X M M' idx As.length) (hL : cd_args (.ref a :: As) ++ List.replicate (cd_nL M' - (cd_args (.ref a :: As)).length) none = L0) (hlen : (cd_args (.ref a :: As)).length ≤ cd_nL M') (hS : (S.map Value.category).sum ≤ 8)
    (k : cd_W X M' kc' ks' 0 L0 [] h (fun r h' => cd_W X M kc ks (pc + 3) L (r.toList ++ S) h' Q)) : cd_W X M (kc + kc') (ks + ks') pc L (As.reverse ++ .ref a :: S) h Q := by
  intro p e R s m args below meth c H locs cells slots ls Qf F a1 a2 hR hs hl hn ret
  obtain ⟨⟨c1, c2, c3, c4, c5, c6⟩, hnm, hrt, hins, hlk⟩ := hc
  have hG := F.2.2.2.2.2.2.2.2.2.1
  have hts := F.2.2.2.2.2.1
  have hM := cd_met F.1 c1 hL hlen k
  have hfr := F.2.2.2.2.2.2.2.2.2.2.1
  have hlo := F.2.2.2.2.2.2.2.2.2.2.2
  have hroom : (cd_rm M' kc' ks').frames + 1 ≤ R.frames ∧ 8 + (cd_nL M' + 11) + (cd_rm M' kc' ks').locals ≤ R.locals := ⟨Nat.le_trans c5 hfr, Nat.le_trans c6 hlo⟩
  have hgi := cd_goodIn c2
  have hpre := cd_pre (As := .ref a :: As) F.1 hG hR
  refine cd_after (S := S) (a := (Value.ref (cd_al X a) :: As.map (cd_v X)).toArray) F a1 a2 hs hl hn ret ?_
  rw [hrt] at hM hgi
  rcases hlk with hlk | ⟨host, hlk⟩
  · exact va_runI (Ts := cd_tbl) ⟨F.2.1, F.2.2.1, F.2.2.2.1, F.2.2.2.2.1, hts⟩ hM ⟨callB_of As.length hts hgi rfl rfl rfl (hts _ c3) (hts _ hlk) c4 hroom, hnm, hts _ hins⟩ hpre rfl (List.length_map _) hl.1 cd_stkO (lv_room (cd_cat8 hS)) hd ⟨by omega, by omega⟩
  · exact va_runIN (Ts := cd_tbl) ⟨F.2.1, F.2.2.1, F.2.2.2.1, F.2.2.2.2.1, hts⟩ hM ⟨va_cnB As.length hts hgi rfl rfl rfl (hlk s hG) (hts _ c3) c4 hroom, hnm, hts _ hins⟩ hpre rfl (List.length_map _) hl.1 cd_stkO (lv_room (cd_cat8 hS)) hd ⟨by omega, by omega⟩
end CDC
def cd_CL (c n : Nat) : Prop := ∃ r : vw_C, vwCl[c]? = some r ∧ (∀ w ∈ u_ws r.1 r.2.1 r.2.2, w ∈ cd_tbl) ∧ (∀ k, k < r.2.2 → parseFieldDescriptor (r.2.1 k).2.2.1 = some (cd_tc c k)) ∧ (∀ a, a < r.2.2 → ∀ b, b < r.2.2 → a ≠ b → (r.2.1 a).2.1 ≠ (r.2.1 b).2.1) ∧ Cond.instantiable r.1 n ∈ cd_tbl ∧ Cond.initialized r.1 ∈ cd_tbl ∧ ∀ k, k < r.2.2 → cd_dOK (cd_tc c k) = true
theorem cd_NC.of {own : String} {idx c n : Nat} {r : vw_C} (hc : cd_CL c n) (hr : vwCl[c]? = some r) (hl : Cond.classLink own idx r.1 ∈ cd_tbl) : cd_NC own idx c n := by
  obtain ⟨r', h1, h2, h3, h4, h5, h6, h7⟩ := hc
  cases hr.symm.trans h1
  exact ⟨r, hr, h7, h3, h2, hl, h5, h6⟩
theorem cd_same {args : Array Value} {s : State} {ref own n d : String} (hts : ∀ w ∈ cd_tbl, w.before args s = true) (hsame : ref = own ∨ Cond.sameField ref own n d ∈ cd_tbl) {x : ClassId × Class × Nat × Field} (hx : s.fieldFound? own n d = some x) : s.fieldFound? ref n d = some x := by
  rcases hsame with rfl | z
  · exact hx
  · exact u_same (hts _ z) _ hx
theorem cd_FL.of {X : cd_E} {own ref : String} {idx c k : Nat} {t : FieldType} {r : vw_C} (ht : cd_tc c k = t) (hr : vwCl[c]? = some r) (hk : k < r.2.2) (hl : Cond.fieldLink own idx ref (r.2.1 k).2.1 (r.2.1 k).2.2.1 ∈ cd_tbl) (hsame : ref = (r.2.1 k).1 ∨ Cond.sameField ref (r.2.1 k).1 (r.2.1 k).2.1 (r.2.1 k).2.2.1 ∈ cd_tbl) : cd_FL X own idx c k t := by
  refine ⟨ht, r, hr, hk, fun s args hts hG => ?_⟩
  obtain ⟨cf, kf, fi, fd, h1, h2, h3⟩ := (hG.1.1 c r hr).1 k hk
  exact ⟨ref, _, _, cf, fi, kf, fd, Or.inl (hts _ hl), cd_same hts hsame h1, h3, h2⟩
theorem cd_FP.of {X : cd_E} {M : cd_M} {ref : String} {idx c k n : Nat} {t : FieldType} {r : vw_C} (hc : cd_CL c n) (ht : cd_tc c k = t) (hr : vwCl[c]? = some r) (hk : k < r.2.2) (hl : Cond.fieldLink (cd_y M).cls idx ref (r.2.1 k).2.1 (r.2.1 k).2.2.1 ∈ cd_tbl) (hsame : ref = (r.2.1 k).1 ∨ Cond.sameField ref (r.2.1 k).1 (r.2.1 k).2.1 (r.2.1 k).2.2.1 ∈ cd_tbl)
    (hfin : (r.2.1 k).2.2.2 = false ∨ ((r.2.1 k).2.2.2 = true ∧ (cd_y M).name = "<init>" ∧ (r.2.1 k).1 = (cd_y M).cls)) : cd_FP X M idx c k t := by
  obtain ⟨r', h1, hin, hpar, hnm, hinst, -, -⟩ := hc
  cases hr.symm.trans h1
  refine ⟨ht, r, hr, hk, fun s args m hts hG hown => ?_⟩
  obtain ⟨cC, hcA⟩ := classAt_of (hts _ hinst)
  obtain ⟨hSl, hfc, -⟩ := hG.1.1 c r hr
  cases hfc.symm.trans hcA.1
  obtain ⟨-, kC, hkC, hkind⟩ := hcA
  obtain ⟨cf, kf, fi, fd, g1, g2, g3⟩ := hSl k hk
  refine ⟨fun a b ha hb hab => ?_, ref, _, _, cf, fi, kf, fd, Or.inl (hts _ hl), cd_same hts hsame g1, g3, g2, ?_, fun v hn hv => ?_⟩
  · obtain ⟨_, _, _, fa, ia, ea, -⟩ := hSl a ha
    obtain ⟨_, _, _, fb, ib, eb, -⟩ := hSl b hb
    rw [← ea, ← eb]
    refine u_apart (u_lays hts hin ha) (u_lays hts hin hb) ia ib ?_
    rw [(State.fieldFound?_type ia (hpar a ha)).1, (State.fieldFound?_type ib (hpar b hb)).1]
    exact hnm a ha b hb hab
  · have hlay := hts _ (hin _ (u_in_lay hk))
    unfold u_lay at hlay
    rcases hfin with z | ⟨z1, z2, z3⟩
    · rw [if_neg (by rw [z]; decide)] at hlay
      obtain ⟨_, _, _, _, _, _, _, _, hi', _, hfin', _⟩ := Cond.lays_spec hlay
      cases g1.symm.trans hi'
      exact Or.inl hfin'
    · rw [if_pos z1] at hlay
      refine Or.inr ⟨?_, z2⟩
      obtain ⟨_, _, c', _, _, _, -, -, hf', -, -, -, hown2, -⟩ := Cond.laysFinal_spec hlay
      have e1 : c' = cf := by have := g1.symm.trans hf'; simp at this; exact this.1.symm
      rw [z3] at hown2
      rw [← e1]; exact Option.some.inj (hown.symm.trans hown2)
  · exact u_fits hfc hkC hkind (u_lays hts hin hk) g1 (by rw [← ht]; exact hpar k hk) hn hv
theorem cd_rfs {o : Option Nat} {b : Nat} (h : o = some b) : va_rf o = .ref b := by rw [h]; rfl
theorem cd_rfn {o : Option Nat} (h : o = none) : va_rf o = .null := by rw [h]; rfl
theorem cd_kl_rf (o : Option Nat) : cd_kl (some (va_rf o)) = some (va_rf o) := by cases o <;> rfl
theorem cd_nz {x : Int32} (h : x = 0 ∨ x = 1) : narrow .boolean (.int x) = .int x := by rcases h with rfl | rfl <;> rfl
theorem cd_fz {x : Int32} (h : x = 0 ∨ x = 1) : fits .boolean (.int x) = true := by rcases h with rfl | rfl <;> rfl
theorem cd_inc1 (x : Int32) : x + Int32.ofInt 1 = x + 1 := by rw [show Int32.ofInt 1 = 1 from by decide]
theorem cd_incm1 (x : Int32) : x + Int32.ofInt (-1) = x + (-1) := by rw [show Int32.ofInt (-1) = -1 from by decide]
theorem cd_inc5 (x : Int32) : x + Int32.ofInt 5 = x + 5 := by rw [show Int32.ofInt 5 = 5 from by decide]
