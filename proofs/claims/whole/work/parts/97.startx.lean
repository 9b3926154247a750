abbrev ws_Xd (l : Launch) (s : State) (D : Nat → ClassId × (Nat → Nat)) (ty : List (ClassId × FieldType)) (e0 : Nat) (fa : Nat → Nat) (st : Nat → Nat × Nat) (f33 f34 b mi : Nat) : cd_E := (l, (fun c => (D c).1, fun c => (D c).2), ty, ws_al s.heap.size e0 fa st f33 f34 b, s.heap.size, s.heap, mi)
theorem ws_fcl {s : State} {ev : Option Value} {v w : Int32} {t : Nat} (F : ws_fok s ev v w t) : ∃ p, ws_cl s 10 p := by
  obtain ⟨-, ⟨cell, h1, h2, h3, -⟩, ⟨cf, k, i, f, c1, g1, g2, -⟩, ⟨cf', k', i', f', c2, g1', g2', -⟩⟩ := F
  obtain ⟨kC, hk, -⟩ := Vm.findClass_spec h3
  refine ⟨(cell.cls, fun k => if k = 0 then f.slot else f'.slot), fun q hq => ?_⟩
  have hq : (("CertificateDesk$Fate", cd_T10, 2) : vw_C) = q := Option.some.inj hq
  subst hq
  refine ⟨fun j hj => ?_, h3, kC, hk⟩
  have hj : j < 2 := hj
  have : j = 0 ∨ j = 1 := by omega
  rcases this with rfl | rfl
  · exact ⟨cf, k, i, f, g1, rfl, g2⟩
  · exact ⟨cf', k', i', f', g1', rfl, g2'⟩
theorem ws_cla {s : State} {args : Array Value} (hts : ∀ w ∈ cd_tbl, w.before args s = true) (hF : ∃ p, ws_cl s 10 p) : ∀ c : Nat, ∃ p, ws_cl s c p := fun c => by
  by_cases hc : c < 15
  · have : c = 0 ∨ c = 1 ∨ c = 2 ∨ c = 3 ∨ c = 4 ∨ c = 5 ∨ c = 6 ∨ c = 7 ∨ c = 8 ∨ c = 9 ∨ c = 10 ∨ c = 11 ∨ c = 12 ∨ c = 13 ∨ c = 14 := by omega
    rcases this with rfl | rfl | rfl | rfl | rfl | rfl | rfl | rfl | rfl | rfl | rfl | rfl | rfl | rfl | rfl
    · exact ws_cls cl_0 hts
    · exact ws_cls cl_1 hts
    · exact ws_cls cl_2 hts
    · exact ws_cls cl_3 hts
    · exact ws_cls cl_4 hts
    · exact ws_cls cl_5 hts
    · exact ws_cls cl_6 hts
    · exact ws_cls cl_7 hts
    · exact ws_cls cl_8 hts
    · exact ws_cls cl_9 hts
    · exact hF
    · exact ws_cls cl_11 hts
    · exact ws_cls cl_12 hts
    · exact ws_cls cl_13 hts
    · exact ws_cls cl_14 hts
  · exact ⟨(0, fun _ => 0), fun q hq => by
      have h1 := (List.getElem?_eq_some_iff.mp hq).1
      have h2 : vwCl.length = 15 := rfl
      omega⟩
section WSX
variable {l : Launch} {s : State} {args : Array Value} {D : Nat → ClassId × (Nat → Nat)} {c0 c1 c2 c3 c4 c5 : ClassId} {e0 : Nat} {fa : Nat → Nat} {st : Nat → Nat × Nat} {f33 f34 b mi : Nat}
abbrev ws_ty (c0 c1 c2 c3 c4 c5 : ClassId) : List (ClassId × FieldType) := [(c0, .int), (c1, .char), (c2, .boolean), (c3, .byte), (c4, .object "CertificateDesk$Key"), (c5, .object "java/lang/Object")]
theorem ws_lt {a : Nat} {c : Cell} (h : s.heap[a]? = some c) : a < s.heap.size := (Array.getElem?_eq_some_iff.mp h).1
theorem ws_cell (hD : ∀ c, ws_cl s c (D c)) (hfa : ∀ i, i < 4 → ws_fok s ((Term.static "CertificateDesk$Fate" (ws_fn.getD i "") "LCertificateDesk$Fate;").eval args s none [] s) (ws_i0 (1 + i) 0) (ws_i0 (1 + i) 1) (fa i)) (hst : ∀ i t p, cd_strs[i]? = some t → cd_csL[i]? = some p → ws_sok s ((Term.string t.1 t.2.1).eval args s none [] s) p.2 (st i)) (hT0 : va_T (.object "java/lang/Object") e0 0 (fun _ => .null) (ws_A s) s s.heap) : ∀ a q, cd_k0 a = some q → cd_cell (ws_Xd l s D (ws_ty c0 c1 c2 c3 c4 c5) e0 fa st f33 f34 b mi) ws_h0 s.heap a q := by
  intro a q hq
  by_cases ha : 33 ≤ a
  · rw [ws_k33 a ha] at hq
    cases hq
  · by_cases h0 : a = 0
    · subst h0
      have hq : (.inr (5, 0) : Nat ⊕ (Nat × Nat)) = q := Option.some.inj hq
      subst hq
      obtain ⟨cell, h1, hof, hvm, hle, hsz, hel, -⟩ := hT0
      exact ⟨_, cell, rfl, h1, hvm, ws_nst hof.1, (fun z => absurd z (by decide)), ⟨⟨hle, hsz⟩, fun z => absurd z (by decide)⟩, fun j hj => absurd hj (Nat.not_lt_zero j)⟩
    · by_cases h5 : a < 5
      · obtain ⟨i, rfl⟩ : ∃ i, a = 1 + i := ⟨a - 1, by omega⟩
        have hi : i < 4 := by omega
        have hq : (.inl 10 : Nat ⊕ (Nat × Nat)) = q := Option.some.inj ((ws_k1 i hi).symm.trans hq)
        subst hq
        obtain ⟨-, ⟨cell, h1, h2, h3, -⟩, F1, F2⟩ := hfa i hi
        obtain ⟨d1, d2, -⟩ := hD 10 ("CertificateDesk$Fate", cd_T10, 2) rfl
        obtain ⟨x1, e1, v1, s1⟩ := ws_slot F1 (d1 0 (by decide))
        obtain ⟨x2, e2, v2, s2⟩ := ws_slot F2 (d1 1 (by decide))
        cases h1.symm.trans e1
        cases h1.symm.trans e2
        refine ⟨("CertificateDesk$Fate", cd_T10, 2), cell, rfl, ?_, Option.some.inj (h3.symm.trans d2), v1, h2, (fun z => by omega), fun k hk => ?_⟩
        · rw [show cd_al (ws_Xd l s D (ws_ty c0 c1 c2 c3 c4 c5) e0 fa st f33 f34 b mi) (1 + i) = fa i from ws_al1 hi]
          exact h1
        · have hk : k < 2 := hk
          have : k = 0 ∨ k = 1 := by omega
          rcases this with rfl | rfl
          · exact s1
          · exact s2
      · by_cases h19 : a < 19
        · obtain ⟨i, rfl⟩ : ∃ i, a = 5 + i := ⟨a - 5, by omega⟩
          have hi : i < 14 := by omega
          have hq : (.inl 13 : Nat ⊕ (Nat × Nat)) = q := Option.some.inj ((ws_k5 i hi).symm.trans hq)
          subst hq
          obtain ⟨t, p, t1, t2, t3, t4, t5⟩ := ws_k19 i hi
          obtain ⟨-, ⟨cell, h1, h2, h3, -⟩, F1, F2, -⟩ := hst i t p t1 t3
          obtain ⟨d1, d2, -⟩ := hD 13 ("java/lang/String", cd_T13, 2) rfl
          obtain ⟨x1, e1, v1, s1⟩ := ws_slot F2 (d1 0 (by decide))
          obtain ⟨x2, e2, v2, s2⟩ := ws_slot F1 (d1 1 (by decide))
          cases h1.symm.trans e1
          cases h1.symm.trans e2
          refine ⟨("java/lang/String", cd_T13, 2), cell, rfl, ?_, Option.some.inj (h3.symm.trans d2), v1, h2, (fun z => by omega), fun k hk => ?_⟩
          · rw [show cd_al (ws_Xd l s D (ws_ty c0 c1 c2 c3 c4 c5) e0 fa st f33 f34 b mi) (5 + i) = (st i).1 from ws_al5 hi]
            exact h1
          · have hk : k < 2 := hk
            have : k = 0 ∨ k = 1 := by omega
            rcases this with rfl | rfl
            · have er : cd_r ws_h0 (5 + i) 0 = some (19 + i) := by
                show ws_r0 (5 + i) 0 = _
                unfold ws_r0
                rw [if_pos ⟨by omega, by omega, rfl⟩]
                exact congrArg some (by omega)
              show cell.slots[(D 13).2 0]? = some (va_rf ((cd_r ws_h0 (5 + i) 0).map (ws_al s.heap.size e0 fa st f33 f34 b)))
              rw [er]
              show cell.slots[(D 13).2 0]? = some (.ref (ws_al s.heap.size e0 fa st f33 f34 b (19 + i)))
              rw [ws_al19 hi]
              exact s1
            · have ei : cd_i ws_h0 (5 + i) 1 = 0 := by
                show ws_i0 (5 + i) 1 = 0
                unfold ws_i0
                rw [if_neg (by omega), if_neg (by omega)]
              show cell.slots[(D 13).2 1]? = some (.int (cd_i ws_h0 (5 + i) 1))
              rw [ei]
              exact s2
        · obtain ⟨i, rfl⟩ : ∃ i, a = 19 + i := ⟨a - 19, by omega⟩
          have hi : i < 14 := by omega
          obtain ⟨t, p, t1, t2, t3, t4, t5⟩ := ws_k19 i hi
          have hq : (.inr (3, p.2.length) : Nat ⊕ (Nat × Nat)) = q := Option.some.inj (t4.symm.trans hq)
          subst hq
          obtain ⟨-, -, -, -, ⟨cell, h1, hof, hvm, hle, hsz, hel, -⟩⟩ := hst i t p t1 t3
          refine ⟨(c3, .byte), cell, rfl, ?_, hvm, ws_nst hof.1, (fun z => by omega), ⟨⟨hle, hsz⟩, fun z => by omega⟩, fun j hj => ?_⟩
          · rw [show cd_al (ws_Xd l s D (ws_ty c0 c1 c2 c3 c4 c5) e0 fa st f33 f34 b mi) (19 + i) = (st i).2 from ws_al19 hi]
            exact h1
          · show cell.slots[j]? = some (.int (ws_i0 (19 + i) j))
            rw [t5 j]
            exact hel j hj
theorem ws_ka (hst : ∀ i t p, cd_strs[i]? = some t → cd_csL[i]? = some p → ws_sok s ((Term.string t.1 t.2.1).eval args s none [] s) p.2 (st i)) (hT0 : va_T (.object "java/lang/Object") e0 0 (fun _ => .null) (ws_A s) s s.heap) : ∀ (a z n : Nat) (t : ClassId × FieldType) (cell : Cell), a < 64 → cd_k0 a = some (.inr (z, n)) → (ws_ty c0 c1 c2 c3 c4 c5)[z]? = some t → s.heap[ws_al s.heap.size e0 fa st f33 f34 b a]? = some cell → s.isArrayOf cell t.2 := by
  intro a z n t cell ha hk ht hc
  by_cases h33 : 33 ≤ a
  · rw [ws_k33 a h33] at hk
    cases hk
  · by_cases h0 : a = 0
    · subst h0
      cases (Option.some.inj hk : (.inr (5, 0) : Nat ⊕ (Nat × Nat)) = .inr (z, n))
      cases ht
      obtain ⟨cell', h1, hof, -⟩ := hT0
      cases h1.symm.trans hc
      exact hof
    · by_cases h5 : a < 5
      · obtain ⟨i, rfl⟩ : ∃ i, a = 1 + i := ⟨a - 1, by omega⟩
        rw [ws_k1 i (by omega)] at hk
        cases hk
      · by_cases h19 : a < 19
        · obtain ⟨i, rfl⟩ : ∃ i, a = 5 + i := ⟨a - 5, by omega⟩
          rw [ws_k5 i (by omega)] at hk
          cases hk
        · obtain ⟨i, rfl⟩ : ∃ i, a = 19 + i := ⟨a - 19, by omega⟩
          have hi : i < 14 := by omega
          obtain ⟨t', p, t1, t2, t3, t4, t5⟩ := ws_k19 i hi
          rw [t4] at hk
          cases hk
          cases ht
          obtain ⟨-, -, -, -, ⟨cell', h1, hof, -⟩⟩ := hst i t' p t1 t3
          rw [ws_al19 hi] at hc
          cases h1.symm.trans hc
          exact hof
theorem ws_over : ∀ w ∈ cd_nest, w ∈ tables_1 := by decide +kernel
theorem ws_srefs : ∀ q ∈ cd_strs, Cond.stringRef q.1 q.2.1 q.2.2.1 ∈ tables_1 := by decide +kernel
theorem ws_sidx {q : String × Nat × String × Nat} (hq : q ∈ cd_strs) : ∃ i, i < 14 ∧ cd_strs[i]? = some q := by
  obtain ⟨i, hi, e⟩ := List.getElem_of_mem hq
  exact ⟨i, hi, by rw [List.getElem?_eq_getElem hi, e]⟩
end WSX
