theorem ws_X {s : State} {args : Array Value} (l : Launch) {b L : Nat} {xs : Nat → Int32} (hts : ∀ w ∈ lw_tbl, w.before args s = true) (hgv : (Jvm.Cond.and given_1 narrow_1).before args s = true) (hX : va_X b L xs s s.heap) (hbl : b < s.heap.size) : ∃ X : cd_E, cd_la X = l ∧ cd_B X = s.heap.size ∧ cd_O X = s.heap ∧ cd_al X 35 = b ∧ cd_ok X ∧ cd_G X s ∧ cd_R X ws_h0 s.heap := by
  have hs := flat_of_before _ hgv
  have htb := ws_tbl hts
  obtain ⟨fa, hfa⟩ := Classical.axiomOfChoice (ws_fates hgv)
  obtain ⟨st, hst⟩ := Classical.axiomOfChoice (ws_strs hgv)
  obtain ⟨e0, he0, hT0⟩ := ws_emp hgv
  obtain ⟨D, hD⟩ := Classical.axiomOfChoice (ws_cla htb (ws_fcl (hfa 0 (by decide))))
  obtain ⟨mi, hmi⟩ := va_Mi.of (hs (Cond.isRef (.mirror "[Ljava/lang/Object;")) (by decide +kernel))
  obtain ⟨c0, a0, r0⟩ := ws_arrP (t := .int) (hts _ (ti_1 (List.mem_of_getElem? (i := 96) (by decide +kernel))))
  obtain ⟨c1, a1, r1⟩ := ws_arrP (t := .char) (hts _ (ti_1 (List.mem_of_getElem? (i := 79) (by decide +kernel))))
  obtain ⟨c2, a2, r2⟩ := ws_arrP (t := .boolean) (hts _ (ti_1 (List.mem_of_getElem? (i := 97) (by decide +kernel))))
  obtain ⟨c3, a3, r3⟩ := ws_arrP (t := .byte) (hts _ (ti_2 (List.mem_of_getElem? (i := 166) (by decide +kernel))))
  have ov1 : (Cond.arrayOver (.object "CertificateDesk$Key")).before args s = true := hts _ (ti_1 (List.mem_of_getElem? (i := 38) (by decide +kernel)))
  have ov2 : (Cond.arrayOver (.object "java/lang/Object")).before args s = true := hts _ (ti_2 (List.mem_of_getElem? (i := 219) (by decide +kernel)))
  obtain ⟨c4, a4, r4⟩ := ws_arrO ov1
  obtain ⟨c5, a5, r5⟩ := ws_arrO ov2
  have hz := va_Zqof (C := "jdk/internal/util/Preconditions") (n := "SIOOBE_FORMATTER") (d := "Ljava/util/function/BiFunction;") (A := ws_A s) (hts _ (ti_2 (List.mem_of_getElem? (i := 100) (by decide +kernel)))) (hts _ (ti_1 (List.mem_of_getElem? (i := 13) (by decide +kernel)))) (hs _ (by decide +kernel)) (ws_hA s)
  obtain ⟨f33, h33, o, ho⟩ : ∃ f33 : Nat, f33 < s.heap.size ∧ ∃ o : Option Nat, ∀ al : Nat → Nat, (∀ i, 64 ≤ i → al i = s.heap.size + (i - 64)) → al 33 = f33 → va_Z "jdk/internal/util/Preconditions" "SIOOBE_FORMATTER" "Ljava/util/function/BiFunction;" (va_rf (o.map al)) (ws_A s) s s.heap := by
    rcases hz with h | ⟨t, h⟩
    · exact ⟨b, hbl, none, fun al _ _ => h⟩
    · by_cases ht : t < s.heap.size
      · exact ⟨t, ht, some 33, fun al _ e => by
          show va_Z _ _ _ (.ref (al 33)) _ _ _
          rw [e]
          exact h⟩
      · exact ⟨b, hbl, some (64 + (t - s.heap.size)), fun al h64 _ => by
          show va_Z _ _ _ (.ref (al (64 + (t - s.heap.size)))) _ _ _
          rw [h64 _ (by omega), show s.heap.size + (64 + (t - s.heap.size) - 64) = t by omega]
          exact h⟩
  obtain ⟨f34, h34, h34e⟩ : ∃ f34 : Nat, f34 < s.heap.size ∧ (mi < s.heap.size → f34 = mi) := by
    by_cases h : mi < s.heap.size
    · exact ⟨mi, h, fun _ => rfl⟩
    · exact ⟨b, hbl, fun z => absurd z h⟩
  have le0 : e0 < s.heap.size := ws_lt hT0.choose_spec.1
  have lfa : ∀ i, i < 4 → fa i < s.heap.size := fun i hi => ws_lt (hfa i hi).2.1.choose_spec.1
  have lst : ∀ i, i < 14 → (st i).1 < s.heap.size ∧ (st i).2 < s.heap.size := fun i hi => by
    obtain ⟨t, p, t1, t2, t3, t4, t5⟩ := ws_k19 i hi
    have h := hst i t p t1 t3
    exact ⟨ws_lt h.2.1.choose_spec.1, ws_lt h.2.2.2.2.choose_spec.1⟩
  have z5 : ∀ (z : Nat), z < 6 ∨ 6 ≤ z := fun z => by omega
  refine ⟨ws_Xd l s D (ws_ty c0 c1 c2 c3 c4 c5) e0 fa st f33 f34 b mi, rfl, rfl, rfl, rfl, ⟨ws_al_lt le0 lfa lst h33 h34 hbl, fun i hi => ws_al64 hi, fun z t hz => ?_⟩, ⟨⟨fun c q hq => hD c q hq, fun k q hq => ?_, fun a z n t cell ha hk ht hc => ws_ka hst hT0 a z n t cell ha hk ht hc⟩, fun w hw => va_Nw.of (cd_nest_tab w hw) (hts w (ti_0 (ws_over w hw))), fun q hq => ?_, fun q hq => ?_, fun C hC => ?_, hmi, va_Dc.of (hts _ (ti_6 (List.mem_of_getElem? (i := 193) (by decide +kernel)))), fun h => (show ws_al s.heap.size e0 fa st f33 f34 b 34 = mi from h34e h), ⟨o, ho (ws_al s.heap.size e0 fa st f33 f34 b) (fun i hi => ws_al64 hi) rfl⟩, L, xs, hX⟩, ⟨Nat.le_refl _, by show s.heap.size = s.heap.size + (64 - 64); omega, fun i hi => ws_k33 i (by have : 64 ≤ i := hi; omega), ws_cell hD hfa hst hT0, fun _ _ => rfl, fun _ _ => rfl⟩⟩
  · rcases z5 z with h6 | h6
    · have : z = 0 ∨ z = 1 ∨ z = 2 ∨ z = 3 ∨ z = 4 ∨ z = 5 := by omega
      rcases this with rfl | rfl | rfl | rfl | rfl | rfl <;> cases hz <;> exact ⟨_, rfl⟩
    · rw [List.getElem?_eq_none (show cd_aT.length ≤ z from h6)] at hz
      cases hz
  · rcases z5 k with h6 | h6
    · have : k = 0 ∨ k = 1 ∨ k = 2 ∨ k = 3 ∨ k = 4 ∨ k = 5 := by omega
      rcases this with rfl | rfl | rfl | rfl | rfl | rfl
      · cases hq; exact ⟨a0, r0⟩
      · cases hq; exact ⟨a1, r1⟩
      · cases hq; exact ⟨a2, r2⟩
      · cases hq; exact ⟨a3, r3⟩
      · cases hq; exact ⟨a4, r4⟩
      · cases hq; exact ⟨a5, r5⟩
    · rw [show (cd_ty (ws_Xd l s D (ws_ty c0 c1 c2 c3 c4 c5) e0 fa st f33 f34 b mi))[k]? = none from List.getElem?_eq_none (show 6 ≤ k from h6)] at hq
      cases hq
  · obtain ⟨i, hi, e⟩ := ws_sidx hq
    obtain ⟨t, p, t1, t2, t3, t4, t5⟩ := ws_k19 i hi
    cases t1.symm.trans e
    have h := (hst i q p t1 t3).1
    refine vk_R.of (A := args) (hts _ (ti_0 (ws_srefs q hq))) ?_
    rw [h, show cd_al (ws_Xd l s D (ws_ty c0 c1 c2 c3 c4 c5) e0 fa st f33 f34 b mi) q.2.2.2 = (st i).1 from by rw [t2]; exact ws_al5 hi]
  · simp only [cd_stats, List.mem_cons, List.not_mem_nil, or_false] at hq
    rcases hq with rfl | rfl | rfl | rfl | rfl | rfl | rfl | rfl | rfl
    · exact va_Zref (hts _ (ti_1 (List.mem_of_getElem? (i := 129) (by decide +kernel)))) (hts _ (ti_1 (List.mem_of_getElem? (i := 9) (by decide +kernel)))) he0 (ws_hA s)
    · exact va_Zref (hts _ (ti_2 (List.mem_of_getElem? (i := 136) (by decide +kernel)))) (hts _ (ti_1 (List.mem_of_getElem? (i := 18) (by decide +kernel)))) (hfa 0 (by decide)).1 (ws_hA s)
    · exact va_Zref (hts _ (ti_2 (List.mem_of_getElem? (i := 138) (by decide +kernel)))) (hts _ (ti_1 (List.mem_of_getElem? (i := 18) (by decide +kernel)))) (hfa 1 (by decide)).1 (ws_hA s)
    · exact va_Zref (hts _ (ti_2 (List.mem_of_getElem? (i := 140) (by decide +kernel)))) (hts _ (ti_1 (List.mem_of_getElem? (i := 18) (by decide +kernel)))) (hfa 2 (by decide)).1 (ws_hA s)
    · exact va_Zref (hts _ (ti_2 (List.mem_of_getElem? (i := 142) (by decide +kernel)))) (hts _ (ti_1 (List.mem_of_getElem? (i := 18) (by decide +kernel)))) (hfa 3 (by decide)).1 (ws_hA s)
    · exact va_Zof (hts _ (ti_2 (List.mem_of_getElem? (i := 84) (by decide +kernel)))) (hts _ (ti_1 (List.mem_of_getElem? (i := 14) (by decide +kernel)))) (va_eqi (hs _ (by decide +kernel))) (ws_hA s)
    · exact va_Zof (hts _ (ti_2 (List.mem_of_getElem? (i := 116) (by decide +kernel)))) (hts _ (ti_1 (List.mem_of_getElem? (i := 16) (by decide +kernel)))) (va_eqi (hs _ (by decide +kernel))) (ws_hA s)
    · exact va_Zof (hts _ (ti_2 (List.mem_of_getElem? (i := 118) (by decide +kernel)))) (hts _ (ti_1 (List.mem_of_getElem? (i := 16) (by decide +kernel)))) (va_eqi (hs _ (by decide +kernel))) (ws_hA s)
    · exact va_Zof (hts _ (ti_2 (List.mem_of_getElem? (i := 120) (by decide +kernel)))) (hts _ (ti_1 (List.mem_of_getElem? (i := 16) (by decide +kernel)))) (va_eqi (hs _ (by decide +kernel))) (ws_hA s)
  · simp only [cd_over, List.mem_cons, List.not_mem_nil, or_false] at hC
    rcases hC with rfl | rfl
    · exact va_AO.of ov1
    · exact va_AO.of ov2
