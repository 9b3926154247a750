abbrev ws_A (s : State) : Nat → Prop := fun a => s.heap.size ≤ a
theorem ws_hA (s : State) : ∀ a : Nat, a < s.heap.size → ¬ ws_A s a := fun a h z => Nat.not_lt.mpr z h
theorem ti_1 {w : Cond} (h : w ∈ tables_1_1) : w ∈ lw_tbl := List.mem_append_right _ (List.mem_append_left _ h)
theorem ti_2 {w : Cond} (h : w ∈ tables_1_2) : w ∈ lw_tbl := List.mem_append_right _ (List.mem_append_right _ (List.mem_append_left _ h))
theorem ti_3 {w : Cond} (h : w ∈ tables_1_3) : w ∈ lw_tbl := List.mem_append_right _ (List.mem_append_right _ (List.mem_append_right _ (List.mem_append_left _ h)))
theorem ti_4 {w : Cond} (h : w ∈ tables_1_4) : w ∈ lw_tbl := List.mem_append_right _ (List.mem_append_right _ (List.mem_append_right _ (List.mem_append_right _ (List.mem_append_left _ h))))
theorem ti_5 {w : Cond} (h : w ∈ tables_1_5) : w ∈ lw_tbl := List.mem_append_right _ (List.mem_append_right _ (List.mem_append_right _ (List.mem_append_right _ (List.mem_append_right _ (List.mem_append_left _ h)))))
theorem ti_6 {w : Cond} (h : w ∈ tables_1_6) : w ∈ lw_tbl := List.mem_append_right _ (List.mem_append_right _ (List.mem_append_right _ (List.mem_append_right _ (List.mem_append_right _ (List.mem_append_right _ (h))))))
theorem ti_0 {w : Cond} (h : w ∈ tables_1) : w ∈ lw_tbl := List.mem_append_right _ h
def ws_i0 (a j : Nat) : Int32 := if 19 ≤ a then (match cd_csL[a - 19]? with
  | some p => nI (cd_csN p.2 j)
  | none => 0) else if 1 ≤ a ∧ a ≤ 4 then (if j = 0 then ([0, 0, 1, 1] : List Int32).getD (a - 1) 0 else if j = 1 then ([0, 1, 1, 0] : List Int32).getD (a - 1) 0 else 0) else 0
def ws_r0 (a j : Nat) : Option Nat := if 5 ≤ a ∧ a ≤ 18 ∧ j = 0 then some (a + 14) else none
def ws_h0 : cd_H := (64, cd_k0, ws_i0, fun _ _ => 0, ws_r0)
theorem ws_fat0 : cc_fat ws_h0 := ⟨⟨rfl, rfl⟩, ⟨rfl, rfl⟩, ⟨rfl, rfl⟩, rfl, rfl⟩
theorem ws_cs0 : cc_cs ws_h0 := fun q hq => by
  simp only [cd_csL, List.mem_cons, List.not_mem_nil, or_false] at hq
  rcases hq with rfl | rfl | rfl | rfl | rfl | rfl | rfl | rfl | rfl | rfl | rfl | rfl | rfl | rfl
  · exact ⟨⟨rfl, rfl, (show 2 < 2 ^ 30 by decide), 19, rfl, rfl, fun j hj => ⟨rfl, (by decide : ∀ j, j < 2 → cd_csN [111, 112] j < 128) j hj⟩⟩, 19, rfl, by decide⟩
  · exact ⟨⟨rfl, rfl, (show 3 < 2 ^ 30 by decide), 20, rfl, rfl, fun j hj => ⟨rfl, (by decide : ∀ j, j < 3 → cd_csN [110, 101, 119] j < 128) j hj⟩⟩, 20, rfl, by decide⟩
  · exact ⟨⟨rfl, rfl, (show 5 < 2 ^ 30 by decide), 21, rfl, rfl, fun j hj => ⟨rfl, (by decide : ∀ j, j < 5 → cd_csN [111, 114, 100, 101, 114] j < 128) j hj⟩⟩, 21, rfl, by decide⟩
  · exact ⟨⟨rfl, rfl, (show 5 < 2 ^ 30 by decide), 22, rfl, rfl, fun j hj => ⟨rfl, (by decide : ∀ j, j < 5 → cd_csN [110, 97, 109, 101, 115] j < 128) j hj⟩⟩, 22, rfl, by decide⟩
  · exact ⟨⟨rfl, rfl, (show 3 < 2 ^ 30 by decide), 23, rfl, rfl, fun j hj => ⟨rfl, (by decide : ∀ j, j < 3 → cd_csN [116, 114, 121] j < 128) j hj⟩⟩, 23, rfl, by decide⟩
  · exact ⟨⟨rfl, rfl, (show 4 < 2 ^ 30 by decide), 24, rfl, rfl, fun j hj => ⟨rfl, (by decide : ∀ j, j < 4 → cd_csN [97, 117, 116, 104] j < 128) j hj⟩⟩, 24, rfl, by decide⟩
  · exact ⟨⟨rfl, rfl, (show 3 < 2 ^ 30 by decide), 25, rfl, rfl, fun j hj => ⟨rfl, (by decide : ∀ j, j < 3 → cd_csN [119, 97, 121] j < 128) j hj⟩⟩, 25, rfl, by decide⟩
  · exact ⟨⟨rfl, rfl, (show 6 < 2 ^ 30 by decide), 26, rfl, rfl, fun j hj => ⟨rfl, (by decide : ∀ j, j < 6 → cd_csN [102, 105, 110, 105, 115, 104] j < 128) j hj⟩⟩, 26, rfl, by decide⟩
  · exact ⟨⟨rfl, rfl, (show 3 < 2 ^ 30 by decide), 27, rfl, rfl, fun j hj => ⟨rfl, (by decide : ∀ j, j < 3 → cd_csN [99, 115, 114] j < 128) j hj⟩⟩, 27, rfl, by decide⟩
  · exact ⟨⟨rfl, rfl, (show 3 < 2 ^ 30 by decide), 28, rfl, rfl, fun j hj => ⟨rfl, (by decide : ∀ j, j < 3 → cd_csN [107, 101, 121] j < 128) j hj⟩⟩, 28, rfl, by decide⟩
  · exact ⟨⟨rfl, rfl, (show 6 < 2 ^ 30 by decide), 29, rfl, rfl, fun j hj => ⟨rfl, (by decide : ∀ j, j < 6 → cd_csN [114, 101, 118, 111, 107, 101] j < 128) j hj⟩⟩, 29, rfl, by decide⟩
  · exact ⟨⟨rfl, rfl, (show 6 < 2 ^ 30 by decide), 30, rfl, rfl, fun j hj => ⟨rfl, (by decide : ∀ j, j < 6 → cd_csN [115, 101, 114, 105, 97, 108] j < 128) j hj⟩⟩, 30, rfl, by decide⟩
  · exact ⟨⟨rfl, rfl, (show 3 < 2 ^ 30 by decide), 31, rfl, rfl, fun j hj => ⟨rfl, (by decide : ∀ j, j < 3 → cd_csN [119, 104, 121] j < 128) j hj⟩⟩, 31, rfl, by decide⟩
  · exact ⟨⟨rfl, rfl, (show 5 < 2 ^ 30 by decide), 32, rfl, rfl, fun j hj => ⟨rfl, (by decide : ∀ j, j < 5 → cd_csN [99, 108, 111, 115, 101] j < 128) j hj⟩⟩, 32, rfl, by decide⟩
def ws_cl (s : State) (c : Nat) (p : ClassId × (Nat → Nat)) : Prop := ∀ q : vw_C, vwCl[c]? = some q → (∀ k, k < q.2.2 → cd_SI s (q.2.1 k).1 (q.2.1 k).2.1 (q.2.1 k).2.2.1 (p.2 k)) ∧ s.vm.findClass q.1 = some p.1 ∧ ∃ kC : Class, s.vm.classes[p.1]? = some kC
theorem ws_cls {c n : Nat} {s : State} {args : Array Value} (hc : cd_CL c n) (hts : ∀ w ∈ cd_tbl, w.before args s = true) : ∃ p, ws_cl s c p := by
  obtain ⟨r, h1, h2, -, -, h5, -, -⟩ := hc
  obtain ⟨cC, iS, hS, hfc, kC, hk, -⟩ := u_known hts h2 (hts _ h5)
  refine ⟨(cC, iS), fun q hq => ?_⟩
  cases h1.symm.trans hq
  refine ⟨fun k hk' => ?_, hfc, kC, hk⟩
  obtain ⟨cf, kf, fi, fd, hi, he⟩ := hS k hk'
  exact ⟨cf, kf, fi, fd, hi, he, (u_facts hfc hk (u_lays hts h2 hk') hi).1⟩
theorem ws_slot {s : State} {o n d : String} {v : Value} {t i0 : Nat} {A : Nat → Prop} (h : va_OF o n d v t A s s.heap) (hS : cd_SI s o n d i0) : ∃ cell : Cell, s.heap[t]? = some cell ∧ cell.vm ≠ .unknown ∧ cell.slots[i0]? = some v := by
  obtain ⟨cf, k, i, f, cell, h1, h2, h3, h4, h5, h6⟩ := h
  obtain ⟨cf', kf', fi', fd', g1, g2, -⟩ := hS
  cases h1.symm.trans g1
  exact ⟨cell, h3, h4, by rw [← g2]; exact h5⟩
theorem ws_nst {c : Cell} (h : ∀ k, c.vm ≠ .statics k) : c.vm.isStatics = false := by
  cases e : c.vm with
  | statics k => exact absurd e (h k)
  | _ => rfl
def ws_sok (s : State) (ev : Option Value) (l : List Nat) (q : Nat × Nat) : Prop := ev = some (.ref q.1) ∧ va_O "java/lang/String" q.1 (ws_A s) s s.heap ∧ va_OF "java/lang/String" "coder" "B" (.int 0) q.1 (ws_A s) s s.heap ∧ va_OF "java/lang/String" "value" "[B" (.ref q.2) q.1 (ws_A s) s s.heap ∧ va_T .byte q.2 l.length (fun j => .int (nI (cd_csN l j))) (ws_A s) s s.heap
theorem ws_str {s : State} {args : Array Value} {tm : Term} {l : List Nat} (hN : l.length < 2 ^ 31) (hex : (Cond.exactly tm "java/lang/String").before args s = true) (hco : (Cond.eq (.field tm "java/lang/String" "coder" "B") (.int 0)).before args s = true) (har : (Cond.arrayOf (.field tm "java/lang/String" "value" "[B") .byte).before args s = true) (hle : (Cond.eq (.length (.field tm "java/lang/String" "value" "[B")) (.int (Int32.ofNat l.length))).before args s = true) (hel : ∀ j : Nat, j < l.length → (Cond.eq (.elem (.field tm "java/lang/String" "value" "[B") (.int (Int32.ofNat j))) (.int (nI (cd_csN l j)))).before args s = true) : ∃ q, ws_sok s (tm.eval args s none [] s) l q := by
  obtain ⟨a, c, cA, kA, q1, q2, q3, q4, q5, q6, -⟩ := Cond.exactly_spec (args := args) (first := s) (o := none) (s := s) (idx := []) (t := tm) (cls := "java/lang/String") hex
  obtain ⟨t, ht, hT⟩ := va_Tof (f := fun j => .int (nI (cd_csN l j))) (A := ws_A s) hN har (va_eqt hle) (fun j hj => va_eqt (hel j hj)) (ws_hA s)
  exact ⟨(a, t), q1, ⟨cA, q3, q5, by rw [q6]; exact q2, ws_hA s a (Array.getElem?_eq_some_iff.mp q3).1⟩, vk_OFof q1 (va_eqt hco) (ws_hA s), vk_OFof q1 ht (ws_hA s), hT⟩
def ws_fok (s : State) (ev : Option Value) (v w : Int32) (t : Nat) : Prop := ev = some (.ref t) ∧ va_O "CertificateDesk$Fate" t (ws_A s) s s.heap ∧ va_OF "CertificateDesk$Fate" "change" "Z" (.int v) t (ws_A s) s s.heap ∧ va_OF "CertificateDesk$Fate" "crash" "Z" (.int w) t (ws_A s) s s.heap
theorem ws_fat {s : State} {args : Array Value} {tm : Term} {v w : Int32} (hex : (Cond.exactly tm "CertificateDesk$Fate").before args s = true) (h1 : (Cond.eq (.field tm "CertificateDesk$Fate" "change" "Z") (.int v)).before args s = true) (h2 : (Cond.eq (.field tm "CertificateDesk$Fate" "crash" "Z") (.int w)).before args s = true) : ∃ t, ws_fok s (tm.eval args s none [] s) v w t := by
  obtain ⟨a, c, cA, kA, q1, q2, q3, q4, q5, q6, -⟩ := Cond.exactly_spec (args := args) (first := s) (o := none) (s := s) (idx := []) (t := tm) (cls := "CertificateDesk$Fate") hex
  exact ⟨a, q1, ⟨cA, q3, q5, by rw [q6]; exact q2, ws_hA s a (Array.getElem?_eq_some_iff.mp q3).1⟩, vk_OFof q1 (va_eqt h1) (ws_hA s), vk_OFof q1 (va_eqt h2) (ws_hA s)⟩
def ws_fn : List String := ["FULL", "LOST", "SAVED", "KEPT"]
theorem ws_fates {s : State} {args : Array Value} (hgv : (Jvm.Cond.and given_1 narrow_1).before args s = true) : ∀ i : Nat, ∃ t : Nat, i < 4 → ws_fok s ((Term.static "CertificateDesk$Fate" (ws_fn.getD i "") "LCertificateDesk$Fate;").eval args s none [] s) (ws_i0 (1 + i) 0) (ws_i0 (1 + i) 1) t := by
  have hs := flat_of_before _ hgv
  intro i
  by_cases hi : i < 4
  · have : i = 0 ∨ i = 1 ∨ i = 2 ∨ i = 3 := by omega
    rcases this with rfl | rfl | rfl | rfl
    · obtain ⟨t, ht⟩ := ws_fat (s := s) (args := args) (tm := .static "CertificateDesk$Fate" "FULL" "LCertificateDesk$Fate;") (v := 0) (w := 0) (hs _ (by decide +kernel)) (hs _ (by decide +kernel)) (hs _ (by decide +kernel))
      exact ⟨t, fun _ => ht⟩
    · obtain ⟨t, ht⟩ := ws_fat (s := s) (args := args) (tm := .static "CertificateDesk$Fate" "LOST" "LCertificateDesk$Fate;") (v := 0) (w := 1) (hs _ (by decide +kernel)) (hs _ (by decide +kernel)) (hs _ (by decide +kernel))
      exact ⟨t, fun _ => ht⟩
    · obtain ⟨t, ht⟩ := ws_fat (s := s) (args := args) (tm := .static "CertificateDesk$Fate" "SAVED" "LCertificateDesk$Fate;") (v := 1) (w := 1) (hs _ (by decide +kernel)) (hs _ (by decide +kernel)) (hs _ (by decide +kernel))
      exact ⟨t, fun _ => ht⟩
    · obtain ⟨t, ht⟩ := ws_fat (s := s) (args := args) (tm := .static "CertificateDesk$Fate" "KEPT" "LCertificateDesk$Fate;") (v := 1) (w := 0) (hs _ (by decide +kernel)) (hs _ (by decide +kernel)) (hs _ (by decide +kernel))
      exact ⟨t, fun _ => ht⟩
  · exact ⟨0, fun h => absurd h hi⟩
theorem ws_s0 {s : State} {args : Array Value} (hgv : (Jvm.Cond.and given_1 narrow_1).before args s = true) : ∃ q, ws_sok s ((Term.string "CertificateDesk" 286).eval args s none [] s) [111, 112] q := by
  have hs := flat_of_before _ hgv
  refine ws_str (by decide) (hs _ (by decide +kernel)) (hs _ (by decide +kernel)) (hs _ (by decide +kernel)) (hs _ (by decide +kernel)) (fun j hj => ?_)
  have hj : j < 2 := hj
  have : j = 0 ∨ j = 1 := by omega
  rcases this with rfl | rfl
  · exact hs _ (by decide +kernel)
  · exact hs _ (by decide +kernel)
theorem ws_s1 {s : State} {args : Array Value} (hgv : (Jvm.Cond.and given_1 narrow_1).before args s = true) : ∃ q, ws_sok s ((Term.string "CertificateDesk" 292).eval args s none [] s) [110, 101, 119] q := by
  have hs := flat_of_before _ hgv
  refine ws_str (by decide) (hs _ (by decide +kernel)) (hs _ (by decide +kernel)) (hs _ (by decide +kernel)) (hs _ (by decide +kernel)) (fun j hj => ?_)
  have hj : j < 3 := hj
  have : j = 0 ∨ j = 1 ∨ j = 2 := by omega
  rcases this with rfl | rfl | rfl
  · exact hs _ (by decide +kernel)
  · exact hs _ (by decide +kernel)
  · exact hs _ (by decide +kernel)
theorem ws_s2 {s : State} {args : Array Value} (hgv : (Jvm.Cond.and given_1 narrow_1).before args s = true) : ∃ q, ws_sok s ((Term.string "CertificateDesk" 301).eval args s none [] s) [111, 114, 100, 101, 114] q := by
  have hs := flat_of_before _ hgv
  refine ws_str (by decide) (hs _ (by decide +kernel)) (hs _ (by decide +kernel)) (hs _ (by decide +kernel)) (hs _ (by decide +kernel)) (fun j hj => ?_)
  have hj : j < 5 := hj
  have : j = 0 ∨ j = 1 ∨ j = 2 ∨ j = 3 ∨ j = 4 := by omega
  rcases this with rfl | rfl | rfl | rfl | rfl
  · exact hs _ (by decide +kernel)
  · exact hs _ (by decide +kernel)
  · exact hs _ (by decide +kernel)
  · exact hs _ (by decide +kernel)
  · exact hs _ (by decide +kernel)
theorem ws_s3 {s : State} {args : Array Value} (hgv : (Jvm.Cond.and given_1 narrow_1).before args s = true) : ∃ q, ws_sok s ((Term.string "CertificateDesk" 337).eval args s none [] s) [110, 97, 109, 101, 115] q := by
  have hs := flat_of_before _ hgv
  refine ws_str (by decide) (hs _ (by decide +kernel)) (hs _ (by decide +kernel)) (hs _ (by decide +kernel)) (hs _ (by decide +kernel)) (fun j hj => ?_)
  have hj : j < 5 := hj
  have : j = 0 ∨ j = 1 ∨ j = 2 ∨ j = 3 ∨ j = 4 := by omega
  rcases this with rfl | rfl | rfl | rfl | rfl
  · exact hs _ (by decide +kernel)
  · exact hs _ (by decide +kernel)
  · exact hs _ (by decide +kernel)
  · exact hs _ (by decide +kernel)
  · exact hs _ (by decide +kernel)
theorem ws_s4 {s : State} {args : Array Value} (hgv : (Jvm.Cond.and given_1 narrow_1).before args s = true) : ∃ q, ws_sok s ((Term.string "CertificateDesk" 307).eval args s none [] s) [116, 114, 121] q := by
  have hs := flat_of_before _ hgv
  refine ws_str (by decide) (hs _ (by decide +kernel)) (hs _ (by decide +kernel)) (hs _ (by decide +kernel)) (hs _ (by decide +kernel)) (fun j hj => ?_)
  have hj : j < 3 := hj
  have : j = 0 ∨ j = 1 ∨ j = 2 := by omega
  rcases this with rfl | rfl | rfl
  · exact hs _ (by decide +kernel)
  · exact hs _ (by decide +kernel)
  · exact hs _ (by decide +kernel)
theorem ws_s5 {s : State} {args : Array Value} (hgv : (Jvm.Cond.and given_1 narrow_1).before args s = true) : ∃ q, ws_sok s ((Term.string "CertificateDesk" 386).eval args s none [] s) [97, 117, 116, 104] q := by
  have hs := flat_of_before _ hgv
  refine ws_str (by decide) (hs _ (by decide +kernel)) (hs _ (by decide +kernel)) (hs _ (by decide +kernel)) (hs _ (by decide +kernel)) (fun j hj => ?_)
  have hj : j < 4 := hj
  have : j = 0 ∨ j = 1 ∨ j = 2 ∨ j = 3 := by omega
  rcases this with rfl | rfl | rfl | rfl
  · exact hs _ (by decide +kernel)
  · exact hs _ (by decide +kernel)
  · exact hs _ (by decide +kernel)
  · exact hs _ (by decide +kernel)
theorem ws_s6 {s : State} {args : Array Value} (hgv : (Jvm.Cond.and given_1 narrow_1).before args s = true) : ∃ q, ws_sok s ((Term.string "CertificateDesk" 390).eval args s none [] s) [119, 97, 121] q := by
  have hs := flat_of_before _ hgv
  refine ws_str (by decide) (hs _ (by decide +kernel)) (hs _ (by decide +kernel)) (hs _ (by decide +kernel)) (hs _ (by decide +kernel)) (fun j hj => ?_)
  have hj : j < 3 := hj
  have : j = 0 ∨ j = 1 ∨ j = 2 := by omega
  rcases this with rfl | rfl | rfl
  · exact hs _ (by decide +kernel)
  · exact hs _ (by decide +kernel)
  · exact hs _ (by decide +kernel)
theorem ws_s7 {s : State} {args : Array Value} (hgv : (Jvm.Cond.and given_1 narrow_1).before args s = true) : ∃ q, ws_sok s ((Term.string "CertificateDesk" 312).eval args s none [] s) [102, 105, 110, 105, 115, 104] q := by
  have hs := flat_of_before _ hgv
  refine ws_str (by decide) (hs _ (by decide +kernel)) (hs _ (by decide +kernel)) (hs _ (by decide +kernel)) (hs _ (by decide +kernel)) (fun j hj => ?_)
  have hj : j < 6 := hj
  have : j = 0 ∨ j = 1 ∨ j = 2 ∨ j = 3 ∨ j = 4 ∨ j = 5 := by omega
  rcases this with rfl | rfl | rfl | rfl | rfl | rfl
  · exact hs _ (by decide +kernel)
  · exact hs _ (by decide +kernel)
  · exact hs _ (by decide +kernel)
  · exact hs _ (by decide +kernel)
  · exact hs _ (by decide +kernel)
  · exact hs _ (by decide +kernel)
theorem ws_s8 {s : State} {args : Array Value} (hgv : (Jvm.Cond.and given_1 narrow_1).before args s = true) : ∃ q, ws_sok s ((Term.string "CertificateDesk" 392).eval args s none [] s) [99, 115, 114] q := by
  have hs := flat_of_before _ hgv
  refine ws_str (by decide) (hs _ (by decide +kernel)) (hs _ (by decide +kernel)) (hs _ (by decide +kernel)) (hs _ (by decide +kernel)) (fun j hj => ?_)
  have hj : j < 3 := hj
  have : j = 0 ∨ j = 1 ∨ j = 2 := by omega
  rcases this with rfl | rfl | rfl
  · exact hs _ (by decide +kernel)
  · exact hs _ (by decide +kernel)
  · exact hs _ (by decide +kernel)
theorem ws_s9 {s : State} {args : Array Value} (hgv : (Jvm.Cond.and given_1 narrow_1).before args s = true) : ∃ q, ws_sok s ((Term.string "CertificateDesk" 394).eval args s none [] s) [107, 101, 121] q := by
  have hs := flat_of_before _ hgv
  refine ws_str (by decide) (hs _ (by decide +kernel)) (hs _ (by decide +kernel)) (hs _ (by decide +kernel)) (hs _ (by decide +kernel)) (fun j hj => ?_)
  have hj : j < 3 := hj
  have : j = 0 ∨ j = 1 ∨ j = 2 := by omega
  rcases this with rfl | rfl | rfl
  · exact hs _ (by decide +kernel)
  · exact hs _ (by decide +kernel)
  · exact hs _ (by decide +kernel)
theorem ws_s10 {s : State} {args : Array Value} (hgv : (Jvm.Cond.and given_1 narrow_1).before args s = true) : ∃ q, ws_sok s ((Term.string "CertificateDesk" 317).eval args s none [] s) [114, 101, 118, 111, 107, 101] q := by
  have hs := flat_of_before _ hgv
  refine ws_str (by decide) (hs _ (by decide +kernel)) (hs _ (by decide +kernel)) (hs _ (by decide +kernel)) (hs _ (by decide +kernel)) (fun j hj => ?_)
  have hj : j < 6 := hj
  have : j = 0 ∨ j = 1 ∨ j = 2 ∨ j = 3 ∨ j = 4 ∨ j = 5 := by omega
  rcases this with rfl | rfl | rfl | rfl | rfl | rfl
  · exact hs _ (by decide +kernel)
  · exact hs _ (by decide +kernel)
  · exact hs _ (by decide +kernel)
  · exact hs _ (by decide +kernel)
  · exact hs _ (by decide +kernel)
  · exact hs _ (by decide +kernel)
theorem ws_s11 {s : State} {args : Array Value} (hgv : (Jvm.Cond.and given_1 narrow_1).before args s = true) : ∃ q, ws_sok s ((Term.string "CertificateDesk" 432).eval args s none [] s) [115, 101, 114, 105, 97, 108] q := by
  have hs := flat_of_before _ hgv
  refine ws_str (by decide) (hs _ (by decide +kernel)) (hs _ (by decide +kernel)) (hs _ (by decide +kernel)) (hs _ (by decide +kernel)) (fun j hj => ?_)
  have hj : j < 6 := hj
  have : j = 0 ∨ j = 1 ∨ j = 2 ∨ j = 3 ∨ j = 4 ∨ j = 5 := by omega
  rcases this with rfl | rfl | rfl | rfl | rfl | rfl
  · exact hs _ (by decide +kernel)
  · exact hs _ (by decide +kernel)
  · exact hs _ (by decide +kernel)
  · exact hs _ (by decide +kernel)
  · exact hs _ (by decide +kernel)
  · exact hs _ (by decide +kernel)
theorem ws_s12 {s : State} {args : Array Value} (hgv : (Jvm.Cond.and given_1 narrow_1).before args s = true) : ∃ q, ws_sok s ((Term.string "CertificateDesk" 434).eval args s none [] s) [119, 104, 121] q := by
  have hs := flat_of_before _ hgv
  refine ws_str (by decide) (hs _ (by decide +kernel)) (hs _ (by decide +kernel)) (hs _ (by decide +kernel)) (hs _ (by decide +kernel)) (fun j hj => ?_)
  have hj : j < 3 := hj
  have : j = 0 ∨ j = 1 ∨ j = 2 := by omega
  rcases this with rfl | rfl | rfl
  · exact hs _ (by decide +kernel)
  · exact hs _ (by decide +kernel)
  · exact hs _ (by decide +kernel)
theorem ws_s13 {s : State} {args : Array Value} (hgv : (Jvm.Cond.and given_1 narrow_1).before args s = true) : ∃ q, ws_sok s ((Term.string "CertificateDesk" 322).eval args s none [] s) [99, 108, 111, 115, 101] q := by
  have hs := flat_of_before _ hgv
  refine ws_str (by decide) (hs _ (by decide +kernel)) (hs _ (by decide +kernel)) (hs _ (by decide +kernel)) (hs _ (by decide +kernel)) (fun j hj => ?_)
  have hj : j < 5 := hj
  have : j = 0 ∨ j = 1 ∨ j = 2 ∨ j = 3 ∨ j = 4 := by omega
  rcases this with rfl | rfl | rfl | rfl | rfl
  · exact hs _ (by decide +kernel)
  · exact hs _ (by decide +kernel)
  · exact hs _ (by decide +kernel)
  · exact hs _ (by decide +kernel)
  · exact hs _ (by decide +kernel)
theorem ws_strs {s : State} {args : Array Value} (hgv : (Jvm.Cond.and given_1 narrow_1).before args s = true) : ∀ i : Nat, ∃ q : Nat × Nat, ∀ t p, cd_strs[i]? = some t → cd_csL[i]? = some p → ws_sok s ((Term.string t.1 t.2.1).eval args s none [] s) p.2 q := by
  intro i
  by_cases hi : i < 14
  · have : i = 0 ∨ i = 1 ∨ i = 2 ∨ i = 3 ∨ i = 4 ∨ i = 5 ∨ i = 6 ∨ i = 7 ∨ i = 8 ∨ i = 9 ∨ i = 10 ∨ i = 11 ∨ i = 12 ∨ i = 13 := by omega
    rcases this with rfl | rfl | rfl | rfl | rfl | rfl | rfl | rfl | rfl | rfl | rfl | rfl | rfl | rfl
    · obtain ⟨q, hq⟩ := ws_s0 hgv
      exact ⟨q, fun t p h1 h2 => by cases h1; cases h2; exact hq⟩
    · obtain ⟨q, hq⟩ := ws_s1 hgv
      exact ⟨q, fun t p h1 h2 => by cases h1; cases h2; exact hq⟩
    · obtain ⟨q, hq⟩ := ws_s2 hgv
      exact ⟨q, fun t p h1 h2 => by cases h1; cases h2; exact hq⟩
    · obtain ⟨q, hq⟩ := ws_s3 hgv
      exact ⟨q, fun t p h1 h2 => by cases h1; cases h2; exact hq⟩
    · obtain ⟨q, hq⟩ := ws_s4 hgv
      exact ⟨q, fun t p h1 h2 => by cases h1; cases h2; exact hq⟩
    · obtain ⟨q, hq⟩ := ws_s5 hgv
      exact ⟨q, fun t p h1 h2 => by cases h1; cases h2; exact hq⟩
    · obtain ⟨q, hq⟩ := ws_s6 hgv
      exact ⟨q, fun t p h1 h2 => by cases h1; cases h2; exact hq⟩
    · obtain ⟨q, hq⟩ := ws_s7 hgv
      exact ⟨q, fun t p h1 h2 => by cases h1; cases h2; exact hq⟩
    · obtain ⟨q, hq⟩ := ws_s8 hgv
      exact ⟨q, fun t p h1 h2 => by cases h1; cases h2; exact hq⟩
    · obtain ⟨q, hq⟩ := ws_s9 hgv
      exact ⟨q, fun t p h1 h2 => by cases h1; cases h2; exact hq⟩
    · obtain ⟨q, hq⟩ := ws_s10 hgv
      exact ⟨q, fun t p h1 h2 => by cases h1; cases h2; exact hq⟩
    · obtain ⟨q, hq⟩ := ws_s11 hgv
      exact ⟨q, fun t p h1 h2 => by cases h1; cases h2; exact hq⟩
    · obtain ⟨q, hq⟩ := ws_s12 hgv
      exact ⟨q, fun t p h1 h2 => by cases h1; cases h2; exact hq⟩
    · obtain ⟨q, hq⟩ := ws_s13 hgv
      exact ⟨q, fun t p h1 h2 => by cases h1; cases h2; exact hq⟩
  · refine ⟨(0, 0), fun t p h1 _ => ?_⟩
    have := (List.getElem?_eq_some_iff.mp h1).1
    have hl : cd_strs.length = 14 := rfl
    omega
theorem ws_emp {s : State} {args : Array Value} (hgv : (Jvm.Cond.and given_1 narrow_1).before args s = true) : ∃ t : Nat, (Term.static "java/util/ArrayList" "DEFAULTCAPACITY_EMPTY_ELEMENTDATA" "[Ljava/lang/Object;").eval args s none [] s = some (.ref t) ∧ va_T (.object "java/lang/Object") t 0 (fun _ => .null) (ws_A s) s s.heap := by
  have hs := flat_of_before _ hgv
  exact va_Tof (N := 0) (by decide) (hs _ (by decide +kernel)) (va_eqt (hs _ (by decide +kernel))) (fun j hj => absurd hj (Nat.not_lt_zero j)) (ws_hA s)
theorem ws_arrP {s : State} {args : Array Value} {t : FieldType} (h : (Cond.arrayClass t).before args s = true) : ∃ cA : ClassId, ArrOfT s cA t ∧ s.vm.findClass ("[" ++ t.toString) = some cA := by
  obtain ⟨c, k, comp, h1, h2, h3⟩ := Cond.arrayClass_spec (args := args) (first := s) (o := none) (s := s) (idx := []) h
  exact ⟨c, fun n z => ⟨fun k h => (by cases h), k, h2, comp, h3⟩, h1⟩
theorem ws_arrO {s : State} {args : Array Value} {C : String} (h : (Cond.arrayOver (.object C)).before args s = true) : ∃ cA : ClassId, ArrOfT s cA (.object C) ∧ va_RA s cA (.object C) := by
  obtain ⟨comp, c, k, h1, h2, h3, h4, h5⟩ := Cond.arrayOver_spec (args := args) (first := s) (o := none) (s := s) (idx := []) h
  exact ⟨c, fun n z => ⟨fun k h => (by cases h), k, h3, comp, h4⟩, k, comp, h3, h4, h1, h5⟩
theorem ws_sel {s : State} {args : Array Value} {C : String} {y : MethodName} {n : Nat} (hy : y.cls ≠ "java/lang/invoke/MethodHandle" ∧ y.cls ≠ "java/lang/invoke/VarHandle") (h1 : (Cond.instantiable C n).before args s = true) (h2 : (Cond.privateMethod y).before args s = true) (h3 : (Cond.instanceMethod y).before args s = true) (h4 : (Cond.sameMethod y.cls y.cls y.name y.desc).before args s = true) : (Cond.selects C y y).before args s = true := by
  obtain ⟨c, k, hc, hk, -, -, -, -⟩ := Cond.instantiable_spec h1
  obtain ⟨cn, ck, r1, hcn, hck, hni, hf, hn1⟩ := Cond.sameMethod_found h4
  obtain ⟨mk, methM, hnamed, hmethM, -, -⟩ := Cond.instanceMethod_spec h3
  have hfound : s.methodFound? y.cls y.name y.desc = some mk := State.methodFound?_of_named hnamed hy
  have hcls : mk.cls = cn := Option.some.inj ((findClass_of_methodNamed hnamed).symm.trans hcn)
  have hsel : selectMethod {} s.vm c mk = .method mk := selectMethod_private hmethM (Cond.privateMethod_at h2 mk methM hnamed hmethM)
  simp only [Cond.before, Cond.holds, Cond.value, hc, hfound, hnamed, hsel, hcls, hck]
  simp; exact hni
theorem ws_tbl {s : State} {args : Array Value} (hts : ∀ w ∈ lw_tbl, w.before args s = true) : ∀ w ∈ cd_tbl, w.before args s = true := fun w hw => by
  rcases List.mem_append.mp (List.mem_filter.mp hw).1 with h | h
  · cases List.mem_singleton.mp h
    exact ws_sel (n := 4) ⟨by decide, by decide⟩ (hts _ (ti_3 (List.mem_of_getElem? (i := 62) (by decide +kernel)))) (hts _ (ti_3 (List.mem_of_getElem? (i := 99) (by decide +kernel)))) (hts _ (ti_3 (List.mem_of_getElem? (i := 100) (by decide +kernel)))) (hts _ (ti_6 (List.mem_of_getElem? (i := 184) (by decide +kernel))))
  · exact hts w h
def ws_al (B e0 : Nat) (fa : Nat → Nat) (st : Nat → Nat × Nat) (f33 f34 b : Nat) (i : Nat) : Nat := if 64 ≤ i then B + (i - 64) else if i = 0 then e0 else if i < 5 then fa (i - 1) else if i < 19 then (st (i - 5)).1 else if i < 33 then (st (i - 19)).2 else if i = 33 then f33 else if i = 34 then f34 else b
section WAL
variable {B e0 : Nat} {fa : Nat → Nat} {st : Nat → Nat × Nat} {f33 f34 b : Nat}
theorem ws_al64 {i : Nat} (h : 64 ≤ i) : ws_al B e0 fa st f33 f34 b i = B + (i - 64) := if_pos h
theorem ws_al0 : ws_al B e0 fa st f33 f34 b 0 = e0 := rfl
theorem ws_al1 {i : Nat} (h : i < 4) : ws_al B e0 fa st f33 f34 b (1 + i) = fa i := by
  unfold ws_al
  rw [if_neg (by omega), if_neg (by omega), if_pos (by omega), show 1 + i - 1 = i by omega]
theorem ws_al5 {i : Nat} (h : i < 14) : ws_al B e0 fa st f33 f34 b (5 + i) = (st i).1 := by
  unfold ws_al
  rw [if_neg (by omega), if_neg (by omega), if_neg (by omega), if_pos (by omega), show 5 + i - 5 = i by omega]
theorem ws_al19 {i : Nat} (h : i < 14) : ws_al B e0 fa st f33 f34 b (19 + i) = (st i).2 := by
  unfold ws_al
  rw [if_neg (by omega), if_neg (by omega), if_neg (by omega), if_neg (by omega), if_pos (by omega), show 19 + i - 19 = i by omega]
theorem ws_al33 : ws_al B e0 fa st f33 f34 b 33 = f33 := rfl
theorem ws_al34 : ws_al B e0 fa st f33 f34 b 34 = f34 := rfl
theorem ws_al35 : ws_al B e0 fa st f33 f34 b 35 = b := rfl
theorem ws_al_lt (h0 : e0 < B) (h1 : ∀ i, i < 4 → fa i < B) (h2 : ∀ i, i < 14 → (st i).1 < B ∧ (st i).2 < B) (h3 : f33 < B) (h4 : f34 < B) (h5 : b < B) : ∀ i, i < 64 → ws_al B e0 fa st f33 f34 b i < B := fun i hi => by
  unfold ws_al
  rw [if_neg (by omega)]
  split
  · exact h0
  · split
    · exact h1 _ (by omega)
    · split
      · exact (h2 _ (by omega)).1
      · split
        · exact (h2 _ (by omega)).2
        · split
          · exact h3
          · split
            · exact h4
            · exact h5
end WAL
theorem ws_k1 : ∀ i : Nat, i < 4 → cd_k0 (1 + i) = some (.inl 10) := fun i hi => by
  have : i = 0 ∨ i = 1 ∨ i = 2 ∨ i = 3 := by omega
  rcases this with rfl | rfl | rfl | rfl <;> rfl
theorem ws_k5 : ∀ i : Nat, i < 14 → cd_k0 (5 + i) = some (.inl 13) := fun i hi => by
  have : i = 0 ∨ i = 1 ∨ i = 2 ∨ i = 3 ∨ i = 4 ∨ i = 5 ∨ i = 6 ∨ i = 7 ∨ i = 8 ∨ i = 9 ∨ i = 10 ∨ i = 11 ∨ i = 12 ∨ i = 13 := by omega
  rcases this with rfl | rfl | rfl | rfl | rfl | rfl | rfl | rfl | rfl | rfl | rfl | rfl | rfl | rfl <;> rfl
theorem ws_k19 : ∀ i : Nat, i < 14 → ∃ t p, cd_strs[i]? = some t ∧ t.2.2.2 = 5 + i ∧ cd_csL[i]? = some p ∧ cd_k0 (19 + i) = some (.inr (3, p.2.length)) ∧ ∀ j, ws_i0 (19 + i) j = nI (cd_csN p.2 j) := fun i hi => by
  have : i = 0 ∨ i = 1 ∨ i = 2 ∨ i = 3 ∨ i = 4 ∨ i = 5 ∨ i = 6 ∨ i = 7 ∨ i = 8 ∨ i = 9 ∨ i = 10 ∨ i = 11 ∨ i = 12 ∨ i = 13 := by omega
  rcases this with rfl | rfl | rfl | rfl | rfl | rfl | rfl | rfl | rfl | rfl | rfl | rfl | rfl | rfl <;> exact ⟨_, _, rfl, rfl, rfl, rfl, fun j => rfl⟩
theorem ws_k33 : ∀ i : Nat, 33 ≤ i → cd_k0 i = none := fun i hi => List.getElem?_eq_none (show 33 ≤ i from hi)
