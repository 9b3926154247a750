def sg_nm (u : sg_U) : Nat × (Nat → Nat) := (sgu_len u, sgu_N u)
def sg_smq (q r : Nat × (Nat → Nat)) : Bool := decide (q.1 = r.1) && (List.range q.1).all (fun j => decide (q.2 j = r.2 j))
theorem sg_pl_nm (AU : List sg_U) (u : sg_U) : sg_pl AU u = (AU.map sg_nm).findIdx (fun q => sg_smq q (sg_nm u)) := by
  rw [List.findIdx_map]
  rfl
theorem sg_pl_cg {AU AU' : List sg_U} {u u' : sg_U} (e : AU'.map sg_nm = AU.map sg_nm) (e2 : sg_nm u' = sg_nm u) : sg_pl AU' u' = sg_pl AU u := by
  rw [sg_pl_nm, sg_pl_nm, e, e2]
theorem sg_set_nm {AU : List sg_U} {j : Nat} {u u' : sg_U} (hu : AU[j]? = some u) (e : sg_nm u' = sg_nm u) : (AU.set j u').map sg_nm = AU.map sg_nm := by
  apply List.ext_getElem?
  intro i
  rw [List.getElem?_map, List.getElem?_map, List.getElem?_set]
  by_cases h : j = i
  · subst h
    rw [if_pos rfl, if_pos (List.getElem?_eq_some_iff.mp hu).1, hu]
    show some (sg_nm u') = some (sg_nm u)
    rw [e]
  · rw [if_neg h]
theorem sg_cr_nm (AU : List sg_U) : (AU.map sg_cr).map sg_nm = AU.map sg_nm := by
  rw [List.map_map]
  rfl
theorem sg_inj {l : List Nat} (h : l.Nodup) {i j x : Nat} (hi : l[i]? = some x) (hj : l[j]? = some x) : i = j := by
  obtain ⟨a1, a2⟩ := List.getElem?_eq_some_iff.mp hi
  obtain ⟨b1, b2⟩ := List.getElem?_eq_some_iff.mp hj
  have P := List.pairwise_iff_getElem.mp h
  by_cases e : i < j
  · exact absurd (a2.trans b2.symm) (P i j a1 b1 e)
  · by_cases e2 : j < i
    · exact absurd (b2.trans a2.symm) (P j i b1 a1 e2)
    · omega
theorem cc_lst.ci {A : Nat → Prop} {h h' : cd_H} {a b cap : Nat} {l : List Nat} (L : cc_lst h a l b cap) (C : cd_ci A h h') (hA : ¬ A a) : cc_lst h' a l b cap := by
  obtain ⟨a1, a2, a3, a4, a5, a6, a7, a8⟩ := L
  exact ⟨a1, by rw [C.2.1]; exact a2, by rw [C.2.2.2.2 a 1 hA]; exact a3, by rw [C.2.2.1]; exact a4, by rw [C.2.1]; exact a5, a6, a7, fun j hj => by rw [C.2.2.1]; exact a8 j hj⟩
theorem cc_aut.upd {h h' : cd_H} {now : Nat} {accs auts : List Nat} {AU : List sg_U} {b cap : Nat} (U : cc_aut h now accs AU auts b cap) {j y : Nat} {u u' : sg_U} (hy : auts[j]? = some y) (hu : AU[j]? = some u) (C : cd_ci (fun x => x = y) h h') (e0 : ∀ k, k < 5 → cd_i h' y k = cd_i h y k) (e5 : cd_i h' y 5 = nI (sg_dc (sgu_dec u'))) (e6 : cd_i h' y 6 = nI (sgu_since u')) (e7 : cd_i h' y 7 = if sgu_tri u' = 0 then -1 else nI (sgu_tri u' - 1)) (s1 : sgu_own u' = sgu_own u) (s2 : sg_nm u' = sg_nm u) (s3 : sgu_made u' = sgu_made u) (d : sgu_dec u' ≤ 2 ∧ sgu_tri u' ≤ 2 ∧ sgu_since u' ≤ now) (d0 : sgu_dec u' = 0 → sgu_since u' = sgu_made u') : cc_aut h' now accs (AU.set j u') auts b cap := by
  obtain ⟨u1, u2, u3, u4, u5⟩ := U
  obtain ⟨⟨a1, a2, a3⟩, -⟩ := u5 j y u hy hu
  have hk : ∀ x q, cd_k h x = some q → ¬ q = .inl 2 → ¬ x = y := fun x q hx hq z => by rw [z, a2] at hx; cases hx; exact hq rfl
  have enm := sg_set_nm hu s2
  refine ⟨by rw [List.length_set]; exact u1, u2.ci C (hk _ _ u2.2.1 (fun z => by cases z)), by rw [List.length_set]; exact u3, u4, fun i x v hx hv => ?_⟩
  rw [List.getElem?_set] at hv
  have str : ∀ s N len, cc_str h s N len → cc_str h' s N len := fun s N len S => S.ci C (fun z hz => ⟨fun e => hk _ _ e (fun z => by cases z) hz, fun n e => hk _ _ e (fun z => by cases z) hz⟩)
  by_cases hij : j = i
  · subst hij
    rw [if_pos rfl, if_pos (List.getElem?_eq_some_iff.mp hu).1] at hv
    cases hv
    cases hy.symm.trans hx
    obtain ⟨⟨c1, c2, c3⟩, ⟨z, c4, c5⟩, ⟨s, sb, c6, c6b, c6c, c6d, c6e⟩, c7, c8, c9, c10, c11, c12, c16, c17⟩ := u5 j y u hy hu
    have en : sgu_N u' = sgu_N u := congrArg (fun q : Nat × (Nat → Nat) => q.2) s2
    have el : sgu_len u' = sgu_len u := congrArg (fun q : Nat × (Nat → Nat) => q.1) s2
    refine ⟨⟨c1, by rw [C.2.1]; exact c2, by rw [e0 0 (by decide)]; exact c3⟩, ⟨z, by rw [s1]; exact c4, by rw [C.2.2.1]; exact c5⟩, ⟨s, sb, by rw [C.2.2.1]; exact c6, by rw [en, el]; exact str _ _ _ c6b, c6c, by rw [C.2.2.1]; exact c6d, c6e⟩, by rw [e0 3 (by decide), s3]; exact c7, by rw [e0 4 (by decide), sg_pl_cg enm s2]; exact c8, e5, e6, e7, ⟨d.1, d.2.1, by rw [s3]; exact c12.2.2.1, d.2.2⟩, d0, by rw [el]; exact c17⟩
  · rw [if_neg hij] at hv
    have hxy : ¬ x = y := fun z => hij (by
      subst z
      exact sg_inj u4 hy hx)
    obtain ⟨⟨c1, c2, c3⟩, ⟨z, c4, c5⟩, ⟨s, sb, c6, c6b, c6c, c6d, c6e⟩, c7, c8, c9, c10, c11, c12, c16, c17⟩ := u5 i x v hx hv
    have ei : ∀ k, cd_i h' x k = cd_i h x k := fun k => C.2.2.2.2 x k hxy
    exact ⟨⟨c1, by rw [C.2.1]; exact c2, by rw [ei 0]; exact c3⟩, ⟨z, c4, by rw [C.2.2.1]; exact c5⟩, ⟨s, sb, by rw [C.2.2.1]; exact c6, str _ _ _ c6b, c6c, by rw [C.2.2.1]; exact c6d, c6e⟩, by rw [ei]; exact c7, by rw [ei, sg_pl_cg enm rfl]; exact c8, by rw [ei]; exact c9, by rw [ei]; exact c10, by rw [ei]; exact c11, c12, c16, c17⟩
theorem cm_aut.upd {h h' : cd_H} {now : Nat} {AC : List sg_A} {AU : List sg_U} (U : cm_aut h now AC AU) {j : Nat} {u u' : sg_U} (hu : AU[j]? = some u) (e : ∀ x k, ((x = 82 ∧ k = 23) ∨ (97 ≤ x ∧ x ≤ 103)) → ¬ ((x = 101 ∨ x = 102 ∨ x = 103) ∧ k = j) → cd_i h' x k = cd_i h x k) (e1 : cd_i h' 101 j = nI (sgu_dec u')) (e2 : sgu_dec u' = 1 → cd_i h' 102 j = nI (sgu_since u')) (e3 : cd_i h' 103 j = nI (sgu_tri u')) (s1 : sgu_own u' = sgu_own u) (s2 : sg_nm u' = sg_nm u) (s3 : sgu_made u' = sgu_made u) (d : sgu_dec u' ≤ 2 ∧ sgu_tri u' ≤ 2 ∧ sgu_since u' ≤ now) : cm_aut h' now AC (AU.set j u') := by
  have hj := (List.getElem?_eq_some_iff.mp hu).1
  have en : sgu_N u' = sgu_N u := congrArg (fun q : Nat × (Nat → Nat) => q.2) s2
  have el : sgu_len u' = sgu_len u := congrArg (fun q : Nat × (Nat → Nat) => q.1) s2
  refine ⟨by rw [List.length_set]; exact U.1, by rw [e 82 23 (by omega) (by omega), List.length_set]; exact U.2.1, fun i v hv => ?_, fun i hi h24 => ?_⟩
  · rw [List.getElem?_set] at hv
    by_cases hij : j = i
    · subst hij
      rw [if_pos rfl, if_pos hj] at hv
      cases hv
      obtain ⟨b1, b2, b3, b4, b5, b6, b7, b8, b9, b10, b11⟩ := U.2.2.1 j u hu
      exact ⟨by rw [s1]; exact b1, by rw [e 97 j (by omega) (by omega), s1]; exact b2, by rw [en, el]; exact b3.of (fun x k hx => e x k (by omega) (by omega)), by rw [e 100 j (by omega) (by omega), s3]; exact b4, e1, e2, e3, d.1, d.2.1, by rw [s3]; exact b10, d.2.2⟩
    · rw [if_neg hij] at hv
      obtain ⟨b1, b2, b3, b4, b5, b6, b7, b8⟩ := U.2.2.1 i v hv
      exact ⟨b1, by rw [e 97 i (by omega) (by omega)]; exact b2, b3.of (fun x k hx => e x k (by omega) (by omega)), by rw [e 100 i (by omega) (by omega)]; exact b4, by rw [e 101 i (by omega) (by omega)]; exact b5, fun z => by rw [e 102 i (by omega) (by omega)]; exact b6 z, by rw [e 103 i (by omega) (by omega)]; exact b7, b8⟩
  · rw [List.length_set] at hi
    rw [e 101 i (by omega) (by omega), e 103 i (by omega) (by omega)]
    exact U.2.2.2 i hi h24
def sg_ky (AC : List sg_A) (i : Nat) : Nat := match AC[i]? with
  | none => 0
  | some a => a.1
def sg_gd (AC : List sg_A) (NW : Nat → Option Nat) (AU : List sg_U) (j : Nat) (u : sg_U) : Bool := decide (NW (24 * (sgu_tri u - 1) + sg_pl AU u) = some (sg_put j u (sg_ky AC (sgu_own u))))
def sg_dcd (g : Bool) (now : Nat) (u : sg_U) : sg_U := (sgu_own u, sgu_N u, sgu_len u, sgu_made u, if g then 1 else 2, now, 0)
def sg_tk (AC : List sg_A) (life now : Nat) (NW : Nat → Option Nat) : Nat → Nat → List sg_U → Nat → Option Nat → Nat → List sg_U × Nat × Option Nat × Bool × Nat
  | 0, _, AU, us, ct, pr => (AU, us, ct, false, pr)
  | r + 1, j, AU, us, ct, pr => match AU[j]? with
    | none => (AU, us, ct, false, pr)
    | some u => if sg_st AC life now u = 1 then
        (if 200 < us + 5 then sg_tk AC life now NW r (j + 1) (AU.set j (sg_cr u)) us ct pr
        else match ct with
          | none => sg_tk AC life now NW r (j + 1) (AU.set j (sg_dcd (sg_gd AC NW AU j u) now u)) (us + 5) none (pr + if sg_gd AC NW AU j u then 1 else 0)
          | some c => if 5 ≤ c then ((AU.map sg_cr).set j (sg_dcd (sg_gd AC NW AU j u) now u), us + 5, none, true, pr + if sg_gd AC NW AU j u then 1 else 0)
            else ((AU.map sg_cr).set j (sg_cr u), us, none, true, pr))
      else sg_tk AC life now NW r (j + 1) AU us ct pr
def sg_ncr (b : Bool) (cr : Nat) : Nat := if b then cr + 1 else cr
def sg_ngv (b : Bool) (gv : Nat) : Nat := if b then 0 else gv
def sg_nsp (b : Bool) (sp : Nat → Bool) : Nat → Bool := if b then fun _ => false else sp
theorem sg_tk_nm (AC : List sg_A) (life now : Nat) (NW : Nat → Option Nat) : ∀ r j AU us ct pr, (sg_tk AC life now NW r j AU us ct pr).1.map sg_nm = AU.map sg_nm := by
  intro r
  induction r with
  | zero => intro j AU us ct pr; rfl
  | succ r ih =>
    intro j AU us ct pr
    rw [sg_tk]
    cases hu : AU[j]? with
    | none => rfl
    | some u =>
      simp only
      have hcr : (AU.map sg_cr)[j]? = some (sg_cr u) := by rw [List.getElem?_map, hu]; rfl
      split
      · split
        · rw [ih]; exact sg_set_nm hu rfl
        · split
          · rw [ih]; exact sg_set_nm hu rfl
          · split
            · exact (sg_set_nm (u' := sg_dcd _ now u) hcr rfl).trans (sg_cr_nm AU)
            · exact (sg_set_nm hcr rfl).trans (sg_cr_nm AU)
      · exact ih _ _ _ _ _
theorem sg_st1 {AC : List sg_A} {life now : Nat} {u : sg_U} (h : sg_st AC life now u = 1) : 0 < sgu_tri u ∧ sgu_dec u ≠ 1 ∧ sgu_dec u ≠ 2 := by
  by_cases a : sg_cl AC (sgu_own u) = true ∨ sgu_dec u = 2
  · rw [sg_st, if_pos a] at h
    cases h
  · by_cases b : life ≤ now - (if sgu_dec u = 1 then sgu_since u else sgu_made u)
    · rw [sg_st, if_neg a, if_pos b] at h
      cases h
    · by_cases c : sgu_dec u = 1
      · rw [sg_st, if_neg a, if_neg b, if_pos c] at h
        cases h
      · by_cases d : 0 < sgu_tri u
        · exact ⟨d, c, fun z => a (Or.inr z)⟩
        · rw [sg_st, if_neg a, if_neg b, if_neg c, if_neg d] at h
          cases h
