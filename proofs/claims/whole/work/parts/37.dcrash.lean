def cc_c7 (l : List Nat) (h h' : cd_H) : Prop := cd_n h' = cd_n h ∧ cd_k h' = cd_k h ∧ cd_r h' = cd_r h ∧ cd_l h' = cd_l h ∧ ∀ x k, ¬ (x ∈ l ∧ k = 7) → cd_i h' x k = cd_i h x k
theorem cc_c7.rf (l : List Nat) (h : cd_H) : cc_c7 l h h := ⟨rfl, rfl, rfl, rfl, fun _ _ _ => rfl⟩
theorem cc_c7.tr {l : List Nat} {h h1 h2 : cd_H} (a : cc_c7 l h h1) (b : cc_c7 l h1 h2) : cc_c7 l h h2 := ⟨b.1.trans a.1, b.2.1.trans a.2.1, b.2.2.1.trans a.2.2.1, b.2.2.2.1.trans a.2.2.2.1, fun x k hx => (b.2.2.2.2 x k hx).trans (a.2.2.2.2 x k hx)⟩
theorem cc_c7.ch {l : List Nat} {h h' : cd_H} (a : cc_c7 l h h') : cd_ch (fun x => x ∈ l) h h' :=
  ⟨Nat.le_of_eq a.1.symm, fun x _ => by rw [a.2.1], fun x _ hx => ⟨fun j => a.2.2.2.2 x j (fun z => hx z.1), fun j => by rw [a.2.2.2.1], fun j => by rw [a.2.2.1]⟩⟩
theorem cc_lst.ch {A : Nat → Prop} {h h' : cd_H} {a b cap : Nat} {l : List Nat} (L : cc_lst h a l b cap) (C : cd_ch A h h') (ha : a < cd_n h) (hb : b < cd_n h) (hA : ¬ A a) (hB : ¬ A b) : cc_lst h' a l b cap := by
  obtain ⟨a1, a2, a3, a4, a5, a6, a7, a8⟩ := L
  obtain ⟨p1, p2, p3⟩ := C.2.2 a ha hA
  obtain ⟨q1, q2, q3⟩ := C.2.2 b hb hB
  exact ⟨a1, by rw [C.2.1 a ha]; exact a2, by rw [p1]; exact a3, by rw [p3]; exact a4, by rw [C.2.1 b hb]; exact a5, a6, a7, fun j hj => by rw [q3]; exact a8 j hj⟩
theorem cc_str.ch {A : Nat → Prop} {h h' : cd_H} {a len : Nat} {N : Nat → Nat} (S : cc_str h a N len) (C : cd_ch A h h') (hn : ∀ x q, cd_k h x = some q → x < cd_n h) (hA : ∀ x, A x → ¬ cd_k h x = some (.inl 13) ∧ ∀ n, ¬ cd_k h x = some (.inr (3, n))) : cc_str h' a N len := by
  obtain ⟨a1, a2, a3, b, a4, a5, a6⟩ := S
  have ha := hn _ _ a1
  have hb := hn _ _ a5
  obtain ⟨p1, p2, p3⟩ := C.2.2 a ha (fun z => (hA a z).1 a1)
  obtain ⟨q1, q2, q3⟩ := C.2.2 b hb (fun z => (hA b z).2 _ a5)
  exact ⟨by rw [C.2.1 a ha]; exact a1, by rw [p1]; exact a2, a3, b, by rw [p3]; exact a4, by rw [C.2.1 b hb]; exact a5, fun j hj => by rw [q1]; exact a6 j hj⟩
theorem sg_pl_cr (AU : List sg_U) (u : sg_U) : sg_pl (AU.map sg_cr) (sg_cr u) = sg_pl AU u := by
  unfold sg_pl
  rw [List.findIdx_map]
  rfl
section VDC
variable {X : cd_E} {kc ks : Nat} {h : cd_H} {Q : Option Value → cd_H → Prop} {life now : Nat} {AC : List sg_A} {AU : List sg_U} {accs auts : List Nat} {b cap : Nat}
theorem sp_Desk_crash_9 : ∀ (i j : Nat) (h : cd_H), i + j = auts.length → auts.length ≤ 24 → cc_ok h → cc_lst h 80 auts b cap → (∀ y, y ∈ auts → cd_k h y = some (.inl 2) ∧ 64 ≤ y) → (∀ k x, k < j → auts[k]? = some x → cd_i h x 7 = -1) → (∀ h', cc_c7 auts h h' → (∀ x, x ∈ auts → cd_i h' x 7 = -1) → Q none h') → cd_W X m_Desk_crash kc ks 9 [some (.ref 64), some (.int (nI j))] [] h Q := by
  intro i
  induction i with
  | zero =>
    intro j h hj hl F L hk hz hq
    refine g_Desk_crash_9 F (sp_AL_size L ⟨_, rfl, F, fun _ => hq h (cc_c7.rf _ _) (fun x hx => ?_), fun t => absurd (nI_le (by omega) (by omega)) t⟩)
    obtain ⟨k, hk2, e⟩ := List.getElem_of_mem hx
    exact hz k x (by omega) (by rw [List.getElem?_eq_getElem hk2, e])
  | succ i ih =>
    intro j h hj hl F L hk hz hq
    have hlt : j < auts.length := by omega
    have e : auts[j]? = some auts[j] := List.getElem?_eq_getElem hlt
    have hmem : auts[j] ∈ auts := List.getElem_mem hlt
    obtain ⟨k1, k2⟩ := hk _ hmem
    refine g_Desk_crash_9 F (sp_AL_size L ⟨_, rfl, F, fun t => ?_, fun _ => sp_AL_get L e ⟨some _, rfl, F, _, rfl, k1, k2, ?_⟩⟩)
    · rw [nI_leI (by omega) (by omega)] at t
      omega
    · rw [nI_1]
      have C : cc_c7 auts h (cd_si h auts[j] 7 (-1)) := ⟨rfl, rfl, rfl, rfl, fun x k hx => by rw [cd_i_si, if_neg (fun z => hx ⟨by rw [z.1]; exact hmem, z.2⟩)]⟩
      have L' : cc_lst (cd_si h auts[j] 7 (-1)) 80 auts b cap := by
        obtain ⟨a1, a2, a3, a4, a5, a6, a7, a8⟩ := L
        exact ⟨a1, a2, by rw [cd_i_si, if_neg (fun z => by cases z.2)]; exact a3, a4, a5, a6, a7, a8⟩
      refine ih (j + 1) _ (by omega) hl (F.of rfl rfl) L' hk (fun k x hk2 hx => ?_) (fun h' C' z' => hq h' (C.tr C') z')
      rw [cd_i_si]
      by_cases ex : x = auts[j]
      · rw [if_pos ⟨ex, rfl⟩]
      · rw [if_neg (fun z => ex z.1)]
        refine hz k x ?_ hx
        by_cases ek : k = j
        · subst ek
          rw [e] at hx
          exact absurd (Option.some.inj hx).symm ex
        · omega
theorem cc_aut.cr {h' : cd_H} (U : cc_aut h now accs AU auts b cap) (hn : ∀ x q, cd_k h x = some q → x < cd_n h) (C : cc_c7 auts h h') (hz : ∀ x, x ∈ auts → cd_i h' x 7 = -1) : cc_aut h' now accs (AU.map sg_cr) auts b cap := by
  obtain ⟨u1, u2, u3, u4, u5⟩ := U
  have hmem : ∀ x, x ∈ auts → cd_k h x = some (.inl 2) := fun x hx => by
    obtain ⟨k, hk2, e⟩ := List.getElem_of_mem hx
    have e2 : AU[k]? = some (AU[k]'(by omega)) := List.getElem?_eq_getElem (by omega)
    exact (u5 k x _ (by rw [List.getElem?_eq_getElem hk2, e]) e2).1.2.1
  have h80 : ¬ (80 : Nat) ∈ auts := fun z => by have := hmem _ z; rw [u2.2.1] at this; cases this
  have hb : ¬ b ∈ auts := fun z => by have := hmem _ z; rw [u2.2.2.2.2.1] at this; cases this
  refine ⟨by rw [List.length_map]; exact u1, u2.ch C.ch (hn _ _ u2.2.1) (hn _ _ u2.2.2.2.2.1) h80 hb, by rw [List.length_map]; exact u3, u4, fun i x u hx hu => ?_⟩
  rw [List.getElem?_map] at hu
  cases hv : AU[i]? with
  | none => rw [hv] at hu; cases hu
  | some v =>
    rw [hv] at hu
    cases hu
    obtain ⟨⟨c1, c2, c3⟩, ⟨z, c4, c5⟩, ⟨s, sb, c6, c6b, c6c, c6d, c6e⟩, c7, c8, c9, c10, c11, ⟨c12, c13, c14, c15⟩, c16, c17⟩ := u5 i x v hx hv
    have ei : ∀ k, ¬ k = 7 → cd_i h' x k = cd_i h x k := fun k hk => C.2.2.2.2 x k (fun z => hk z.2)
    refine ⟨⟨c1, by rw [C.2.1]; exact c2, by rw [ei 0 (by decide)]; exact c3⟩, ⟨z, c4, by rw [C.2.2.1]; exact c5⟩, ⟨s, sb, by rw [C.2.2.1]; exact c6, c6b.ch C.ch hn (fun y hy => ⟨fun z => (by rw [hmem y hy] at z; cases z), fun n z => (by rw [hmem y hy] at z; cases z)⟩), c6c, by rw [C.2.2.1]; exact c6d, c6e⟩, by rw [ei 3 (by decide)]; exact c7, ?_, by rw [ei 5 (by decide)]; exact c9, by rw [ei 6 (by decide)]; exact c10, ?_, ⟨c12, Nat.zero_le _, c14, c15⟩, c16, c17⟩
    · rw [ei 4 (by decide), sg_pl_cr]
      exact c8
    · exact hz x (List.mem_of_getElem? hx)
theorem sp_Desk_crash (F : cc_ok h) {cr gv : Nat} {sp : Nat → Bool} (N : cc_non h cr gv sp) (hcr : cr < 1000) (U : cc_aut h now accs AU auts b cap) (hq : ∀ h', cd_ch (fun x => x = 74 ∨ x ∈ auts) h h' → cd_n h' = cd_n h → cd_k h' = cd_k h → cc_ok h' → cc_non h' (cr + 1) 0 (fun _ => false) → cc_aut h' now accs (AU.map sg_cr) auts b cap → Q none h') : cd_W X m_Desk_crash kc ks 0 [some (.ref 64), none] [] h Q := by
  refine cd_W.k0 (fun _ hnone _ => ?_)
  have hbd : ∀ x q, cd_k h x = some q → x < cd_n h := fun x q hx => by
    by_cases z : cd_n h ≤ x
    · rw [hnone x z] at hx; cases hx
    · omega
  obtain ⟨n1, n2, n3, n4, n5⟩ := N
  have u3 := U.2.2.1
  have u1 := U.1
  have hmem : ∀ x, x ∈ auts → cd_k h x = some (.inl 2) ∧ 114 ≤ x := fun x hx => by
    obtain ⟨k, hk2, e⟩ := List.getElem_of_mem hx
    have e2 : AU[k]? = some (AU[k]'(by omega)) := List.getElem?_eq_getElem (by omega)
    have := (U.2.2.2.2 k x _ (by rw [List.getElem?_eq_getElem hk2, e]) e2).1
    exact ⟨this.2.1, this.1⟩
  refine g_Desk_crash F (g_Non_forget F ⟨rfl, F.of rfl rfl, ?_⟩)
  have C0 : cd_ch (fun x => x = 74 ∨ x ∈ auts) h (cd_si (cd_si h 74 1 (cd_i h 74 1 + 1000)) 74 2 0) := (cd_ch.si (Or.inl rfl)).tr (cd_ch.si (Or.inl rfl))
  have h74 : ¬ (74 : Nat) ∈ auts := fun z => by have := (hmem _ z).2; omega
  have U0 : cc_aut (cd_si (cd_si h 74 1 (cd_i h 74 1 + 1000)) 74 2 0) now accs AU auts b cap := by
    have ek : ∀ x k, ¬ x = 74 → cd_i (cd_si (cd_si h 74 1 (cd_i h 74 1 + 1000)) 74 2 0) x k = cd_i h x k := fun x k hx => by rw [cd_i_si, if_neg (fun z => hx z.1), cd_i_si, if_neg (fun z => hx z.1)]
    have Cx : cd_ch (fun x => x = 74) h (cd_si (cd_si h 74 1 (cd_i h 74 1 + 1000)) 74 2 0) := (cd_ch.si (A := fun x => x = 74) rfl).tr (cd_ch.si rfl)
    have k74 := cc_k74 F
    refine ⟨U.1, U.2.1.ch Cx (hbd _ _ U.2.1.2.1) (hbd _ _ U.2.1.2.2.2.2.1) (by decide) (fun z => by have := U.2.1.2.2.2.2.1; rw [z, k74] at this; cases this), U.2.2.1, U.2.2.2.1, fun i x u hx hu => ?_⟩
    obtain ⟨⟨c1, c2, c3⟩, c4, ⟨s, sb, c6, c6b, c6c, c6d, c6e⟩, c7, c8, c9, c10, c11, c12⟩ := U.2.2.2.2 i x u hx hu
    have ex : ¬ x = 74 := by omega
    refine ⟨⟨c1, c2, by rw [ek x 0 ex]; exact c3⟩, c4, ⟨s, sb, c6, c6b.ch Cx hbd (fun y hy => ⟨fun z => (by rw [hy, k74] at z; cases z), fun n z => (by rw [hy, k74] at z; cases z)⟩), c6c, c6d, c6e⟩, by rw [ek x 3 ex]; exact c7, by rw [ek x 4 ex]; exact c8, by rw [ek x 5 ex]; exact c9, by rw [ek x 6 ex]; exact c10, by rw [ek x 7 ex]; exact c11, c12⟩
  refine sp_Desk_crash_9 auts.length 0 _ (by omega) (by omega) (F.of rfl rfl) U0.2.1 (fun y hy => ⟨(hmem y hy).1, by have := (hmem y hy).2; omega⟩) (fun k x hk => by omega) (fun h' C z => ?_)
  refine hq h' (C0.old C.ch (fun x _ hx => Or.inr hx)) C.1 C.2.1 (F.of C.2.1 C.2.2.1) ⟨by omega, by decide, ?_, ?_, fun k hk => by omega⟩ (U0.cr hbd C z)
  · rw [C.2.2.2.2 74 1 (fun z => h74 z.1), cd_i_si, if_neg (fun z => by cases z.2), cd_i_si, if_pos ⟨rfl, rfl⟩, n3, show (1000 : Int32) = nI 1000 by decide, nI_add]
    congr 1
  · rw [C.2.2.2.2 74 2 (fun z => h74 z.1), cd_i_si, if_pos ⟨rfl, rfl⟩]; rfl
end VDC
