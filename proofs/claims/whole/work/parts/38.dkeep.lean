def cc_fat (h : cd_H) : Prop := (cd_i h 1 0 = 0 ∧ cd_i h 1 1 = 0) ∧ (cd_i h 2 0 = 0 ∧ cd_i h 2 1 = 1) ∧ (cd_i h 3 0 = 1 ∧ cd_i h 3 1 = 1) ∧ cd_i h 4 0 = 1 ∧ cd_i h 4 1 = 0
theorem cc_aut.ch {A : Nat → Prop} {h h' : cd_H} {now : Nat} {accs auts : List Nat} {AU : List sg_U} {b cap : Nat} (U : cc_aut h now accs AU auts b cap) (hn : ∀ x q, cd_k h x = some q → x < cd_n h) (C : cd_ch A h h') (h80 : ¬ A 80) (hb : ¬ A b) (hA : ∀ x, A x → ¬ cd_k h x = some (.inl 2) ∧ ¬ cd_k h x = some (.inl 13) ∧ ∀ n, ¬ cd_k h x = some (.inr (3, n))) : cc_aut h' now accs AU auts b cap := by
  obtain ⟨u1, u2, u3, u4, u5⟩ := U
  refine ⟨u1, u2.ch C (hn _ _ u2.2.1) (hn _ _ u2.2.2.2.2.1) h80 hb, u3, u4, fun i x u hx hu => ?_⟩
  obtain ⟨⟨c1, c2, c3⟩, ⟨z, c4, c5⟩, ⟨s, sb, c6, c6b, c6c, c6d, c6e⟩, c7, c8, c9, c10, c11, c12⟩ := u5 i x u hx hu
  have hx2 := hn _ _ c2
  obtain ⟨p1, p2, p3⟩ := C.2.2 x hx2 (fun w => (hA x w).1 c2)
  have hs := hn _ _ c6b.1
  obtain ⟨q1, q2, q3⟩ := C.2.2 s hs (fun w => (hA s w).2.1 c6b.1)
  exact ⟨⟨c1, by rw [C.2.1 x hx2]; exact c2, by rw [p1]; exact c3⟩, ⟨z, c4, by rw [p3]; exact c5⟩, ⟨s, sb, by rw [p3]; exact c6, c6b.ch C hn (fun y hy => ⟨(hA y hy).2.1, (hA y hy).2.2⟩), c6c, by rw [q3]; exact c6d, c6e⟩, by rw [p1]; exact c7, by rw [p1]; exact c8, by rw [p1]; exact c9, by rw [p1]; exact c10, by rw [p1]; exact c11, c12⟩
theorem cc_non.ch {A : Nat → Prop} {h h' : cd_H} {cr gv : Nat} {sp : Nat → Bool} (N : cc_non h cr gv sp) (C : cd_ch A h h') (hn : 82 ≤ cd_n h) (h1 : ¬ A 74) (h2 : ¬ A 75) : cc_non h' cr gv sp := by
  obtain ⟨n1, n2, n3, n4, n5⟩ := N
  have p := (C.2.2 74 (by omega) h1).1
  have q := (C.2.2 75 (by omega) h2).1
  exact ⟨n1, n2, by rw [p]; exact n3, by rw [p]; exact n4, fun k hk => by rw [q]; exact n5 k hk⟩
theorem cc_fat.ch {A : Nat → Prop} {h h' : cd_H} (N : cc_fat h) (C : cd_ch A h h') (hn : 82 ≤ cd_n h) (h1 : ∀ x, x < 64 → ¬ A x) : cc_fat h' := by
  have p : ∀ x, x < 64 → ∀ j, cd_i h' x j = cd_i h x j := fun x hx => (C.2.2 x (by omega) (h1 x hx)).1
  unfold cc_fat
  rw [p 1 (by decide), p 1 (by decide), p 2 (by decide), p 2 (by decide), p 3 (by decide), p 3 (by decide), p 4 (by decide), p 4 (by decide)]
  exact N
section VDK
variable {X : cd_E} {kc ks : Nat} {h : cd_H} {Q : Option Value → cd_H → Prop} {now : Nat} {AU : List sg_U} {accs auts : List Nat} {b cap : Nat}
theorem sp_Desk_keep (F : cc_ok h) (Ft : cc_fat h) (hn82 : 82 ≤ cd_n h) {cr gv : Nat} {sp : Nat → Bool} {us w : Nat} {ct : Option Nat} (N : cc_non h cr gv sp) (hcr : cr < 1000) (U : cc_aut h now accs AU auts b cap) (S : cc_sto h us ct) (hw : w ≤ 1000)
    (hf : 200 < us + w → Q (some (.ref 1)) h)
    (hn : us + w ≤ 200 → ct = none → ∀ h', cd_ch (fun x => x = 76) h h' → cd_n h' = cd_n h → cd_k h' = cd_k h → cc_ok h' → cc_sto h' (us + w) none → Q (some (.ref 4)) h')
    (hi : us + w ≤ 200 → ∀ c, ct = some c → w ≤ c → ∀ h', cd_ch (fun x => x = 76 ∨ x = 74 ∨ x ∈ auts) h h' → cd_n h' = cd_n h → cd_k h' = cd_k h → cc_ok h' → cc_sto h' (us + w) none → cc_non h' (cr + 1) 0 (fun _ => false) → cc_aut h' now accs (AU.map sg_cr) auts b cap → Q (some (.ref 3)) h')
    (ho : us + w ≤ 200 → ∀ c, ct = some c → c < w → ∀ h', cd_ch (fun x => x = 76 ∨ x = 74 ∨ x ∈ auts) h h' → cd_n h' = cd_n h → cd_k h' = cd_k h → cc_ok h' → cc_sto h' us none → cc_non h' (cr + 1) 0 (fun _ => false) → cc_aut h' now accs (AU.map sg_cr) auts b cap → Q (some (.ref 2)) h') :
    cd_W X m_Desk_keep kc ks 0 [some (.ref 64), some (.int (nI w)), none] [] h Q := by
  refine cd_W.k0 (fun hk0 hnone _ => ?_)
  have hbd : ∀ x q, cd_k h x = some q → x < cd_n h := fun x q hx => by
    by_cases z : cd_n h ≤ x
    · rw [hnone x z] at hx; cases hx
    · omega
  obtain ⟨s1, s2, s3, s4⟩ := S
  have k76 := cc_k76 F
  have hA : ∀ x, x = 76 → ¬ cd_k h x = some (.inl 2) ∧ ¬ cd_k h x = some (.inl 13) ∧ ∀ n, ¬ cd_k h x = some (.inr (3, n)) := fun x hx => by
    subst hx
    rw [k76]
    exact ⟨(fun z => by cases z), (fun z => by cases z), fun n z => by cases z⟩
  have hb76 : ¬ b = 76 := fun z => by have := U.2.1.2.2.2.2.1; rw [z, k76] at this; cases this
  have C1 : cd_ch (fun x => x = 76) h (cd_si h 76 1 (-1)) := cd_ch.si rfl
  have C2 : ∀ y, cd_ch (fun x => x = 76) h (cd_si (cd_si h 76 1 (-1)) 76 0 y) := fun y => C1.tr (cd_ch.si rfl)
  have e0 : cd_i (cd_si h 76 1 (-1)) 76 0 = nI us := by rw [cd_i_si, if_neg (fun z => by cases z.2)]; exact s2
  have crash : ∀ (h1 : cd_H) (v f : Nat), v ≤ 200 → cd_ch (fun x => x = 76) h h1 → cd_n h1 = cd_n h → cd_k h1 = cd_k h → cc_ok h1 → cd_i h1 76 0 = nI v → cd_i h1 76 1 = -1 → (∀ h', cd_ch (fun x => x = 76 ∨ x = 74 ∨ x ∈ auts) h h' → cd_n h' = cd_n h → cd_k h' = cd_k h → cc_ok h' → cc_sto h' v none → cc_non h' (cr + 1) 0 (fun _ => false) → cc_aut h' now accs (AU.map sg_cr) auts b cap → Q (some (.ref f)) h') → cd_W X m_Desk_crash 0 0 0 [some (.ref 64), none] [] h1 (fun r7 h8 => (r7 = none) ∧ ((cc_ok h8) ∧ (Q (some (.ref f)) h8))) := by
    intro h1 v f hv C en ek F1 e1 e2 hq
    refine sp_Desk_crash F1 (N.ch C hn82 (by decide) (by decide)) hcr (U.ch hbd C (by decide) hb76 hA) (fun h' C' en' ek' F' N' U' => ⟨rfl, F', hq h' ?_ (en'.trans en) (ek'.trans ek) F' ⟨hv, ?_, ?_, fun c hc => by cases hc⟩ N' U'⟩)
    · exact ⟨Nat.le_trans C.1 C'.1, fun x hx => (C'.2.1 x (Nat.lt_of_lt_of_le hx C.1)).trans (C.2.1 x hx), fun x hx hB => by
        obtain ⟨p1, p2, p3⟩ := C.2.2 x hx (fun z => hB (Or.inl z))
        obtain ⟨q1, q2, q3⟩ := C'.2.2 x (Nat.lt_of_lt_of_le hx C.1) (fun z => hB (Or.inr z))
        exact ⟨fun j => (q1 j).trans (p1 j), fun j => (q2 j).trans (p2 j), fun j => (q3 j).trans (p3 j)⟩⟩
    all_goals
      have h76 : ¬ ((76 : Nat) = 74 ∨ 76 ∈ auts) := fun z => by
        rcases z with z | z
        · cases z
        · obtain ⟨k, hk2, e⟩ := List.getElem_of_mem z
          have u3 := U.2.2.1
          have e2 : AU[k]? = some (AU[k]'(by omega)) := List.getElem?_eq_getElem (by omega)
          have := (U.2.2.2.2 k 76 _ (by rw [List.getElem?_eq_getElem hk2, e]) e2).1.1
          omega
      rw [(C'.2.2 76 (by omega) h76).1]
    · exact e1
    · exact e2
  refine g_Desk_keep F (g_Sto_put F ?_)
  rw [s2, nI_add, show (200 : Int32) = nI 200 by decide, nI_leI (by omega) (by decide), e0, nI_add, s3]
  refine ⟨fun t => ⟨fun t2 => ⟨_, rfl, F.of rfl rfl, hk0 4 (by decide), fun _ => ?_, fun t3 => absurd ?_ t3⟩, fun t2 => ⟨fun t3 => ⟨_, rfl, F.of rfl rfl, hk0 2 (by decide), fun t4 => absurd ?_ (show ¬ (1 : Int32) = 0 by decide), fun _ => ?_⟩, fun t3 => ⟨_, rfl, F.of rfl rfl, hk0 3 (by decide), fun t4 => absurd ?_ (show ¬ (1 : Int32) = 0 by decide), fun _ => ?_⟩⟩⟩, fun t => ⟨_, rfl, F, hk0 1 (by decide), fun _ => hf (by omega), fun t3 => absurd Ft.1.2 t3⟩⟩
  · cases ct with
    | none =>
      refine hn t rfl _ (C2 _) rfl rfl (F.of rfl rfl) ⟨t, ?_, ?_, fun c hc => by cases hc⟩
      · rw [cd_i_si, if_pos ⟨rfl, rfl⟩]
      · rw [cd_i_si, if_neg (fun z => by cases z.2), cd_i_si, if_pos ⟨rfl, rfl⟩]; rfl
    | some c =>
      have := cd_op_pos (s4 c rfl)
      rw [t2] at this
      exact absurd (by decide) this
  · rw [cd_i_si, if_neg (fun z => by cases z.1), cd_i_si, if_neg (fun z => by cases z.1)]
    exact Ft.2.2.2.2
  · rw [cd_i_si, if_neg (fun z => by cases z.1)] at t4
    exact Ft.2.1.2.symm.trans t4
  · cases ct with
    | none => exact absurd rfl t2
    | some c =>
      have hlt : c < w := by
        have t3 : nI c < nI w := t3
        rw [nI_ltI (s4 c rfl) (by omega)] at t3
        exact t3
      exact crash _ us 2 s1 C1 rfl rfl (F.of rfl rfl) e0 (by rw [cd_i_si, if_pos ⟨rfl, rfl⟩]) (ho t c rfl hlt)
  · rw [cd_i_si, if_neg (fun z => by cases z.1), cd_i_si, if_neg (fun z => by cases z.1)] at t4
    exact Ft.2.2.1.2.symm.trans t4
  · cases ct with
    | none => exact absurd rfl t2
    | some c =>
      have hge : w ≤ c := by
        have t3 : ¬ nI c < nI w := t3
        rw [nI_ltI (s4 c rfl) (by omega)] at t3
        omega
      exact crash _ (us + w) 3 t (C2 _) rfl rfl (F.of rfl rfl) (by rw [cd_i_si, if_pos ⟨rfl, rfl⟩]) (by rw [cd_i_si, if_neg (fun z => by cases z.2), cd_i_si, if_pos ⟨rfl, rfl⟩]) (hi t c rfl hge)
end VDK
