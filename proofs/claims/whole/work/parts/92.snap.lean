def ci_v (lf : Int32) : List (Nat × Nat × Option Int32) → Nat → Nat → Int32
  | [], _, _ => 0
  | q :: l, x, j => if x = q.1 ∧ j = q.2.1 then (match q.2.2 with
    | none => lf
    | some v => v) else ci_v lf l x j
theorem ci_v0 {lf : Int32} {x j : Nat} : ∀ (l : List (Nat × Nat × Option Int32)), (∀ q ∈ l, q.1 ≠ x) → ci_v lf l x j = 0
  | [], _ => rfl
  | q :: l, H => by
    rw [ci_v, if_neg (fun z => H q (List.mem_cons_self ..) z.1.symm)]
    exact ci_v0 l (fun p hp => H p (List.mem_cons_of_mem _ hp))
def ci_kq : (Nat ⊕ (Nat × Nat)) → (Nat ⊕ (Nat × Nat)) → Bool
  | .inl a, .inl b => decide (a = b)
  | .inr a, .inr b => decide (a.1 = b.1) && decide (a.2 = b.2)
  | _, _ => false
theorem ci_kq_eq : ∀ {p q : Nat ⊕ (Nat × Nat)}, ci_kq p q = true → p = q
  | .inl a, .inl b, h => congrArg Sum.inl (of_decide_eq_true h)
  | .inr (a, b), .inr (c, d), h => by
    have h : (decide (a = c) && decide (b = d)) = true := h
    rw [Bool.and_eq_true] at h
    have e1 : a = c := of_decide_eq_true h.1
    have e2 : b = d := of_decide_eq_true h.2
    rw [e1, e2]
  | .inl a, .inr b, h => by cases h
  | .inr a, .inl b, h => by cases h
def ci_mem (K : List (Nat × (Nat ⊕ (Nat × Nat)))) (a : Nat) (q : Nat ⊕ (Nat × Nat)) : Bool := K.any (fun p => decide (p.1 = a) && ci_kq p.2 q)
def ci_P (h0 h : cd_H) (n : Nat) (K : List (Nat × (Nat ⊕ (Nat × Nat)))) (R : List (Nat × Nat × Nat)) (I : List (Nat × Nat × Option Int32)) (lf w : Int32) : Prop := cd_n h = n ∧ (∀ q ∈ K, q.1 < n ∧ cd_k h q.1 = some q.2) ∧ (∀ q ∈ R, q.1 < n ∧ cd_r h q.1 q.2.1 = some q.2.2) ∧ (∀ x j, 64 ≤ x → x < n → x ≠ 77 → cd_i h x j = ci_v lf I x j) ∧ (77 < n → ∀ j, j < 48 → cd_i h 77 j = w) ∧ cd_ch (fun x => 64 ≤ x) h0 h
section WIN
variable {h0 h h' : cd_H} {n : Nat} {K : List (Nat × (Nat ⊕ (Nat × Nat)))} {R : List (Nat × Nat × Nat)} {I : List (Nat × Nat × Option Int32)} {lf w : Int32}
theorem ci_P.new (P : ci_P h0 h n K R I lf w) {q : Nat ⊕ (Nat × Nat)} (hI : ∀ p ∈ I, p.1 ≠ n) (hw : n = 77 → w = 0) : ci_P h0 (cd_new h q) (n + 1) ((n, q) :: K) R I lf w := by
  obtain ⟨e, p1, p2, p3, p4, p5⟩ := P
  refine ⟨by rw [cd_n_new, e], fun p hp => ?_, fun p hp => ?_, fun x j hx hl h7 => ?_, fun h7 j hj => ?_, p5.tr cd_ch.new⟩
  · rcases List.mem_cons.mp hp with rfl | hp
    · exact ⟨Nat.lt_succ_self _, by rw [cd_k_new, if_pos e.symm]⟩
    · obtain ⟨a, b⟩ := p1 p hp
      exact ⟨by omega, by rw [cd_k_new, if_neg (by omega)]; exact b⟩
  · obtain ⟨a, b⟩ := p2 p hp
    exact ⟨by omega, by rw [cd_r_new, if_neg (by omega)]; exact b⟩
  · rw [cd_i_new]
    by_cases c : x = cd_n h
    · rw [if_pos c, ci_v0 I (fun q hq => by rw [c, e]; exact hI q hq)]
    · rw [if_neg c]
      exact p3 x j hx (by omega) h7
  · rw [cd_i_new]
    by_cases c : 77 = cd_n h
    · rw [if_pos c, hw (by omega)]
    · rw [if_neg c]
      exact p4 (by omega) j hj
theorem ci_P.si (P : ci_P h0 h n K R I lf w) {a k : Nat} {x : Int32} (ha : 64 ≤ a ∧ a ≠ 77) : ci_P h0 (cd_si h a k x) n K R ((a, k, some x) :: I) lf w := by
  obtain ⟨e, p1, p2, p3, p4, p5⟩ := P
  refine ⟨e, p1, p2, fun y j hy hl h7 => ?_, fun h7 j hj => ?_, p5.tr (cd_ch.si ha.1)⟩
  · rw [cd_i_si, p3 y j hy hl h7]
    rfl
  · rw [cd_i_si, if_neg (fun z => ha.2 z.1.symm)]
    exact p4 h7 j hj
theorem ci_P.sl (P : ci_P h0 h n K R I lf w) {a k : Nat} (ha : 64 ≤ a ∧ a ≠ 77) : ci_P h0 (cd_si h a k lf) n K R ((a, k, none) :: I) lf w := by
  obtain ⟨e, p1, p2, p3, p4, p5⟩ := P
  refine ⟨e, p1, p2, fun y j hy hl h7 => ?_, fun h7 j hj => ?_, p5.tr (cd_ch.si ha.1)⟩
  · rw [cd_i_si, p3 y j hy hl h7]
    rfl
  · rw [cd_i_si, if_neg (fun z => ha.2 z.1.symm)]
    exact p4 h7 j hj
theorem ci_P.sr (P : ci_P h0 h n K R I lf w) {a k b : Nat} (ha : 64 ≤ a ∧ a < n) (hR : ∀ q ∈ R, ¬ (q.1 = a ∧ q.2.1 = k)) : ci_P h0 (cd_sr h a k (some b)) n K ((a, k, b) :: R) I lf w := by
  obtain ⟨e, p1, p2, p3, p4, p5⟩ := P
  refine ⟨e, p1, fun p hp => ?_, p3, p4, p5.tr (cd_ch.sr ha.1)⟩
  rcases List.mem_cons.mp hp with rfl | hp
  · exact ⟨ha.2, by rw [cd_r_sr, if_pos ⟨rfl, rfl⟩]⟩
  · obtain ⟨c, d⟩ := p2 p hp
    exact ⟨c, by rw [cd_r_sr, if_neg (hR p hp)]; exact d⟩
theorem ci_P.kd (P : ci_P h0 h n K R I lf w) {a : Nat} {q : Nat ⊕ (Nat × Nat)} (hm : ci_mem K a q = true) : cd_k h a = some q := by
  obtain ⟨p, hp, e⟩ := List.any_eq_true.mp hm
  rw [Bool.and_eq_true] at e
  have e1 : p.1 = a := of_decide_eq_true e.1
  have e2 := ci_kq_eq e.2
  have := (P.2.1 p hp).2
  rw [e1, e2] at this
  exact this
theorem ci_P.rf (P : ci_P h0 h n K R I lf w) {a k b : Nat} (hm : (a, k, b) ∈ R) : cd_r h a k = some b := (P.2.2.1 (a, k, b) hm).2
theorem ci_P.it (P : ci_P h0 h n K R I lf w) {a j : Nat} (hm : 64 ≤ a ∧ a < n ∧ a ≠ 77) : cd_i h a j = ci_v lf I a j := P.2.2.2.1 a j hm.1 hm.2.1 hm.2.2
theorem ci_P.iz (P : ci_P h0 h n K R I lf w) {a : Nat} (hm : 64 ≤ a ∧ a < n ∧ a ≠ 77) (hI : ∀ q ∈ I, q.1 ≠ a) (j : Nat) : cd_i h a j = 0 := (P.it hm).trans (ci_v0 I hI)
theorem ci_P.fil (P : ci_P h0 h n K R I lf w) (C : cd_ch (fun x => x = 77) h h') (en : cd_n h' = cd_n h) (er : cd_r h' = cd_r h) {w' : Int32} (hw : ∀ j, j < 48 → cd_i h' 77 j = w') : ci_P h0 h' n K R I lf w' := by
  obtain ⟨e, p1, p2, p3, p4, p5⟩ := P
  refine ⟨by rw [en]; exact e, fun p hp => ?_, fun p hp => ?_, fun y j hy hl h7 => ?_, fun h7 j hj => hw j hj, (p5.old C (fun x _ hx => by rw [hx]; decide))⟩
  · obtain ⟨a, b⟩ := p1 p hp
    exact ⟨a, by rw [C.2.1 _ (by omega)]; exact b⟩
  · obtain ⟨a, b⟩ := p2 p hp
    exact ⟨a, by rw [er]; exact b⟩
  · rw [(C.2.2 y (by omega) h7).1 j]
    exact p3 y j hy hl h7
theorem sp_fill {X : cd_E} {kc ks : Nat} {Q : Option Value → cd_H → Prop} : ∀ (r i : Nat) (h : cd_H), r + i = 48 → cd_k h 77 = some (.inr (0, 48)) → (∀ j, j < i → cd_i h 77 j = -1) → (∀ h', cd_ch (fun x => x = 77) h h' → cd_n h' = cd_n h → cd_r h' = cd_r h → (∀ j, j < 48 → cd_i h' 77 j = -1) → Q none h') → cd_W X m_Arr_fill kc ks 5 [some (.ref 77), some (.int (-1)), some (.int (nI i)), some (.int (nI 48))] [] h Q := by
  intro r
  induction r with
  | zero =>
    intro i h hi hk hj hq
    refine g_Arr_fill_5 ?_
    rw [nI_leI (by omega) (by omega)]
    exact ⟨fun _ => hq h (cd_ch.rf _ _) rfl rfl (fun j hj' => hj j (by omega)), fun z => by omega⟩
  | succ r ih =>
    intro i h hi hk hj hq
    refine g_Arr_fill_5 ?_
    rw [nI_leI (by omega) (by omega)]
    refine ⟨fun z => by omega, fun _ => ⟨48, hk, by decide, vp_in_nI (by omega) (by decide), ?_⟩⟩
    rw [nI_clamp (by omega)]
    have e1 : nI i + 1 = nI (i + 1) := nI_add i 1
    rw [e1]
    refine ih (i + 1) (cd_si h 77 i (-1)) (by omega) hk (fun j hj' => ?_) (fun h' C en er hw => hq h' ((cd_ch.si (A := fun x => x = 77) rfl).tr C) en er hw)
    rw [cd_i_si]
    by_cases c : j = i
    · rw [if_pos ⟨rfl, c⟩]
    · rw [if_neg (fun z => c z.2)]
      exact hj j (by omega)
end WIN
