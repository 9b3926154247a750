def sg_cr (u : sg_U) : sg_U := (sgu_own u, sgu_N u, sgu_len u, sgu_made u, sgu_dec u, sgu_since u, 0)
def cm_K (x j : Nat) : Prop := (x = 82 ∧ (j = 10 ∨ j = 11 ∨ j = 39 ∨ j = 40)) ∨ x = 89 ∨ x = 103
section VMK
variable {X : cd_E} {kc ks : Nat} {h : cd_H} {Q : Option Value → cd_H → Prop} {life now : Nat} {AC : List sg_A} {AU : List sg_U} {OR : List sg_O} {CE : List sg_C}
theorem cm_nam.of {h' : cd_H} {a len : Nat} {N : Nat → Nat} (A : cm_nam h a N len) (e : ∀ x j, x = 98 ∨ x = 99 → cd_i h' x j = cd_i h x j) : cm_nam h' a N len := ⟨A.1, by rw [e 99 a (Or.inr rfl)]; exact A.2.1, fun j hj => by rw [e 98 _ (Or.inl rfl)]; exact A.2.2 j hj⟩
theorem sp_Mod_crash_39 : ∀ (i j : Nat) (h : cd_H), i + j = 24 → cm_ok h → (∀ k, k < j → cd_i h 103 k = 0) → (∀ h', cm_ch (fun x _ => x = 103) h h' → (∀ k, k < 24 → cd_i h' 103 k = 0) → Q none h') → cd_W X m_Mod_crash kc ks 39 [some (.ref 82), some (.int (nI j))] [] h Q := by
  intro i
  induction i with
  | zero =>
    intro j h hj F hz hq
    have e : j = 24 := by omega
    subst e
    exact g_Mod_crash_39 F ⟨fun _ => hq h (cm_ch.rf _ _) hz, fun hc => absurd (by decide) hc⟩
  | succ i ih =>
    intro j h hj F hz hq
    refine g_Mod_crash_39 F ⟨fun hc => ?_, fun _ => ⟨vp_in_nI (by omega) (by decide), ?_⟩⟩
    · rw [show (24 : Int32) = nI 24 by decide, nI_leI (by decide) (by omega)] at hc
      omega
    · rw [nI_clamp (by omega), nI_1]
      have C : cm_ch (fun x _ => x = 103) h (cd_si h 103 j 0) := cm_ch.si rfl
      refine ih (j + 1) _ (by omega) (C.ok F) (fun k hk => ?_) (fun h' C' hz' => hq h' (C.tr C') hz')
      rw [cd_i_si]
      by_cases e : k = j
      · rw [if_pos ⟨rfl, e⟩]
      · rw [if_neg (fun z => e z.2)]
        exact hz k (by omega)
theorem sp_Mod_crash_17 : ∀ (i j : Nat) (h : cd_H), i + j = 512 → cm_ok h → (∀ k, k < j → cd_i h 89 k = 0) → (∀ h', cm_ch (fun x _ => x = 89) h h' → (∀ k, k < 512 → cd_i h' 89 k = 0) → cd_W X m_Mod_crash kc ks 39 [some (.ref 82), some (.int 0)] [] h' Q) → cd_W X m_Mod_crash kc ks 17 [some (.ref 82), some (.int (nI j))] [] h Q := by
  intro i
  induction i with
  | zero =>
    intro j h hj F hz hq
    have e : j = 512 := by omega
    subst e
    exact g_Mod_crash_17 F ⟨fun _ => hq h (cm_ch.rf _ _) hz, fun hc => absurd (by decide) hc⟩
  | succ i ih =>
    intro j h hj F hz hq
    refine g_Mod_crash_17 F ⟨fun hc => ?_, fun _ => ⟨vp_in_nI (by omega) (by decide), ?_⟩⟩
    · rw [show (512 : Int32) = nI 512 by decide, nI_leI (by decide) (by omega)] at hc
      omega
    · rw [nI_clamp (by omega), nI_1]
      have C : cm_ch (fun x _ => x = 89) h (cd_si h 89 j (vp_nar .boolean 0)) := cm_ch.si rfl
      refine ih (j + 1) _ (by omega) (C.ok F) (fun k hk => ?_) (fun h' C' hz' => hq h' (C.tr C') hz')
      rw [cd_i_si]
      by_cases e : k = j
      · rw [if_pos ⟨rfl, e⟩]; rfl
      · rw [if_neg (fun z => e z.2)]
        exact hz k (by omega)
theorem cm_aut.cr {h' : cd_H} (U : cm_aut h now AC AU) (e : ∀ x j, (x = 82 ∧ j = 23) ∨ (97 ≤ x ∧ x ≤ 102) → cd_i h' x j = cd_i h x j) (hz : ∀ k, k < 24 → cd_i h' 103 k = 0) : cm_aut h' now AC (AU.map sg_cr) := by
  refine ⟨by rw [List.length_map]; exact U.1, by rw [List.length_map, e 82 23 (by omega)]; exact U.2.1, fun i u hu => ?_, fun i hi h24 => ?_⟩
  · rw [List.getElem?_map] at hu
    cases hv : AU[i]? with
    | none => rw [hv] at hu; cases hu
    | some v =>
      rw [hv] at hu
      cases hu
      have hil : i < AU.length := (List.getElem?_eq_some_iff.mp hv).1
      have u1 := U.1
      obtain ⟨b1, b2, b3, b4, b5, b6, b7, b8, b9, b10, b11⟩ := U.2.2.1 i v hv
      exact ⟨b1, by rw [e 97 i (by omega)]; exact b2, b3.of (fun x j hx => e x j (by omega)), by rw [e 100 i (by omega)]; exact b4, by rw [e 101 i (by omega)]; exact b5, fun z => by rw [e 102 i (by omega)]; exact b6 z, hz i (by omega), b8, Nat.zero_le _, b10, b11⟩
  · rw [List.length_map] at hi
    rw [e 101 i (by omega)]
    exact ⟨(U.2.2.2 i hi h24).1, hz i h24⟩
theorem sp_Mod_crash (F : cm_ok h) {cr gv : Nat} {sp : Nat → Bool} (N : cm_non h cr gv sp) (hcr : cr < 1000) (U : cm_aut h now AC AU) (hq : ∀ h', cm_ch cm_K h h' → (∀ j, j = 39 ∨ j = 40 → cd_i h' 82 j = cd_i h 82 j) → cm_non h' (cr + 1) 0 (fun _ => false) → cm_aut h' now AC (AU.map sg_cr) → Q none h') : cd_W X m_Mod_crash kc ks 0 [some (.ref 82), none] [] h Q := by
  obtain ⟨n1, n2, n3, n4, n5, n6⟩ := N
  refine g_Mod_crash F ?_
  have C0 : cm_ch cm_K h (cd_si (cd_si h 82 10 (cd_i h 82 10 + 1)) 82 11 0) := (cm_ch.si (Or.inl ⟨rfl, Or.inl rfl⟩)).tr (cm_ch.si (Or.inl ⟨rfl, Or.inr (Or.inl rfl)⟩))
  refine sp_Mod_crash_17 512 0 _ (by decide) (C0.ok F) (fun k hk => by omega) (fun h1 C1 z1 => ?_)
  refine sp_Mod_crash_39 24 0 _ (by decide) (C1.ok (C0.ok F)) (fun k hk => by omega) (fun h2 C2 z2 => ?_)
  have e2 : ∀ x j, ¬ x = 103 → ¬ x = 89 → cd_i h2 x j = cd_i (cd_si (cd_si h 82 10 (cd_i h 82 10 + 1)) 82 11 0) x j := fun x j hx hy => (C2.2.2.2 x j hx).trans (C1.2.2.2 x j hy)
  refine hq h2 ((C0.tr (C1.sub (fun x j hx => Or.inr (Or.inl hx)))).tr (C2.sub (fun x j hx => Or.inr (Or.inr hx)))) (fun j hj => ?_) ⟨by omega, by decide, ?_, ?_, fun k hk => ?_, fun _ _ => rfl⟩ (U.cr (fun x j hx => ?_) z2)
  · rw [e2 82 j (by decide) (by decide), cd_i_si, if_neg (fun z => by omega), cd_i_si, if_neg (fun z => by omega)]
  · rw [e2 82 10 (by decide) (by decide), cd_i_si, if_neg (fun z => by omega), cd_i_si, if_pos ⟨rfl, rfl⟩, n3, nI_1]
  · rw [e2 82 11 (by decide) (by decide), cd_i_si, if_pos ⟨rfl, rfl⟩]; rfl
  · rw [C2.2.2.2 89 k (show ¬ (89 : Nat) = 103 by decide), z1 k hk]; rfl
  · rw [e2 x j (by omega) (by omega), cd_i_si, if_neg (fun z => by omega), cd_i_si, if_neg (fun z => by omega)]
theorem sp_Mod_hasRoom (F : cm_ok h) {us w : Nat} {ct : Option Nat} (S : cm_sto h us ct) (hw : w ≤ 1000) (h1 : us + w ≤ 200 → Q (some (.int 1)) h) (h0 : 200 < us + w → Q (some (.int 0)) h) : cd_W X m_Mod_hasRoom kc ks 0 [some (.ref 82), some (.int (nI w))] [] h Q := by
  have s1 := S.1
  refine g_Mod_hasRoom F ?_
  rw [S.2.1, nI_add, show (200 : Int32) = nI 200 by decide, nI_ltI (by decide) (by omega)]
  exact ⟨fun t => h0 t, fun t => h1 (by omega)⟩
theorem sp_Mod_keep (F : cm_ok h) {cr gv : Nat} {sp : Nat → Bool} {us w : Nat} {ct : Option Nat} (N : cm_non h cr gv sp) (hcr : cr < 1000) (U : cm_aut h now AC AU) (S : cm_sto h us ct) (hw : us + w ≤ 200)
    (hn : ct = none → ∀ h', cm_ch cm_K h h' → cm_sto h' (us + w) none → cm_non h' cr gv sp → cm_aut h' now AC AU → Q (some (.int 1)) h')
    (hi : ∀ c, ct = some c → w ≤ c → ∀ h', cm_ch cm_K h h' → cm_sto h' (us + w) none → cm_non h' (cr + 1) 0 (fun _ => false) → cm_aut h' now AC (AU.map sg_cr) → Q (some (.int 1)) h')
    (ho : ∀ c, ct = some c → c < w → ∀ h', cm_ch cm_K h h' → cm_sto h' us none → cm_non h' (cr + 1) 0 (fun _ => false) → cm_aut h' now AC (AU.map sg_cr) → Q (some (.int 0)) h') :
    cd_W X m_Mod_keep kc ks 0 [some (.ref 82), some (.int (nI w)), none] [] h Q := by
  obtain ⟨s1, s2, s3, s4⟩ := S
  have e40 : ∀ y, cd_i (cd_si h 82 39 y) 82 40 = cd_op ct := fun y => by rw [cd_i_si, if_neg (fun z => by omega)]; exact s3
  have aut : ∀ y, cm_aut (cd_si h 82 39 y) now AC AU := fun y => by
    refine ⟨U.1, by rw [cd_i_si, if_neg (fun z => by omega)]; exact U.2.1, fun i u hu => ?_, fun i h1 h2 => ?_⟩
    · obtain ⟨b1, b2, b3, b4, b5, b6, b7, b8, b9, b10, b11⟩ := U.2.2.1 i u hu
      exact ⟨b1, by rw [cd_i_si, if_neg (fun z => by omega)]; exact b2, b3.of (fun x j hx => by rw [cd_i_si, if_neg (fun z => by omega)]), by rw [cd_i_si, if_neg (fun z => by omega)]; exact b4, by rw [cd_i_si, if_neg (fun z => by omega)]; exact b5, fun z => by rw [cd_i_si, if_neg (fun z => by omega)]; exact b6 z, by rw [cd_i_si, if_neg (fun z => by omega)]; exact b7, b8, b9, b10, b11⟩
    · rw [cd_i_si, if_neg (fun z => by omega), cd_i_si, if_neg (fun z => by omega)]
      exact U.2.2.2 i h1 h2
  have non : ∀ y, cm_non (cd_si h 82 39 y) cr gv sp := fun y => by
    obtain ⟨n1, n2, n3, n4, n5, n6⟩ := N
    exact ⟨n1, n2, by rw [cd_i_si, if_neg (fun z => by omega)]; exact n3, by rw [cd_i_si, if_neg (fun z => by omega)]; exact n4, fun k hk => by rw [cd_i_si, if_neg (fun z => by omega)]; exact n5 k hk, n6⟩
  have aut2 : ∀ y, cm_aut (cd_si (cd_si h 82 39 y) 82 40 (-1)) now AC AU := fun y => by
    have U' := aut y
    refine ⟨U'.1, by rw [cd_i_si, if_neg (fun z => by omega)]; exact U'.2.1, fun i u hu => ?_, fun i h1 h2 => ?_⟩
    · obtain ⟨b1, b2, b3, b4, b5, b6, b7, b8, b9, b10, b11⟩ := U'.2.2.1 i u hu
      exact ⟨b1, by rw [cd_i_si, if_neg (fun z => by omega)]; exact b2, b3.of (fun x j hx => by rw [cd_i_si (cd_si h 82 39 y), if_neg (fun z => by omega)]), by rw [cd_i_si, if_neg (fun z => by omega)]; exact b4, by rw [cd_i_si, if_neg (fun z => by omega)]; exact b5, fun z => by rw [cd_i_si, if_neg (fun z => by omega)]; exact b6 z, by rw [cd_i_si, if_neg (fun z => by omega)]; exact b7, b8, b9, b10, b11⟩
    · rw [cd_i_si, if_neg (fun z => by omega), cd_i_si (cd_si h 82 39 y), if_neg (fun z => by omega)]
      exact U'.2.2.2 i h1 h2
  have non2 : ∀ y, cm_non (cd_si (cd_si h 82 39 y) 82 40 (-1)) cr gv sp := fun y => by
    obtain ⟨n1, n2, n3, n4, n5, n6⟩ := non y
    exact ⟨n1, n2, by rw [cd_i_si, if_neg (fun z => by omega)]; exact n3, by rw [cd_i_si, if_neg (fun z => by omega)]; exact n4, fun k hk => by rw [cd_i_si, if_neg (fun z => by omega)]; exact n5 k hk, n6⟩
  have C1 : ∀ y, cm_ch cm_K h (cd_si h 82 39 y) := fun y => cm_ch.si (Or.inl ⟨rfl, Or.inr (Or.inr (Or.inl rfl))⟩)
  have C2 : ∀ y, cm_ch cm_K h (cd_si (cd_si h 82 39 y) 82 40 (-1)) := fun y => (C1 y).tr (cm_ch.si (Or.inl ⟨rfl, Or.inr (Or.inr (Or.inr rfl))⟩))
  have sto2 : ∀ (v : Nat) (h' : cd_H), v ≤ 200 → (∀ j, j = 39 ∨ j = 40 → cd_i h' 82 j = cd_i (cd_si (cd_si h 82 39 (nI v)) 82 40 (-1)) 82 j) → cm_sto h' v none := fun v h' hv e => by
    refine ⟨hv, ?_, ?_, fun c hc => by cases hc⟩
    · rw [e 39 (Or.inl rfl), cd_i_si, if_neg (fun z => by omega), cd_i_si, if_pos ⟨rfl, rfl⟩]
    · rw [e 40 (Or.inr rfl), cd_i_si, if_pos ⟨rfl, rfl⟩]; rfl
  refine g_Mod_keep F ?_
  rw [s2, nI_add, e40, e40, s3]
  cases ct with
  | none =>
    refine ⟨fun _ => ⟨fun _ => ?_, fun t => absurd cd_op_neg t⟩, fun t => absurd cd_op_neg t⟩
    refine hn rfl _ (C1 _) ⟨hw, ?_, e40 _, fun c hc => by cases hc⟩ (non _) (aut _)
    rw [cd_i_si, if_pos ⟨rfl, rfl⟩]
  | some c =>
    have hc := s4 c rfl
    have hnn : ¬ cd_op (some c) < 0 := cd_op_pos hc
    refine ⟨fun t => absurd t hnn, fun _ => ⟨fun t => ⟨fun t2 => absurd t2 hnn, fun _ => ?_⟩, fun t => ⟨fun t2 => absurd t2 hnn, fun _ => ?_⟩⟩⟩
    · have hlt : c < w := by
        have t : nI c < nI w := t
        rw [nI_ltI hc (by omega)] at t
        exact t
      exact sp_Mod_crash ((C2 _).ok F) (non2 _) hcr (aut2 _) (fun h' C e N' U' => ⟨rfl, C.ok ((C2 _).ok F), ho c rfl hlt h' ((C2 _).tr C) (sto2 us h' s1 e) N' U'⟩)
    · have hge : w ≤ c := by
        have t : ¬ nI c < nI w := t
        rw [nI_ltI hc (by omega)] at t
        omega
      exact sp_Mod_crash ((C2 _).ok F) (non2 _) hcr (aut2 _) (fun h' C e N' U' => ⟨rfl, C.ok ((C2 _).ok F), hi c rfl hge h' ((C2 _).tr C) (sto2 (us + w) h' hw e) N' U'⟩)
end VMK
