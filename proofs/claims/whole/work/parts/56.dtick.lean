def cc_TK (auts : List Nat) (x : Nat) : Prop := x = 76 ∨ x = 74 ∨ x ∈ auts
theorem cc_aut.mem {h : cd_H} {now : Nat} {accs auts : List Nat} {AU : List sg_U} {b cap : Nat} (U : cc_aut h now accs AU auts b cap) {x : Nat} (hx : x ∈ auts) : cd_k h x = some (.inl 2) ∧ 114 ≤ x := by
  obtain ⟨k, hk2, e⟩ := List.getElem_of_mem hx
  have u3 := U.2.2.1
  have e2 : AU[k]? = some (AU[k]'(by omega)) := List.getElem?_eq_getElem (by omega)
  have := (U.2.2.2.2 k x _ (by rw [List.getElem?_eq_getElem hk2, e]) e2).1
  exact ⟨this.2.1, this.1⟩
theorem cc_aut.tk {h : cd_H} {now : Nat} {accs auts : List Nat} {AU : List sg_U} {b cap : Nat} (U : cc_aut h now accs AU auts b cap) (F : cc_ok h) {x : Nat} (hx : cc_TK auts x) : x = 76 ∨ x = 74 ∨ (cd_k h x = some (.inl 2) ∧ 114 ≤ x) := by
  rcases hx with hx | hx | hx
  · exact Or.inl hx
  · exact Or.inr (Or.inl hx)
  · exact Or.inr (Or.inr (U.mem hx))
section VDT
variable {X : cd_E} {kc ks : Nat} {h : cd_H} {Q : Option Value → cd_H → Prop} {life now : Nat} {AC : List sg_A} {AU : List sg_U} {accs auts : List Nat} {b1 c1 b2 c2 : Nat} {NW : Nat → Option Nat}
theorem cc_acc.tk {h' : cd_H} (A : cc_acc h AC accs b1 c1) (F : cc_ok h) (hn : cd_bd h) (U : cc_aut h now accs AU auts b2 c2) (C : cd_ch (cc_TK auts) h h') : cc_acc h' AC accs b1 c1 := by
  have k : ∀ x q, cd_k h x = some q → ¬ q = .inl 2 → ¬ q = .inl 9 → ¬ q = .inl 5 → ¬ cc_TK auts x := fun x q hx h1 h2 h3 z => by
    rcases U.tk F z with e | e | e
    · rw [e, cc_k76 F] at hx; cases hx; exact h2 rfl
    · rw [e, cc_k74 F] at hx; cases hx; exact h3 rfl
    · rw [e.1] at hx; cases hx; exact h1 rfl
  exact A.ch hn C (k _ _ A.2.1.2.1 (fun z => by cases z) (fun z => by cases z) (fun z => by cases z)) (k _ _ A.2.1.2.2.2.2.1 (fun z => by cases z) (fun z => by cases z) (fun z => by cases z)) (fun x hx hk => k x _ hk (fun z => by cases z) (fun z => by cases z) (fun z => by cases z) hx)
theorem sp_Desk_isProofPublished (F : cc_ok h) (hnow : now ≤ 1000) (A : cc_acc h AC accs b1 c1) (U : cc_aut h now accs AU auts b2 c2) (Ky : cc_kys h) (W : cc_net h NW) {j y : Nat} {u : sg_U} (hy : auts[j]? = some y) (hu : AU[j]? = some u) (ht : 0 < sgu_tri u) (hq : Q (some (.int (b2i (sg_gd AC NW AU j u)))) h) : cd_W X m_Desk_isProofPublished kc ks 0 [some (.ref 64), some (.ref y)] [] h Q := by
  have u1 := U.1
  obtain ⟨⟨d1, d2, d3⟩, ⟨z, d4, d5⟩, d6, d7, d8, d9, d10, d11, ⟨d12, d13, d14, d15⟩, d16, d17⟩ := U.2.2.2.2 j y u hy hu
  have hjl := (List.getElem?_eq_some_iff.mp hu).1
  have hpl := sg_pl_le hu
  rw [if_neg (by omega)] at d11
  have hlt : sgu_own u < accs.length := (List.getElem?_eq_some_iff.mp d4).1
  have hlt2 : sgu_own u < AC.length := by have := A.2.2.1; omega
  have e2 : AC[sgu_own u]? = some AC[sgu_own u] := List.getElem?_eq_getElem hlt2
  obtain ⟨f1, f2, f3, f4, f5⟩ := A.2.2.2.2 _ _ _ d4 e2
  have ek : sg_ky AC (sgu_own u) = (AC[sgu_own u]).1 := by rw [sg_ky, e2]
  refine g_Desk_isProofPublished F ⟨d2, ?_⟩
  rw [d11]
  refine sp_Desk_isWay F (fun w hw e => ⟨_, rfl, F, fun t => absurd t (by decide), fun _ => ⟨d2, ?_⟩⟩) (fun hx => absurd rfl (hx (sgu_tri u - 1) (by omega)))
  rw [d11]
  refine sp_Desk_slot F U hy hu ⟨_, rfl, F, vp_in_nI (by omega) (by decide), d2, z, d5, f2, _, f3, sp_Aut_proof F U hnow hy hu (Ky _ (by omega)).1 ⟨_, rfl, F, ?_⟩⟩
  obtain ⟨w1, w2⟩ := W (24 * (sgu_tri u - 1) + sg_pl AU u) (by omega)
  have hp := sg_put_lt j u (AC[sgu_own u]).1
  rw [nI_clamp (by omega), w1]
  show (¬ cd_op (NW (24 * (sgu_tri u - 1) + sg_pl AU u)) = nI (sg_put j u (AC[sgu_own u]).1) → _) ∧ (cd_op (NW (24 * (sgu_tri u - 1) + sg_pl AU u)) = nI (sg_put j u (AC[sgu_own u]).1) → _)
  have key : cd_op (NW (24 * (sgu_tri u - 1) + sg_pl AU u)) = nI (sg_put j u (AC[sgu_own u]).1) ↔ NW (24 * (sgu_tri u - 1) + sg_pl AU u) = some (sg_put j u (AC[sgu_own u]).1) := by
    cases hN : NW (24 * (sgu_tri u - 1) + sg_pl AU u) with
    | none =>
      refine ⟨fun e => ?_, fun e => by cases e⟩
      have := nI_pos (n := sg_put j u (AC[sgu_own u]).1) (by omega)
      rw [← e] at this
      exact absurd cd_op_neg this
    | some v =>
      have hv := w2 v hN
      show nI v = nI _ ↔ _
      rw [nI_eq (by omega) (by omega)]
      exact ⟨fun e => by rw [e], fun e => Option.some.inj e⟩
  rw [key]
  unfold sg_gd at hq
  rw [ek] at hq
  refine ⟨fun t => ?_, fun t => ?_⟩
  · rw [decide_eq_false t] at hq
    exact hq
  · rw [decide_eq_true t] at hq
    exact hq
theorem sp_Desk_tick_14 {cr gv : Nat} {sp : Nat → Bool} (hcr : cr < 1000) : ∀ (r j : Nat) (h : cd_H) (AU : List sg_U) (us : Nat) (ct : Option Nat) (pr : Nat), r + j = auts.length → cc_ok h → 82 ≤ cd_n h → cc_fat h → cc_clk h life now → cc_kys h → cc_net h NW → cc_acc h AC accs b1 c1 → cc_aut h now accs AU auts b2 c2 → cc_sto h us ct → cc_non h cr gv sp → (∀ h', cd_ch (cc_TK auts) h h' → cd_n h' = cd_n h → cc_ok h' → cc_aut h' now accs (sg_tk AC life now NW r j AU us ct pr).1 auts b2 c2 → cc_sto h' (sg_tk AC life now NW r j AU us ct pr).2.1 (sg_tk AC life now NW r j AU us ct pr).2.2.1 → cc_non h' (sg_ncr (sg_tk AC life now NW r j AU us ct pr).2.2.2.1 cr) (sg_ngv (sg_tk AC life now NW r j AU us ct pr).2.2.2.1 gv) (sg_nsp (sg_tk AC life now NW r j AU us ct pr).2.2.2.1 sp) → Q (some (.int (nI (sg_tk AC life now NW r j AU us ct pr).2.2.2.2))) h') → cd_W X m_Desk_tick kc ks 14 [some (.ref 64), some (.int (nI pr)), some (.int (nI j)), none, none, none] [] h Q := by
  intro r
  induction r with
  | zero =>
    intro j h AU us ct pr hj F hn82 Ft K Ky W A U S N hq
    have u1 := U.1
    have u3 := U.2.2.1
    refine g_Desk_tick_14 F (sp_AL_size U.2.1 ⟨_, rfl, F, ?_⟩)
    rw [nI_leI (by omega) (by omega)]
    exact ⟨fun _ => hq h (cd_ch.rf _ _) rfl F U S N, fun t => by omega⟩
  | succ r ih =>
    intro j h AU us ct pr hj F hn82 Ft K Ky W A U S N hq
    refine cd_W.k0 (fun hk0 _ _ => cd_W.bd (fun hbd => ?_))
    have u1 := U.1
    have u3 := U.2.2.1
    have hjl : j < auts.length := by omega
    have hy : auts[j]? = some auts[j] := List.getElem?_eq_getElem hjl
    have hu : AU[j]? = some (AU[j]'(by omega)) := List.getElem?_eq_getElem (by omega)
    generalize hyy : auts[j] = y at hy
    generalize huu : AU[j]'(by omega) = u at hu
    obtain ⟨⟨d1, d2, d3⟩, -, -, -, -, -, -, -, ⟨d12, d13, d14, d15⟩, d16, d17⟩ := U.2.2.2.2 j y u hy hu
    have hmem : y ∈ auts := List.mem_of_getElem? hy
    have stl := sg_st_le AC life now u
    refine g_Desk_tick_14 F (sp_AL_size U.2.1 ⟨_, rfl, F, ?_⟩)
    rw [nI_leI (by omega) (by omega)]
    refine ⟨fun t => by omega, fun _ => sp_AL_get U.2.1 hy ⟨some y, rfl, F, y, rfl, d2, sp_Desk_authorizationState F K A U hy hu ⟨_, rfl, F, ?_⟩⟩⟩
    have h1 : nI (sg_st AC life now u) = 1 ↔ sg_st AC life now u = 1 := by
      rw [show (1 : Int32) = nI 1 by decide, nI_eq (by omega) (by decide)]
    rw [h1, nI_1]
    refine ⟨fun hs => ?_, fun hs => ?_⟩
    · obtain ⟨t1, t2, t3⟩ := sg_st1 hs
      have mono : ∀ h', cd_ch (cc_TK auts) h h' → cd_n h' = cd_n h → 82 ≤ cd_n h' ∧ cc_fat h' ∧ cc_clk h' life now ∧ cc_kys h' ∧ cc_net h' NW ∧ cc_acc h' AC accs b1 c1 := fun h' C en => by
        have nt : ∀ x, ¬ x = 76 → ¬ x = 74 → x < 114 → ¬ cc_TK auts x := fun x h1 h2 h3 z => by
          rcases U.tk F z with e | e | e
          · exact h1 e
          · exact h2 e
          · omega
        exact ⟨by omega, Ft.ch C hn82 (fun x hx => nt x (by omega) (by omega) (by omega)), K.ch C hn82 (nt _ (by decide) (by decide) (by decide)), Ky.ch C hn82 (fun x h1 h2 => nt x (by omega) (by omega) (by omega)), W.ch C hn82 (nt _ (by decide) (by decide) (by decide)), A.tk F hbd U C⟩
      have fin7 : ∀ (h' : cd_H) (AU' : List sg_U) (v : sg_U), cc_aut h' now accs AU' auts b2 c2 → AU'[j]? = some v → cc_aut (cd_si h' y 7 (-1)) now accs (AU'.set j (sg_cr v)) auts b2 c2 := by
        intro h' AU' v U' hv
        obtain ⟨-, -, -, e3, -, e5, e6, -, ⟨e12, e13, e14, e15⟩, e16, -⟩ := U'.2.2.2.2 j y v hy hv
        refine U'.upd hy hv (cd_ci.si rfl) (fun k hk => ?_) ?_ ?_ ?_ rfl rfl rfl ⟨e12, Nat.zero_le _, e15⟩ e16
        · rw [cd_i_si, if_neg (fun z => by omega)]
        · rw [cd_i_si, if_neg (fun z => by omega)]; exact e5
        · rw [cd_i_si, if_neg (fun z => by omega)]; exact e6
        · rw [cd_i_si, if_pos ⟨rfl, rfl⟩]; rfl
      have fin5 : ∀ (h' : cd_H) (AU' : List sg_U) (v : sg_U) (g : Bool) (q : Int32), q = nI (if g then 2 else 3) → cc_aut h' now accs AU' auts b2 c2 → AU'[j]? = some v → sgu_tri v = 0 → cc_aut (cd_si (cd_si h' y 5 q) y 6 (nI now)) now accs (AU'.set j (sg_dcd g now v)) auts b2 c2 := by
        intro h' AU' v g q eq U' hv htr
        obtain ⟨-, -, -, e3, -, e5, e6, e7, ⟨e12, e13, e14, e15⟩, e16, -⟩ := U'.2.2.2.2 j y v hy hv
        refine U'.upd hy hv ((cd_ci.si (A := fun x => x = y) rfl).tr (cd_ci.si rfl)) (fun k hk => ?_) ?_ ?_ ?_ rfl rfl rfl ⟨?_, Nat.zero_le _, Nat.le_refl _⟩ (fun z => ?_)
        · rw [cd_i_si, if_neg (fun z => by omega), cd_i_si, if_neg (fun z => by omega)]
        · rw [cd_i_si, if_neg (fun z => by omega), cd_i_si, if_pos ⟨rfl, rfl⟩, eq]
          cases g <;> rfl
        · rw [cd_i_si, if_pos ⟨rfl, rfl⟩]; rfl
        · rw [cd_i_si, if_neg (fun z => by omega), cd_i_si, if_neg (fun z => by omega), e7, if_pos htr]; rfl
        · show (if g then 1 else 2) ≤ 2
          cases g <;> decide
        · have z : (if g then 1 else 2) = 0 := z
          cases g <;> cases z
      have eset : ∀ (l : List sg_U) (a b : sg_U), (l.set j a).set j b = l.set j b := fun l a b => List.set_set ..
      have lset : ∀ (l : List sg_U) (a v : sg_U), l[j]? = some v → (l.set j a)[j]? = some a := fun l a v hv => by
        rw [List.getElem?_set, if_pos rfl, if_pos (List.getElem?_eq_some_iff.mp hv).1]
      have hcr' : (AU.map sg_cr)[j]? = some (sg_cr u) := by rw [List.getElem?_map, hu]; rfl
      have C7 : ∀ h' : cd_H, cd_ch (cc_TK auts) h h' → cd_ch (cc_TK auts) h (cd_si h' y 7 (-1)) := fun h' C => C.tr (cd_ch.si (Or.inr (Or.inr hmem)))
      have C5 : ∀ (h' : cd_H) (p q : Int32), cd_ch (cc_TK auts) h h' → cd_ch (cc_TK auts) h (cd_si (cd_si h' y 5 p) y 6 q) := fun h' p q C => (C.tr (cd_ch.si (Or.inr (Or.inr hmem)))).tr (cd_ch.si (Or.inr (Or.inr hmem)))
      have sub76 : ∀ h', cd_ch (fun x => x = 76) h h' → cd_ch (cc_TK auts) h h' := fun h' C => (cd_ch.rf (cc_TK auts) h).old C (fun x _ hx => Or.inl hx)
      have stoK : ∀ (h' : cd_H) (k : Nat) (q : Int32) (a : Nat) (c : Option Nat), cc_sto h' a c → cc_sto (cd_si h' y k q) a c := fun h' k q a c S' => by
        obtain ⟨s1, s2, s3, s4⟩ := S'
        exact ⟨s1, by rw [cd_i_si, if_neg (fun z => by omega)]; exact s2, by rw [cd_i_si, if_neg (fun z => by omega)]; exact s3, s4⟩
      have nonK : ∀ (h' : cd_H) (k : Nat) (q : Int32) (a c : Nat) (s : Nat → Bool), cc_non h' a c s → cc_non (cd_si h' y k q) a c s := fun h' k q a c s S' => by
        obtain ⟨s1, s2, s3, s4, s5⟩ := S'
        exact ⟨s1, s2, by rw [cd_i_si, if_neg (fun z => by omega)]; exact s3, by rw [cd_i_si, if_neg (fun z => by omega)]; exact s4, fun k hk => by rw [cd_i_si, if_neg (fun z => by omega)]; exact s5 k hk⟩
      have bdof : ∀ h' : cd_H, cd_ch (cc_TK auts) h h' → cd_n h' = cd_n h → ∀ x, x < cd_n h → cd_k h' x = cd_k h x := fun h' C _ x hx => C.2.1 x hx
      have fk : ∀ (h' : cd_H) (f k : Nat), f < 64 → cd_i (cd_si h' y 7 (-1)) f k = cd_i h' f k := fun h' f k hf => by rw [cd_i_si, if_neg (fun z => by omega)]
      have clk : ∀ h' : cd_H, cc_clk h' life now → cd_i (cd_si h' y 7 (-1)) 64 12 = nI now := fun h' K' => by rw [cd_i_si, if_neg (fun z => by omega)]; exact K'.2.2.2
      refine sp_Desk_isProofPublished F K.2.1 A U Ky W hy hu t1 ⟨_, rfl, F, ?_⟩
      generalize hg : sg_gd AC NW AU j u = g
      show cd_W X m_Desk_keep 0 0 0 [some (.ref 64), some (.int (nI 5)), none] [] h _
      refine sp_Desk_keep F Ft hn82 N hcr U S (by decide) (fun hf => ⟨1, rfl, F, d2, by omega, hk0 1 (by decide), ?_⟩) (fun hr hc h' C' en _ F' S' => ⟨4, rfl, F', ?_⟩) (fun hr c hc hle h' C' en _ F' S' N' U' => ⟨3, rfl, F', ?_⟩) (fun hr c hc hgt h' C' en _ F' S' N' U' => ⟨2, rfl, F', ?_⟩)
      · have eR : sg_tk AC life now NW (r + 1) j AU us ct pr = sg_tk AC life now NW r (j + 1) (AU.set j (sg_cr u)) us ct pr := by
          rw [sg_tk, hu]
          simp only
          rw [if_pos hs, if_pos hf]
        rw [eR] at hq
        have Cx := C7 h (cd_ch.rf _ _)
        obtain ⟨m1, m2, m3, m4, m5, m6⟩ := mono _ Cx rfl
        rw [fk h 1 0 (by decide), fk h 1 1 (by decide)]
        refine ⟨fun _ => ⟨fun _ => ?_, fun z => absurd Ft.1.2 z⟩, fun z => absurd Ft.1.1 z⟩
        exact ih (j + 1) _ _ us ct pr (by omega) (F.of rfl rfl) m1 m2 m3 m4 m5 m6 (fin7 h AU u U hu) (stoK _ _ _ _ _ S) (nonK _ _ _ _ _ _ N) (fun h2 C2 e2 F2 => hq h2 (Cx.tr C2) e2 F2)
      · have eR : sg_tk AC life now NW (r + 1) j AU us ct pr = sg_tk AC life now NW r (j + 1) (AU.set j (sg_dcd g now u)) (us + 5) none (pr + if g then 1 else 0) := by
          rw [sg_tk, hu]
          simp only
          rw [if_pos hs, if_neg (by omega), hc, hg]
        rw [eR] at hq
        have Ct := sub76 h' C'
        obtain ⟨m1, m2, m3, m4, m5, m6⟩ := mono _ Ct en
        have k76 := cc_k76 F
        have U' : cc_aut h' now accs AU auts b2 c2 := U.ch hbd C' (by decide) (fun z => by have := U.2.1.2.2.2.2.1; rw [z, k76] at this; cases this) (fun x hx => by
          subst hx
          rw [k76]
          exact ⟨(fun z => by cases z), (fun z => by cases z), fun n z => by cases z⟩)
        have N' := N.ch C' hn82 (by decide) (by decide)
        have kf : ∀ f, f < 64 → cd_k h' f = cd_k0 f := fun f hf => by rw [Ct.2.1 f (by omega)]; exact hk0 f hf
        have U7 := fin7 h' AU u U' hu
        refine ⟨by rw [Ct.2.1 y (hbd _ _ d2)]; exact d2, by omega, kf 4 (by decide), ?_⟩
        rw [fk h' 4 0 (by decide), fk h' 4 1 (by decide), m2.2.2.2.1, m2.2.2.2.2, clk h' m3]
        refine ⟨fun z => absurd z (by decide), fun _ => g_Aut_decide (F'.of rfl rfl) ?_⟩
        have dk : cd_k (cd_si h' y 7 (-1)) y = some (.inl 2) := by show cd_k h' y = _; rw [Ct.2.1 y (hbd _ _ d2)]; exact d2
        have last : ∀ (q : Int32), q = nI (if g then 2 else 3) → cd_W X m_Desk_tick kc ks 14 [some (.ref 64), some (.int (nI (pr + if g then 1 else 0))), some (.int (nI (j + 1))), none, none, none] [] (cd_si (cd_si (cd_si h' y 7 (-1)) y 5 q) y 6 (nI now)) Q := by
          intro q eq
          have U5 := fin5 _ _ (sg_cr u) g q eq U7 (lset AU _ u hu) rfl
          rw [eset] at U5
          have Cx := C5 _ q (nI now) (C7 h' Ct)
          obtain ⟨n1, n2, n3, n4, n5, n6⟩ := mono _ Cx en
          exact ih (j + 1) _ _ (us + 5) none _ (by omega) (F'.of rfl rfl) n1 n2 n3 n4 n5 n6 U5 (stoK _ _ _ _ _ (stoK _ _ _ _ _ (stoK _ _ _ _ _ S'))) (nonK _ _ _ _ _ _ (nonK _ _ _ _ _ _ (nonK _ _ _ _ _ _ N'))) (fun h2 C2 e2 F2 => hq h2 (Cx.tr C2) (e2.trans en) F2)
        have f41 : ∀ (p q : Int32), cd_i (cd_si (cd_si (cd_si h' y 7 (-1)) y 5 p) y 6 q) 4 1 = 0 := fun p q => by rw [cd_i_si, if_neg (fun z => by omega), cd_i_si, if_neg (fun z => by omega), fk h' 4 1 (by decide)]; exact m2.2.2.2.2
        cases hgg : g with
        | false =>
          rw [hgg] at last
          refine ⟨fun _ => ⟨dk, by omega, rfl, F'.of rfl rfl, fun _ => ⟨kf 4 (by decide), ?_⟩, fun z => absurd rfl z⟩, fun z => absurd rfl z⟩
          rw [f41]
          refine ⟨fun _ => ?_, fun z => absurd rfl z⟩
          have := last 3 (by decide)
          rw [Int32.add_zero]
          exact this
        | true =>
          rw [hgg] at last
          refine ⟨fun z => absurd z (by decide), fun _ => ⟨dk, by omega, rfl, F'.of rfl rfl, fun z => absurd z (by decide), fun _ => ⟨kf 4 (by decide), ?_⟩⟩⟩
          rw [f41]
          refine ⟨fun _ => ?_, fun z => absurd rfl z⟩
          have := last 2 (by decide)
          rw [nI_1]
          exact this
      · have eR : sg_tk AC life now NW (r + 1) j AU us ct pr = ((AU.map sg_cr).set j (sg_dcd g now u), us + 5, none, true, pr + if g then 1 else 0) := by
          rw [sg_tk, hu]
          simp only
          rw [if_pos hs, if_neg (by omega), hc, hg]
          simp only
          rw [if_pos hle]
        rw [eR] at hq
        have Ct : cd_ch (cc_TK auts) h h' := C'
        obtain ⟨m1, m2, m3, m4, m5, m6⟩ := mono _ Ct en
        have kf : ∀ f, f < 64 → cd_k h' f = cd_k0 f := fun f hf => by rw [Ct.2.1 f (by omega)]; exact hk0 f hf
        have U7 := fin7 h' _ _ U' hcr'
        refine ⟨by rw [Ct.2.1 y (hbd _ _ d2)]; exact d2, by omega, kf 3 (by decide), ?_⟩
        rw [fk h' 3 0 (by decide), fk h' 3 1 (by decide), m2.2.2.1.1, m2.2.2.1.2, clk h' m3]
        refine ⟨fun z => absurd z (by decide), fun _ => g_Aut_decide (F'.of rfl rfl) ?_⟩
        have dk : cd_k (cd_si h' y 7 (-1)) y = some (.inl 2) := by show cd_k h' y = _; rw [Ct.2.1 y (hbd _ _ d2)]; exact d2
        have last : ∀ (q : Int32), q = nI (if g then 2 else 3) → Q (some (.int (nI (pr + if g then 1 else 0)))) (cd_si (cd_si (cd_si h' y 7 (-1)) y 5 q) y 6 (nI now)) := by
          intro q eq
          have U5 := fin5 _ _ (sg_cr (sg_cr u)) g q eq U7 (lset _ _ _ hcr') rfl
          rw [eset] at U5
          have Cx := C5 _ q (nI now) (C7 h' Ct)
          exact hq _ Cx en (F'.of rfl rfl) U5 (stoK _ _ _ _ _ (stoK _ _ _ _ _ (stoK _ _ _ _ _ S'))) (nonK _ _ _ _ _ _ (nonK _ _ _ _ _ _ (nonK _ _ _ _ _ _ N')))
        have f41 : ∀ (p q : Int32), cd_i (cd_si (cd_si (cd_si h' y 7 (-1)) y 5 p) y 6 q) 3 1 = 1 := fun p q => by rw [cd_i_si, if_neg (fun z => by omega), cd_i_si, if_neg (fun z => by omega), fk h' 3 1 (by decide)]; exact m2.2.2.1.2
        cases hgg : g with
        | false =>
          rw [hgg] at last
          refine ⟨fun _ => ⟨dk, by omega, rfl, F'.of rfl rfl, fun _ => ⟨kf 3 (by decide), ?_⟩, fun z => absurd rfl z⟩, fun z => absurd rfl z⟩
          rw [f41]
          refine ⟨fun z => absurd z (by decide), fun _ => ?_⟩
          have := last 3 (by decide)
          rw [Int32.add_zero]
          exact this
        | true =>
          rw [hgg] at last
          refine ⟨fun z => absurd z (by decide), fun _ => ⟨dk, by omega, rfl, F'.of rfl rfl, fun z => absurd z (by decide), fun _ => ⟨kf 3 (by decide), ?_⟩⟩⟩
          rw [f41]
          refine ⟨fun z => absurd z (by decide), fun _ => ?_⟩
          have := last 2 (by decide)
          rw [nI_1]
          exact this
      · have eR : sg_tk AC life now NW (r + 1) j AU us ct pr = ((AU.map sg_cr).set j (sg_cr u), us, none, true, pr) := by
          rw [sg_tk, hu]
          simp only
          rw [if_pos hs, if_neg (by omega), hc]
          simp only
          rw [if_neg (by omega)]
        rw [eR] at hq
        have Ct : cd_ch (cc_TK auts) h h' := C'
        obtain ⟨m1, m2, m3, m4, m5, m6⟩ := mono _ Ct en
        have kf : ∀ f, f < 64 → cd_k h' f = cd_k0 f := fun f hf => by rw [Ct.2.1 f (by omega)]; exact hk0 f hf
        have U7 := fin7 h' _ _ U' hcr'
        refine ⟨by rw [Ct.2.1 y (hbd _ _ d2)]; exact d2, by omega, kf 2 (by decide), ?_⟩
        rw [fk h' 2 0 (by decide), fk h' 2 1 (by decide), m2.2.1.1, m2.2.1.2]
        refine ⟨fun _ => ⟨fun z => absurd z (by decide), fun _ => ?_⟩, fun z => absurd rfl z⟩
        exact hq _ (C7 h' Ct) en (F'.of rfl rfl) U7 (stoK _ _ _ _ _ S') (nonK _ _ _ _ _ _ N')
    · have eR : sg_tk AC life now NW (r + 1) j AU us ct pr = sg_tk AC life now NW r (j + 1) AU us ct pr := by
        rw [sg_tk, hu]
        simp only
        rw [if_neg hs]
      rw [eR] at hq
      exact ih (j + 1) h AU us ct pr (by omega) F hn82 Ft K Ky W A U S N hq
theorem cc_aut.nx {h : cd_H} (U : cc_aut h now accs AU auts b2 c2) : cc_aut h (now + 1) accs AU auts b2 c2 := by
  obtain ⟨u1, u2, u3, u4, u5⟩ := U
  refine ⟨u1, u2, u3, u4, fun i x u hx hu => ?_⟩
  obtain ⟨d1, d4, d6, d7, d8, d9, d10, d11, ⟨d12, d13, d14, d15⟩, d16, d17⟩ := u5 i x u hx hu
  exact ⟨d1, d4, d6, d7, d8, d9, d10, d11, ⟨d12, d13, by omega, by omega⟩, d16, d17⟩
theorem sp_Desk_tick {cr gv : Nat} {sp : Nat → Bool} (hcr : cr < 1000) {us : Nat} {ct : Option Nat} (F : cc_ok h) (hn82 : 82 ≤ cd_n h) (Ft : cc_fat h) (K : cc_clk h life now) (hnow : now < 1000) (Ky : cc_kys h) (W : cc_net h NW) (A : cc_acc h AC accs b1 c1) (U : cc_aut h now accs AU auts b2 c2) (S : cc_sto h us ct) (N : cc_non h cr gv sp) (hq : ∀ h', cd_ch (fun x => cc_TK auts x ∨ x = 64) h h' → (∀ j, ¬ j = 12 → cd_i h' 64 j = cd_i h 64 j) → cd_n h' = cd_n h → cc_ok h' → cc_clk h' life (now + 1) → cc_aut h' (now + 1) accs (sg_tk AC life (now + 1) NW AU.length 0 AU us ct 0).1 auts b2 c2 → cc_sto h' (sg_tk AC life (now + 1) NW AU.length 0 AU us ct 0).2.1 (sg_tk AC life (now + 1) NW AU.length 0 AU us ct 0).2.2.1 → cc_non h' (sg_ncr (sg_tk AC life (now + 1) NW AU.length 0 AU us ct 0).2.2.2.1 cr) (sg_ngv (sg_tk AC life (now + 1) NW AU.length 0 AU us ct 0).2.2.2.1 gv) (sg_nsp (sg_tk AC life (now + 1) NW AU.length 0 AU us ct 0).2.2.2.1 sp) → Q (some (.int (nI (sg_tk AC life (now + 1) NW AU.length 0 AU us ct 0).2.2.2.2))) h') : cd_W X m_Desk_tick kc ks 0 [some (.ref 64), none, none, none, none, none] [] h Q := by
  refine cd_W.bd (fun hbd => ?_)
  obtain ⟨k1, k2, k3, k4⟩ := K
  have u3 := U.2.2.1
  refine g_Desk_tick F ?_
  rw [k4, nI_1]
  have C1 : cd_ch (fun x => x = 64) h (cd_si h 64 12 (nI (now + 1))) := cd_ch.si rfl
  have C0 : cd_ch (fun x => cc_TK auts x ∨ x = 64) h (cd_si h 64 12 (nI (now + 1))) := cd_ch.si (Or.inr rfl)
  have k64 := cc_k64 F
  have b64 : ∀ b cap, cd_k h b = some (.inr (5, cap)) → ¬ b = 64 := fun b cap hb z => by rw [z, k64] at hb; cases hb
  have K0 : cc_clk (cd_si h 64 12 (nI (now + 1))) life (now + 1) := ⟨k1, by omega, by rw [cd_i_si, if_neg (by omega)]; exact k3, by rw [cd_i_si, if_pos ⟨rfl, rfl⟩]⟩
  have U0 : cc_aut (cd_si h 64 12 (nI (now + 1))) (now + 1) accs AU auts b2 c2 := (U.ch hbd C1 (by decide) (b64 _ _ U.2.1.2.2.2.2.1) (fun x hx => by
    subst hx
    rw [k64]
    exact ⟨(fun z => by cases z), (fun z => by cases z), fun n z => by cases z⟩)).nx
  have A0 : cc_acc (cd_si h 64 12 (nI (now + 1))) AC accs b1 c1 := A.ch hbd C1 (by decide) (b64 _ _ A.2.1.2.2.2.2.1) (fun x hx => by
    subst hx
    rw [k64]
    exact fun z => by cases z)
  have nt : ¬ cc_TK auts 64 := fun z => by
    rcases U.tk F z with e | e | e
    · cases e
    · cases e
    · omega
  show cd_W X m_Desk_tick kc ks 14 [some (.ref 64), some (.int (nI 0)), some (.int (nI 0)), none, none, none] [] _ Q
  have K' := sp_Desk_tick_14 (X := X) (kc := kc) (ks := ks) (Q := Q) (b1 := b1) (c1 := c1) (b2 := b2) (c2 := c2) (cr := cr) (gv := gv) (sp := sp) (AC := AC) (NW := NW) (life := life) (now := now + 1) (accs := accs) (auts := auts) hcr auts.length 0 (cd_si h 64 12 (nI (now + 1))) AU us ct 0 (by omega) (F.of rfl rfl) hn82 (Ft.ch C1 hn82 (fun x hx => by omega)) K0 (Ky.ch C1 hn82 (fun x h1 h2 => by omega)) (W.ch C1 hn82 (by decide)) A0 U0 (S.ch C1 hn82 (by decide)) (N.ch C1 hn82 (by decide) (by decide))
  rw [u3] at K'
  refine K' (fun h' C' en F' U' S' N' => hq h' (C0.old C' (fun x _ z => Or.inl z)) (fun j hj => ?_) en F' (K0.ch C' hn82 nt) U' S' N')
  rw [(C'.2.2 64 (by show 64 < cd_n h; omega) nt).1, cd_i_si, if_neg (fun z => hj z.2)]
end VDT
