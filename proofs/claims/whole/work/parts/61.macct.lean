section VMA
variable {X : cd_E} {kc ks : Nat} {h h' : cd_H} {Q : Option Value → cd_H → Prop} {T : Nat → Nat} {n life now cr gv us w : Nat} {sp : Nat → Bool} {ct : Option Nat} {NW : Nat → Option Nat} {AC AC' : List sg_A} {AU AU' : List sg_U} {OR : List sg_O} {CE : List sg_C}
theorem cm_txt.of (Z : cm_txt h T n) (e : ∀ x j, (x = 82 ∧ j = 2) ∨ x = 83 → cd_i h' x j = cd_i h x j) : cm_txt h' T n := ⟨Z.1, by rw [e 82 2 (by omega)]; exact Z.2.1, fun j hj => by rw [e 83 j (by omega)]; exact Z.2.2.1 j hj, Z.2.2.2⟩
theorem cm_ord.of (O : cm_ord h now AC AU OR) (hA : AC.length ≤ AC'.length) (hU : AU.length ≤ AU'.length) (e : ∀ x j, (x = 82 ∧ j = 17) ∨ (92 ≤ x ∧ x ≤ 96) → cd_i h' x j = cd_i h x j) : cm_ord h' now AC' AU' OR := by
  refine ⟨O.1, by rw [e 82 17 (by omega)]; exact O.2.1, fun i o ho => ?_⟩
  obtain ⟨d1, d2, d3, d4, d5, d6, d7, d8, d9⟩ := O.2.2 i o ho
  exact ⟨by omega, by rw [e 92 i (by omega)]; exact d2, by rw [e 93 i (by omega)]; exact d3, d4, d5, by rw [e 94 i (by omega)]; exact d6, fun k p hp => ⟨by rw [e 95 _ (by omega)]; exact (d7 k p hp).1, by have := (d7 k p hp).2; omega⟩, by rw [e 96 i (by omega)]; exact d8, d9⟩
theorem cm_cer.of {OR' : List sg_O} (C : cm_cer h now OR CE) (hO : OR.length ≤ OR'.length) (e : ∀ x j, (x = 82 ∧ j = 31) ∨ (104 ≤ x ∧ x ≤ 108) → cd_i h' x j = cd_i h x j) : cm_cer h' now OR' CE := by
  refine ⟨C.1, by rw [e 82 31 (by omega)]; exact C.2.1, fun i c hc => ?_⟩
  obtain ⟨d1, d2, d3, d4, d5, d6, d7, d8, d9, d10⟩ := C.2.2 i c hc
  exact ⟨by rw [e 104 i (by omega)]; exact d1, by omega, by rw [e 105 i (by omega)]; exact d3, d4, by rw [e 106 i (by omega)]; exact d5, d6, by rw [e 107 i (by omega)]; exact d7, d8, by rw [e 108 i (by omega)]; exact d9, d10⟩
theorem cm_aut.ac (U : cm_aut h now AC AU) (hA : AC.length ≤ AC'.length) : cm_aut h now AC' AU := by
  refine ⟨U.1, U.2.1, fun i u hu => ?_, U.2.2.2⟩
  obtain ⟨b1, b2⟩ := U.2.2.1 i u hu
  exact ⟨by omega, b2⟩
theorem cm_R.K (R : cm_R h T n life now NW AC AU OR CE) (C : cm_ch cm_K h h') (U' : cm_aut h' now AC AU') (eL : AU'.length = AU.length) : cm_R h' T n life now NW AC AU' OR CE := by
  obtain ⟨F, Z, K, Ky, W, A, U, O, Ce⟩ := R
  have e : ∀ x j, ¬ cm_K x j → cd_i h' x j = cd_i h x j := C.2.2.2
  have no : ∀ x j, ¬ x = 89 → ¬ x = 103 → (x = 82 → ¬ j = 10 ∧ ¬ j = 11 ∧ ¬ j = 39 ∧ ¬ j = 40) → ¬ cm_K x j := fun x j a b c z => by
    rcases z with ⟨z1, z2⟩ | z | z
    · have := c z1; omega
    · exact a z
    · exact b z
  exact ⟨C.ok F, Z.of (fun x j hx => e x j (no x j (by omega) (by omega) (by omega))), K.of (fun j hj => e 82 j (no 82 j (by decide) (by decide) (by omega))), Ky.of (fun x j hx => e x j (no x j (by omega) (by omega) (by omega))), W.of (fun x j hx => e x j (no x j (by omega) (by omega) (by omega))), A.of (fun x j hx => e x j (no x j (by omega) (by omega) (by omega))), U', O.of (Nat.le_refl _) (by omega) (fun x j hx => e x j (no x j (by omega) (by omega) (by omega))), Ce.of (Nat.le_refl _) (fun x j hx => e x j (no x j (by omega) (by omega) (by omega)))⟩
theorem cm_K.dk {x j : Nat} (z : cm_K x j) : cm_Dk x j := by
  rcases z with ⟨rfl, z⟩ | rfl | rfl
  · exact ⟨by decide, by decide, by omega⟩
  · exact ⟨by decide, by decide, by omega⟩
  · exact ⟨by decide, by decide, by omega⟩
theorem sp_Mod_keepF (R : cm_R h T n life now NW AC AU OR CE) (S : cm_sto h us ct) (N : cm_non h cr gv sp) (hcr : cr < 1000) (hw : us + w ≤ 200)
    (hq : ¬ sg_fate us ct w = 1 → ∀ h', cm_ch cm_K h h' → cm_R h' T n life now NW AC (sg_fa (sg_fate us ct w) AU) OR CE → cm_sto h' (sg_fu (sg_fate us ct w) us w) (sg_ft (sg_fate us ct w) ct) → cm_non h' (sg_ncr (sg_fx (sg_fate us ct w)) cr) (sg_ngv (sg_fx (sg_fate us ct w)) gv) (sg_nsp (sg_fx (sg_fate us ct w)) sp) → Q (some (.int (b2i (sg_fc (sg_fate us ct w))))) h') :
    cd_W X m_Mod_keep kc ks 0 [some (.ref 82), some (.int (nI w)), none] [] h Q := by
  obtain ⟨F, Z, K, Ky, W, A, U, O, Ce⟩ := R
  have R0 : cm_R h T n life now NW AC AU OR CE := ⟨F, Z, K, Ky, W, A, U, O, Ce⟩
  refine sp_Mod_keep F N hcr U S hw (fun hc h' C' S' N' U' => ?_) (fun c hc hle h' C' S' N' U' => ?_) (fun c hc hgt h' C' S' N' U' => ?_)
  · have ef : sg_fate us ct w = 4 := by unfold sg_fate; rw [if_neg (by omega), hc]
    rw [ef] at hq
    exact hq (by decide) h' C' (R0.K C' U' rfl) S' N'
  · have ef : sg_fate us ct w = 3 := by unfold sg_fate; rw [if_neg (by omega), hc]; simp only; rw [if_pos hle]
    rw [ef] at hq
    exact hq (by decide) h' C' (R0.K C' U' (List.length_map _)) S' N'
  · have ef : sg_fate us ct w = 2 := by unfold sg_fate; rw [if_neg (by omega), hc]; simp only; rw [if_neg (by omega)]
    rw [ef] at hq
    exact hq (by decide) h' C' (R0.K C' U' (List.length_map _)) S' N'
theorem sg_fate1 (h : 200 < us + w) : sg_fate us ct w = 1 := by unfold sg_fate; rw [if_pos h]
theorem sg_fcx {f : Nat} (h1 : ¬ f = 1) (h2 : sg_fate us ct w = f) (h3 : sg_fc f = false) : sg_fx f = true := by
  have : f = 1 ∨ f = 2 ∨ f = 3 ∨ f = 4 := by
    rw [← h2]
    unfold sg_fate
    split
    · exact Or.inl rfl
    · split
      · exact Or.inr (Or.inr (Or.inr rfl))
      · split
        · exact Or.inr (Or.inr (Or.inl rfl))
        · exact Or.inr (Or.inl rfl)
  rcases this with rfl | rfl | rfl | rfl
  · exact absurd rfl h1
  · rfl
  · rfl
  · cases h3
theorem sg_crq {f : Nat} (hcr : cr < 1000) : nI (sg_ncr (sg_fx f) cr) = nI cr ↔ sg_fx f = false := by
  unfold sg_ncr
  cases sg_fx f with
  | false => exact ⟨fun _ => rfl, fun _ => rfl⟩
  | true =>
    refine ⟨fun z => ?_, fun z => by cases z⟩
    have z : nI (cr + 1) = nI cr := z
    rw [nI_eq (by omega) (by omega)] at z
    omega
theorem cm_acc.cls (A : cm_acc h AC) {i : Nat} (hi : i < AC.length) (e : ∀ x j, (x = 82 ∧ j = 14) ∨ x = 90 ∨ (x = 91 ∧ ¬ j = i) → cd_i h' x j = cd_i h x j) (e1 : cd_i h' 91 i = 1) : cm_acc h' (AC.set i (sg_ky AC i, true)) := by
  obtain ⟨a1, a2, a3, a4⟩ := A
  have ea : AC[i]? = some AC[i] := List.getElem?_eq_getElem hi
  have ek : sg_ky AC i = (AC[i]).1 := by rw [sg_ky, ea]
  refine ⟨by rw [List.length_set]; exact a1, by rw [e 82 14 (by omega), List.length_set]; exact a2, fun j a ha => ?_, fun j h1 h2 => ?_⟩
  · rw [List.getElem?_set] at ha
    by_cases hij : i = j
    · subst hij
      rw [if_pos rfl, if_pos hi] at ha
      cases ha
      obtain ⟨q1, q2, q3⟩ := a3 i _ ea
      exact ⟨by rw [e 90 i (by omega), ek]; exact q1, by rw [ek]; exact q2, e1⟩
    · rw [if_neg hij] at ha
      rw [e 90 j (by omega), e 91 j (by omega)]
      exact a3 j a ha
  · rw [List.length_set] at h1
    rw [e 91 j (by omega)]
    exact a4 j h1 h2
theorem sp_Mod_closing (R : cm_R h T n life now NW AC AU OR CE) (S : cm_sto h us ct) (N : cm_non h cr gv sp) (hcr : cr < 1000) {i : Nat} (hi : i < AC.length) (hq : cm_Q Q h T n life now NW cr gv sp (sg_close AC AU OR CE us ct (some i))) : cd_W X m_Mod_closing kc ks 0 [some (.ref 82), some (.int (nI i)), none] [] h Q := by
  have F := R.1
  have a1 := R.2.2.2.2.2.1.1
  refine g_Mod_closing F ?_
  show cd_W X m_Mod_hasRoom 0 0 0 [some (.ref 82), some (.int (nI 3))] [] h _
  refine sp_Mod_hasRoom F S (by decide) (fun hr => ⟨_, rfl, F, fun _ => ?_, fun z => absurd z (by decide)⟩) (fun hr => ⟨_, rfl, F, fun z => absurd rfl z, fun _ => ?_⟩)
  · show cd_W X m_Mod_keep 0 0 0 [some (.ref 82), some (.int (nI 3)), none] [] h _
    refine sp_Mod_keepF R S N hcr hr (fun h1f h1 C1 R1 S1 N1 => ⟨_, rfl, R1.1, ?_⟩)
    generalize hf : sg_fate us ct 3 = f at *
    have Cd : cm_ch cm_Dk h h1 := C1.sub (fun x j z => z.dk)
    have e10 : ∀ v : Int32, cd_i (cd_si h1 91 i v) 82 10 = cd_i h1 82 10 := fun v => by rw [cd_i_si, if_neg (by omega)]
    rw [nI_clamp (by omega), e10, N1.2.2.1, N.2.2.1, sg_crq hcr]
    cases hc : sg_fc f with
    | false =>
      have hx := sg_fcx h1f hf hc
      refine ⟨fun _ => ⟨fun z => ?_, fun _ => ?_⟩, fun z => absurd rfl z⟩
      · rw [hx] at z; cases z
      · have K := hq h1 Cd
        simp only [sg_close, hf, hc, sg_fr, hx] at K
        exact K R1 S1 (by simp only [hx] at N1; exact N1)
    | true =>
      refine ⟨fun z => absurd z (by decide), fun _ => ⟨vp_in_nI (by omega) (by decide), ?_⟩⟩
      have C2 : cm_ch (fun x j => x = 91 ∧ j = i) h1 (cd_si h1 91 i (vp_nar .boolean 1)) := cm_ch.si ⟨rfl, rfl⟩
      have ei : ∀ x j, ¬ (x = 91 ∧ j = i) → cd_i (cd_si h1 91 i (vp_nar .boolean 1)) x j = cd_i h1 x j := C2.2.2.2
      obtain ⟨F1, Z1, K1, Ky1, W1, A1, U1, O1, Ce1⟩ := R1
      have R2 : cm_R (cd_si h1 91 i (vp_nar .boolean 1)) T n life now NW (AC.set i (sg_ky AC i, true)) (sg_fa f AU) OR CE := ⟨C2.ok F1, Z1.of (fun x j hx => ei x j (by omega)), K1.of (fun j hj => ei 82 j (by omega)), Ky1.of (fun x j hx => ei x j (by omega)), W1.of (fun x j hx => ei x j (by omega)), A1.cls hi (fun x j hx => ei x j (by omega)) (by rw [cd_i_si, if_pos ⟨rfl, rfl⟩]; rfl), (U1.of (fun x j hx => ei x j (by omega))).ac (by rw [List.length_set]; exact Nat.le_refl _), O1.of (by rw [List.length_set]; exact Nat.le_refl _) (Nat.le_refl _) (fun x j hx => ei x j (by omega)), Ce1.of (Nat.le_refl _) (fun x j hx => ei x j (by omega))⟩
      have K := hq _ (Cd.tr (C2.sub (fun x j z => ⟨by omega, by omega, by omega⟩)))
      simp only [sg_close, hf, hc] at K
      have K2 := K R2 (S1.of (fun j hj => ei 82 j (by omega))) (N1.of (fun x j hx => ei x j (by omega)))
      cases hx : sg_fx f with
      | true =>
        simp only [sg_fr, hx] at K2
        exact ⟨fun z => (by cases z), fun _ => K2⟩
      | false =>
        simp only [sg_fr, hx, hc] at K2
        exact ⟨fun _ => K2, fun z => absurd rfl z⟩
  · have hf := sg_fate1 (ct := ct) hr
    have K := hq h (cm_ch.rf _ _)
    simp only [sg_close, hf] at K
    exact K R S N
theorem cm_acc.push (A : cm_acc h AC) {k : Nat} (hl : AC.length < 4) (hk : k < 4) (e : ∀ x j, (x = 90 ∧ ¬ j = AC.length) ∨ x = 91 → cd_i h' x j = cd_i h x j) (e1 : cd_i h' 90 AC.length = nI k) (e2 : cd_i h' 82 14 = nI (AC.length + 1)) : cm_acc h' (AC ++ [(k, false)]) := by
  obtain ⟨a1, a2, a3, a4⟩ := A
  refine ⟨by rw [List.length_append, List.length_singleton]; omega, by rw [List.length_append, List.length_singleton]; exact e2, fun j a ha => ?_, fun j h1 h2 => ?_⟩
  · by_cases ej : j < AC.length
    · rw [List.getElem?_append_left ej] at ha
      rw [e 90 j (by omega), e 91 j (by omega)]
      exact a3 j a ha
    · have hi := (List.getElem?_eq_some_iff.mp ha).1
      rw [List.length_append, List.length_singleton] at hi
      have ei : j = AC.length := by omega
      rw [ei, List.getElem?_append_right (Nat.le_refl _), Nat.sub_self] at ha
      cases ha
      rw [ei, e 91 _ (by omega)]
      exact ⟨e1, hk, a4 AC.length (Nat.le_refl _) hl⟩
  · rw [List.length_append, List.length_singleton] at h1
    rw [e 91 j (by omega)]
    exact a4 j (by omega) h2
theorem sp_Mod_opened_2 (R : cm_R h T n life now NW AC AU OR CE) (S : cm_sto h us ct) (N : cm_non h cr gv sp) (hcr : cr < 1000) {k : Nat} (hk : k < 4) (hnd : (AC.map Prod.fst).Nodup) (hq : cm_Q Q h T n life now NW cr gv sp (sg_open AC AU OR CE us ct none k)) : ∀ r j, r + j = AC.length → sg_fk AC 0 k = sg_fk (AC.drop j) j k → cd_W X m_Mod_opened kc ks 2 [some (.ref 82), some (.int (nI k)), some (.int (nI j))] [] h Q := by
  have F := R.1
  have Aa := R.2.2.2.2.2.1
  have a1 := Aa.1
  intro r
  induction r with
  | zero =>
    intro j hj ef
    rw [List.drop_of_length_le (by omega), sg_fk] at ef
    have hl : AC.length ≤ 3 := by
      have := sg_pig hnd (fun x hx => by
        rw [List.mem_map] at hx
        obtain ⟨a, ha, rfl⟩ := hx
        obtain ⟨i, hi, rfl⟩ := List.getElem_of_mem ha
        exact (Aa.2.2.1 i _ (List.getElem?_eq_getElem hi)).2.1) hk (sg_fk_none AC 0 k ef)
      rw [List.length_map] at this
      exact this
    refine g_Mod_opened_2 F ?_
    rw [Aa.2.1, nI_leI (by omega) (by omega)]
    refine ⟨fun _ => ?_, fun t => by omega⟩
    show cd_W X m_Mod_hasRoom 0 0 0 [some (.ref 82), some (.int (nI 3))] [] h _
    refine sp_Mod_hasRoom F S (by decide) (fun hr => ⟨_, rfl, F, fun _ => ?_, fun z => absurd z (by decide)⟩) (fun hr => ⟨_, rfl, F, fun z => absurd rfl z, fun _ => ?_⟩)
    · show cd_W X m_Mod_keep 0 0 0 [some (.ref 82), some (.int (nI 3)), none] [] h _
      refine sp_Mod_keepF R S N hcr hr (fun h1f h1 C1 R1 S1 N1 => ⟨_, rfl, R1.1, ?_⟩)
      generalize hf : sg_fate us ct 3 = f at *
      have Cd : cm_ch cm_Dk h h1 := C1.sub (fun x j z => z.dk)
      have e14 : cd_i h1 82 14 = nI AC.length := R1.2.2.2.2.2.1.2.1
      have f14 : ∀ v : Int32, cd_i (cd_si h1 90 AC.length v) 82 14 = nI AC.length := fun v => by rw [cd_i_si, if_neg (by omega)]; exact e14
      have f10 : ∀ v u : Int32, cd_i (cd_si (cd_si h1 90 AC.length v) 82 14 u) 82 10 = cd_i h1 82 10 := fun v u => by rw [cd_i_si, if_neg (by omega), cd_i_si, if_neg (by omega)]
      have g14 : ∀ v u : Int32, cd_i (cd_si (cd_si h1 90 AC.length v) 82 14 u) 82 14 = u := fun v u => by rw [cd_i_si, if_pos ⟨rfl, rfl⟩]
      rw [e14, nI_clamp (by omega), f14, nI_1, f10, g14, nI_pred, N1.2.2.1, N.2.2.1, sg_crq hcr]
      cases hc : sg_fc f with
      | false =>
        have hx := sg_fcx h1f hf hc
        refine ⟨fun _ => ⟨fun z => ?_, fun _ => ?_⟩, fun z => absurd rfl z⟩
        · rw [hx] at z; cases z
        · have K := hq h1 Cd
          simp only [sg_open, ef, hf, hc, sg_fr, hx] at K
          exact K R1 S1 (by simp only [hx] at N1; exact N1)
      | true =>
        refine ⟨fun z => absurd z (by decide), fun _ => ⟨vp_in_nI (by omega) (by decide), ?_⟩⟩
        have C2 : cm_ch (fun x j => (x = 90 ∧ j = AC.length) ∨ (x = 82 ∧ j = 14)) h1 (cd_si (cd_si h1 90 AC.length (nI k)) 82 14 (nI (AC.length + 1))) := (cm_ch.si (Or.inl ⟨rfl, rfl⟩)).tr (cm_ch.si (Or.inr ⟨rfl, rfl⟩))
        have ei : ∀ x j, ¬ ((x = 90 ∧ j = AC.length) ∨ (x = 82 ∧ j = 14)) → cd_i (cd_si (cd_si h1 90 AC.length (nI k)) 82 14 (nI (AC.length + 1))) x j = cd_i h1 x j := C2.2.2.2
        obtain ⟨F1, Z1, K1, Ky1, W1, A1, U1, O1, Ce1⟩ := R1
        have hle : AC.length ≤ (AC ++ [(k, false)]).length := by rw [List.length_append]; omega
        have R2 : cm_R (cd_si (cd_si h1 90 AC.length (nI k)) 82 14 (nI (AC.length + 1))) T n life now NW (AC ++ [(k, false)]) (sg_fa f AU) OR CE := ⟨C2.ok F1, Z1.of (fun x j hx => ei x j (by omega)), K1.of (fun j hj => ei 82 j (by omega)), Ky1.of (fun x j hx => ei x j (by omega)), W1.of (fun x j hx => ei x j (by omega)), A1.push (by omega) hk (fun x j hx => ei x j (by omega)) (by rw [cd_i_si, if_neg (by omega), cd_i_si, if_pos ⟨rfl, rfl⟩]) (by rw [cd_i_si, if_pos ⟨rfl, rfl⟩]), (U1.of (fun x j hx => ei x j (by omega))).ac hle, O1.of hle (Nat.le_refl _) (fun x j hx => ei x j (by omega)), Ce1.of (Nat.le_refl _) (fun x j hx => ei x j (by omega))⟩
        have K := hq _ (Cd.tr (C2.sub (fun x j z => ⟨by omega, by omega, by omega⟩)))
        simp only [sg_open, ef, hf, hc] at K
        have K2 := K R2 (S1.of (fun j hj => ei 82 j (by omega))) (N1.of (fun x j hx => ei x j (by omega)))
        cases hx : sg_fx f with
        | true =>
          simp only [sg_fr, hx] at K2
          exact ⟨fun z => (by cases z), fun _ => K2⟩
        | false =>
          simp only [sg_fr, hx, hc] at K2
          exact ⟨fun _ => K2, fun z => absurd rfl z⟩
    · have hf := sg_fate1 (ct := ct) hr
      have K := hq h (cm_ch.rf _ _)
      simp only [sg_open, ef, hf] at K
      exact K R S N
  | succ r ih =>
    intro j hj ef
    have hlt : j < AC.length := by omega
    have ea : AC[j]? = some AC[j] := List.getElem?_eq_getElem hlt
    obtain ⟨q1, q2, q3⟩ := Aa.2.2.1 j _ ea
    rw [List.drop_eq_getElem_cons hlt, sg_fk] at ef
    refine g_Mod_opened_2 F ?_
    rw [Aa.2.1, nI_leI (by omega) (by omega), nI_clamp (by omega), q1, nI_eq (by omega) (by omega), q3, nI_1]
    refine ⟨fun t => by omega, fun _ => ⟨vp_in_nI (by omega) (by decide), fun t => ?_, fun t => ?_⟩⟩
    · rw [if_neg t] at ef
      exact ih (j + 1) (by omega) ef
    · rw [if_pos t] at ef
      have K := hq h (cm_ch.rf _ _)
      simp only [sg_open, ef] at K
      have K2 := K R S N
      cases hc : (AC[j]).2 with
      | true =>
        rw [hc] at K2
        exact ⟨fun z => absurd z (by decide), fun _ => K2⟩
      | false =>
        rw [hc] at K2
        exact ⟨fun _ => K2, fun z => absurd rfl z⟩
theorem sp_Mod_opened (R : cm_R h T n life now NW AC AU OR CE) (S : cm_sto h us ct) (N : cm_non h cr gv sp) (hcr : cr < 1000) {k : Nat} (hk : k < 4) (hnd : (AC.map Prod.fst).Nodup) (hq : cm_Q Q h T n life now NW cr gv sp (sg_open AC AU OR CE us ct none k)) : cd_W X m_Mod_opened kc ks 0 [some (.ref 82), some (.int (nI k)), none] [] h Q :=
  g_Mod_opened R.1 (sp_Mod_opened_2 R S N hcr hk hnd hq AC.length 0 (by omega) (by rw [List.drop_zero]))
end VMA
