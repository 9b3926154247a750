def sg_op (T : Nat → Nat) (n : Nat) (l : List Nat) : Bool := match sg_fl T n [111, 112] (some 0) with
  | none => false
  | some v => sg_spB T n v (l.length, cd_csN l)
def sg_obj (T : Nat → Nat) (n : Nat) : Prop := 0 < n ∧ T 0 = 123 ∧ tx_V T n (tx_n T n) 7 0 0 = some n
theorem sg_obj_W {T : Nat → Nat} {n : Nat} (h : sg_obj T n) : tx_W T n 0 = some n := by
  rcases tx_R_V (T := T) (n := n) 7 0 0 with e | ⟨_, e, h1, h2, _⟩
  · rw [tx_W, ← e]
    exact h.2.2
  · rw [h.2.2] at h1
    cases h1
    omega
theorem sg_op_ex {T : Nat → Nat} {n : Nat} {l1 l2 : List Nat} (hd : ¬ (l1.length = l2.length ∧ ∀ j, j < l1.length → cd_csN l1 j = cd_csN l2 j)) (h1 : sg_op T n l1 = true) : sg_op T n l2 = false := by
  unfold sg_op at h1 ⊢
  cases hv : sg_fl T n [111, 112] (some 0) with
  | none => rfl
  | some v =>
    rw [hv] at h1
    simp only at h1 ⊢
    cases hb : sg_spB T n v (l2.length, cd_csN l2) with
    | false => rfl
    | true =>
      have hs : tx_s T n v = some (v + l1.length + 2) := by
        unfold sg_spB at h1
        rw [Bool.and_eq_true, decide_eq_true_iff] at h1
        exact h1.1
      obtain ⟨a1, a2⟩ := (sg_spB_iff hs).mp h1
      obtain ⟨b1, b2⟩ := (sg_spB_iff hs).mp hb
      have hl : l1.length = l2.length := by
        have b1 : v + l1.length + 2 = v + l2.length + 2 := b1
        omega
      refine absurd ⟨hl, fun j hj => ?_⟩ hd
      have a2 : T (v + 1 + j) = cd_csN l1 j := a2 j hj
      have b2 : T (v + 1 + j) = cd_csN l2 j := b2 j (by show j < l2.length; omega)
      rw [← a2, ← b2]
def sg_prm (T : Nat → Nat) (n life now : Nat) (ob ok : Bool) (AC : List sg_A) (AU : List sg_U) (OR : List sg_O) (CE : List sg_C) (us : Nat) (ct : Option Nat) (snd : Option Nat) (k : Nat) : sg_Rs :=
  if ob = false then sg_same0 (-1) AC AU OR CE us ct
  else if sg_op T n [110, 101, 119] = true then sg_open AC AU OR CE us ct snd k
  else if sg_op T n [111, 114, 100, 101, 114] = true then sg_plc T n life now ok AC AU OR CE us ct snd
  else if sg_op T n [116, 114, 121] = true then sg_try T n life now AC AU OR CE us ct snd
  else if sg_op T n [102, 105, 110, 105, 115, 104] = true then sg_fin T n life now AC AU OR CE us ct snd
  else if sg_op T n [114, 101, 118, 111, 107, 101] = true then sg_rev T n AC AU OR CE us ct snd
  else if sg_op T n [99, 108, 111, 115, 101] = true then sg_close AC AU OR CE us ct snd
  else sg_same0 (-1) AC AU OR CE us ct
section VPF
variable {X : cd_E} {kc ks : Nat} {h h' : cd_H} {Q : Option Value → cd_H → Prop} {A : Nat → Prop} {T : Nat → Nat} {n life now cr gv us w : Nat} {sp : Nat → Bool} {ct : Option Nat} {NW : Nat → Option Nat} {AC : List sg_A} {AU AU' : List sg_U} {OR OR' : List sg_O} {CE : List sg_C} {accs auts ords cers : List Nat} {b1 c1 b2 c2 b3 c3 b4 c4 : Nat}
theorem sp_Not_op (B : cc_B h T n life now NW) {a : Nat} {l : List Nat} (hm : (a, l) ∈ cd_csL) (hob : sg_obj T n) (h1 : sg_op T n l = true → Q (some (.int 1)) h) (h0 : sg_op T n l = false → Q (some (.int 0)) h) : cd_W X m_Not_spells kc ks 0 [some (.ref 71), some (.int (cd_op (sg_fl T n [111, 112] (some 0)))), some (.ref a), none, none] [] h Q := by
  obtain ⟨F, hn, Ft, Cs, Ky, Kk, K, W, Z⟩ := B
  obtain ⟨k1, k2⟩ := cd_csL_ok _ hm
  have k1 : l.length ≤ 8 := k1
  have hW := sg_obj_W hob
  have ho : ∀ v, sg_fl T n [111, 112] (some 0) = some v → ∃ e, tx_W T n v = some e := sg_flo (fun v hv => by cases hv; exact ⟨n, hW⟩)
  have z1 := Z.1
  have key : sg_op T n l = true ↔ tx_sp T n (sg_fl T n [111, 112] (some 0)) (cd_csN l) l.length := by
    unfold sg_op
    cases hv : sg_fl T n [111, 112] (some 0) with
    | none => exact ⟨fun z => (by cases z), fun ⟨p, e, _⟩ => by cases e⟩
    | some v =>
      simp only
      obtain ⟨e, he⟩ := ho v hv
      cases hs : tx_s T n v with
      | some c => exact sg_spB_sp (m := (l.length, cd_csN l)) hs (fun j hj => (k2 j hj).1)
      | none =>
        refine ⟨fun z => ?_, fun ⟨p, e1, ⟨e2, e3⟩, _⟩ => ?_⟩
        · unfold sg_spB at z
          rw [Bool.and_eq_true, decide_eq_true_iff, hs] at z
          cases z.1
        · cases e1
          rw [tx_W_str he e2 e3] at hs
          cases hs
  refine sp_Not_spells F Z (Cs _ hm).1 (fun p e => by obtain ⟨x, hx⟩ := ho p e; have := tx_W_lt hx; omega) (by omega) (fun hh => h1 (key.mpr hh)) (fun hh => h0 ?_)
  cases hb : sg_op T n l with
  | false => rfl
  | true => exact absurd (key.mp hb) hh
theorem sp_Desk_perform (R : cc_R h T n life now NW AC AU OR CE accs auts ords cers b1 c1 b2 c2 b3 c3 b4 c4) (S : cc_sto h us ct) (N : cc_non h cr gv sp) (hcr : cr < 1000) (I : sg_I AC AU OR CE) {ob ok : Bool} (hob : ob = true ↔ sg_obj T n) (hok : ∀ l, tx_z T n (sg_fl T n [110, 97, 109, 101, 115] (some 0)) = some l → (ok = true ↔ ((1 ≤ l.length ∧ l.length ≤ 3) ∧ sg_nok T n l))) {snd : Option Nat} (hs : ∀ i, snd = some i → i < AC.length) {k : Nat} (hk : k < 4) (hq : cc_Q Q h T n life now NW cr gv sp (sg_prm T n life now ob ok AC AU OR CE us ct snd k)) : cd_W X m_Desk_perform (kc + 81) (ks + 2240) 0 [some (.ref 64), some (.ref (66 + k)), some (va_rf (snd.bind (fun i => accs[i]?))), none] [] h Q := by
  have F := R.1.1
  have Z := R.1.2.2.2.2.2.2.2.2
  have P : cc_P h T n life now NW AC AU OR CE := ⟨_, _, _, _, _, _, _, _, _, _, _, _, R⟩
  have same : sg_prm T n life now ob ok AC AU OR CE us ct snd k = sg_same0 (-1) AC AU OR CE us ct → Q (some (.int (-1))) h := fun e => by
    have K := hq h (cd_ch.rf _ _)
    rw [e] at K
    exact K P S N
  have wrap : ∀ (Rs : sg_Rs), sg_prm T n life now ob ok AC AU OR CE us ct snd k = Rs → cc_Q (fun r60 h61 => ∃ x62 : Int32, r60 = some (.int x62) ∧ ((cc_ok h61) ∧ (Q (some (.int x62)) h61))) h T n life now NW cr gv sp Rs := fun Rs e h' C' P' S' N' => by
    rw [← e] at P' S' N' ⊢
    have P0 := P'
    obtain ⟨_, _, _, _, _, _, _, _, _, _, _, _, R'⟩ := P0
    exact ⟨_, rfl, R'.1.1, hq h' C' P' S' N'⟩
  refine g_Desk_perform F (sp_Not_isObject F Z (fun hobj => ⟨_, rfl, F, fun _ => ?_, fun z => absurd z (by decide)⟩) (fun hobj => ⟨_, rfl, F, fun z => absurd rfl z, fun _ => same ?_⟩))
  · have hobt := hob.mpr hobj
    have hW := sg_obj_W hobj
    have ho : ∀ v, (some 0 : Option Nat) = some v → ∃ e, tx_W T n v = some e := fun v hv => by cases hv; exact ⟨n, hW⟩
    show cd_W X m_Not_field 0 0 0 [some (.ref 71), some (.int (cd_op (some 0))), some (.ref 5), none, none, none, none] [] h _
    refine sp_Not_fld R.1 (l := [111, 112]) (by decide) ho ⟨_, rfl, F, sp_Not_op R.1 (l := [110, 101, 119]) (by decide) hobj (fun t1 => ⟨_, rfl, F, fun z => absurd z (by decide), fun _ => ?_⟩) (fun t1 => ⟨_, rfl, F, fun _ => sp_Not_op R.1 (l := [111, 114, 100, 101, 114]) (by decide) hobj (fun t2 => ⟨_, rfl, F, fun z => absurd z (by decide), fun _ => ?_⟩) (fun t2 => ⟨_, rfl, F, fun _ => sp_Not_op R.1 (l := [116, 114, 121]) (by decide) hobj (fun t3 => ⟨_, rfl, F, fun z => absurd z (by decide), fun _ => ?_⟩) (fun t3 => ⟨_, rfl, F, fun _ => sp_Not_op R.1 (l := [102, 105, 110, 105, 115, 104]) (by decide) hobj (fun t4 => ⟨_, rfl, F, fun z => absurd z (by decide), fun _ => ?_⟩) (fun t4 => ⟨_, rfl, F, fun _ => sp_Not_op R.1 (l := [114, 101, 118, 111, 107, 101]) (by decide) hobj (fun t5 => ⟨_, rfl, F, fun z => absurd z (by decide), fun _ => ?_⟩) (fun t5 => ⟨_, rfl, F, fun _ => sp_Not_op R.1 (l := [99, 108, 111, 115, 101]) (by decide) hobj (fun t6 => ⟨_, rfl, F, fun z => absurd z (by decide), fun _ => ?_⟩) (fun t6 => ⟨_, rfl, F, fun _ => same ?_, fun z => absurd rfl z⟩), fun z => absurd rfl z⟩), fun z => absurd rfl z⟩), fun z => absurd rfl z⟩), fun z => absurd rfl z⟩), fun z => absurd rfl z⟩)⟩
    all_goals have eb : ¬ ob = false := by rw [hobt]; decide
    · exact sp_Desk_openAccount (kc := 0) (ks := 0) R S N hcr hk I.1 hs (wrap _ (by unfold sg_prm; rw [if_neg eb, if_pos t1]))
    · exact sp_Desk_placeOrder (kc := 0) (ks := 0) R S N hcr I hW hok hs (wrap _ (by unfold sg_prm; rw [if_neg eb, t1, if_neg (by decide), if_pos t2]))
    · exact sp_Desk_startTrial R S N hW hs (wrap _ (by unfold sg_prm; rw [if_neg eb, t1, if_neg (by decide), t2, if_neg (by decide), if_pos t3]))
    · exact sp_Desk_finishOrder (kc := 0) (ks := 0) R S N hcr I hW hs (wrap _ (by unfold sg_prm; rw [if_neg eb, t1, if_neg (by decide), t2, if_neg (by decide), t3, if_neg (by decide), if_pos t4]))
    · exact sp_Desk_revokeCertificate R S N hcr hW hs (wrap _ (by unfold sg_prm; rw [if_neg eb, t1, if_neg (by decide), t2, if_neg (by decide), t3, if_neg (by decide), t4, if_neg (by decide), if_pos t5]))
    · exact sp_Desk_closeAccount R S N hcr hs (wrap _ (by unfold sg_prm; rw [if_neg eb, t1, if_neg (by decide), t2, if_neg (by decide), t3, if_neg (by decide), t4, if_neg (by decide), t5, if_neg (by decide), if_pos t6]))
    · unfold sg_prm
      rw [if_neg eb, t1, if_neg (by decide), t2, if_neg (by decide), t3, if_neg (by decide), t4, if_neg (by decide), t5, if_neg (by decide), t6, if_neg (by decide)]
  · have hobf : ob = false := by
      cases hb : ob with
      | false => rfl
      | true => exact absurd (hob.mp hb) hobj
    unfold sg_prm
    rw [if_pos hobf]
end VPF
