section VMQ2
variable {X : cd_E} {kc ks : Nat} {h h' : cd_H} {Q : Option Value → cd_H → Prop} {T : Nat → Nat} {n life now cr gv us w : Nat} {sp : Nat → Bool} {ct : Option Nat} {NW : Nat → Option Nat} {AC AC' : List sg_A} {AU AU' : List sg_U} {OR : List sg_O} {CE : List sg_C}
theorem sg_pk {v c : Nat} {l : List Nat} {a : Nat} (hm : (a, l) ∈ cd_csL) (hT : ∀ j, j < n → 32 ≤ T j ∧ T j ≤ 126) (hn : n ≤ 96) (hv : sg_fl T n [111, 112] (some 0) = some v) (hs : tx_s T n v = some c) {p k : Int64} (h1 : c ≤ v + 10 → p = lN (tx_k T (v + 1) (c - v - 2))) (h0 : v + 10 < c → p = -1) (hk : k = lN (tx_k (cd_csN l) 0 l.length)) : lg_cmp p k = 0 ↔ sg_op T n l = true := by
  obtain ⟨k1, k2⟩ := cd_csL_ok _ hm
  have k1 : l.length ≤ 8 := k1
  have k2 : ∀ j, j < l.length → (cd_csN l j ≠ 34 ∧ cd_csN l j ≠ 92) ∧ 0 < cd_csN l j ∧ cd_csN l j < 128 := k2
  have hp := tx_s_some hs
  have kl : tx_k (cd_csN l) 0 l.length < 2 ^ 63 := by
    have := tx_k_lt (T := cd_csN l) (a := 0) l.length (fun j hj => by rw [Nat.zero_add]; exact (k2 j hj).2.2)
    have h8 : 128 ^ l.length ≤ 128 ^ 8 := Nat.pow_le_pow_right (by decide) k1
    omega
  rw [lg_cmp_eq, hk]
  have e : sg_op T n l = true ↔ (c = v + l.length + 2 ∧ ∀ j, j < l.length → T (v + 1 + j) = cd_csN l j) := by
    unfold sg_op
    rw [hv]
    exact sg_spB_iff (m := (l.length, cd_csN l)) hs
  rw [e]
  by_cases hc : c ≤ v + 10
  · have tl : tx_k T (v + 1) (c - v - 2) < 2 ^ 63 := by
      have := tx_k_lt (T := T) (a := v + 1) (c - v - 2) (fun j hj => by have := hT (v + 1 + j) (by omega); omega)
      have h8 : 128 ^ (c - v - 2) ≤ 128 ^ 8 := Nat.pow_le_pow_right (by decide) (by omega)
      omega
    rw [h1 hc, lN_eqB tl kl, tx_k_inj (c - v - 2) l.length (fun j hj => by have := hT (v + 1 + j) (by omega); omega) (fun j hj => by rw [Nat.zero_add]; exact (k2 j hj).2)]
    refine ⟨fun ⟨q1, q2⟩ => ⟨by omega, fun j hj => ?_⟩, fun ⟨q1, q2⟩ => ⟨by omega, fun j hj => ?_⟩⟩
    · have := q2 j (by omega)
      rw [Nat.zero_add] at this
      exact this
    · rw [Nat.zero_add]
      exact q2 j (by omega)
  · rw [h0 (by omega)]
    exact ⟨fun z => absurd z (lN_m1 kl), fun z => by omega⟩
theorem sp_Mod_done (R : cm_R h T n life now NW AC AU OR CE) (S : cm_sto h us ct) (N : cm_non h cr gv sp) (hcr : cr < 1000) (I : sg_I AC AU OR CE) (hobj : sg_obj T n) {ob ok : Bool} (hob : ob = true) (hok : ∀ l, tx_z T n (sg_fl T n [110, 97, 109, 101, 115] (some 0)) = some l → (ok = true ↔ ((1 ≤ l.length ∧ l.length ≤ 3) ∧ sg_nok T n l))) {snd : Option Nat} (hs : ∀ i, snd = some i → i < AC.length) {k v c : Nat} (hk : k < 4) (hv : sg_fl T n [111, 112] (some 0) = some v) (hsv : tx_s T n v = some c) {p : Int64} (h1 : c ≤ v + 10 → p = lN (tx_k T (v + 1) (c - v - 2))) (h0 : v + 10 < c → p = -1) (hq : cm_Q Q h T n life now NW cr gv sp (sg_prm T n life now ob ok AC AU OR CE us ct snd k)) : cd_W X m_Mod_done kc ks 0 [some (.ref 82), some (.long p), none, some (.int (nI k)), some (.int (cd_op snd))] [] h Q := by
  have F := R.1
  have Z := R.2.1
  have hW := sg_obj_W hobj
  have hT0 := hobj.2.1
  have a1 := R.2.2.2.2.2.1.1
  have eb : ¬ ob = false := by rw [hob]; decide
  have pk : ∀ (a : Nat) (l : List Nat) (kk : Int64), (a, l) ∈ cd_csL → kk = lN (tx_k (cd_csN l) 0 l.length) → (lg_cmp p kk = 0 ↔ sg_op T n l = true) := fun a l kk hm hkk => sg_pk hm Z.2.2.2 Z.1 hv hsv h1 h0 hkk
  have p1 := pk 6 [110, 101, 119] 1815287 (by decide) (by decide)
  have p2 := pk 18 [99, 108, 111, 115, 101] 26803436005 (by decide) (by decide)
  have p3 := pk 7 [111, 114, 100, 101, 114] 30037062386 (by decide) (by decide)
  have p4 := pk 9 [116, 114, 121] 1915257 (by decide) (by decide)
  have p5 := pk 12 [102, 105, 110, 105, 115, 104] 3533111458280 (by decide) (by decide)
  have p6 := pk 15 [114, 101, 118, 111, 107, 101] 3944371451365 (by decide) (by decide)
  have same : ∀ r : Int32, sg_prm T n life now ob ok AC AU OR CE us ct snd k = sg_same0 r AC AU OR CE us ct → Q (some (.int r)) h := fun r e => by
    have K := hq h (cm_ch.rf _ _)
    rw [e] at K
    exact K R S N
  have wrap : ∀ (Rs : sg_Rs), sg_prm T n life now ob ok AC AU OR CE us ct snd k = Rs → cm_Q (fun r60 h61 => ∃ x62 : Int32, r60 = some (.int x62) ∧ ((cm_ok h61) ∧ (Q (some (.int x62)) h61))) h T n life now NW cr gv sp Rs := fun Rs e h' C' P' S' N' => by
    rw [← e] at P' S' N' ⊢
    exact ⟨_, rfl, P'.1, hq h' C' P' S' N'⟩
  have ff : ∀ {l : List Nat}, ¬ sg_op T n l = true → sg_op T n l = false := fun {l} z => by
    cases hb : sg_op T n l with
    | false => rfl
    | true => exact absurd hb z
  refine g_Mod_done F ?_
  rw [p1, p2, p3, p4, p5, p6, cd_op_m1 (fun x hx => by have := hs x hx; omega)]
  refine ⟨fun t1 => ⟨fun t2 => ⟨fun t3 => ⟨fun t4 => ⟨fun t5 => ⟨fun t6 => same (-1) ?_, fun t6 => ?_⟩, fun t5 => ?_⟩, fun t4 => ?_⟩, fun t3 => ?_⟩, fun t2 => ⟨fun t => ?_, fun t => same (-4) ?_⟩⟩, fun t1 => ⟨fun t => ?_, fun t => same (-4) ?_⟩⟩
  · unfold sg_prm
    rw [if_neg eb, ff t1, if_neg (by decide), ff t3, if_neg (by decide), ff t4, if_neg (by decide), ff t5, if_neg (by decide), ff t6, if_neg (by decide), ff t2, if_neg (by decide)]
  · exact sp_Mod_revoking R S N hcr hW hT0 hs (wrap _ (by unfold sg_prm; rw [if_neg eb, ff t1, if_neg (by decide), ff t3, if_neg (by decide), ff t4, if_neg (by decide), ff t5, if_neg (by decide), if_pos t6]))
  · exact sp_Mod_finishing R S N hcr I hW hT0 hs (wrap _ (by unfold sg_prm; rw [if_neg eb, ff t1, if_neg (by decide), ff t3, if_neg (by decide), ff t4, if_neg (by decide), if_pos t5]))
  · exact sp_Mod_trying R S N hW hT0 hs (wrap _ (by unfold sg_prm; rw [if_neg eb, ff t1, if_neg (by decide), ff t3, if_neg (by decide), if_pos t4]))
  · exact sp_Mod_ordering R S N hcr hW hT0 hok hs (wrap _ (by unfold sg_prm; rw [if_neg eb, ff t1, if_neg (by decide), if_pos t3]))
  · obtain ⟨i, hsn⟩ : ∃ i, snd = some i := by
      cases snd with
      | none => exact absurd rfl t
      | some i => exact ⟨i, rfl⟩
    have e : sg_prm T n life now ob ok AC AU OR CE us ct snd k = sg_close AC AU OR CE us ct snd := by
      unfold sg_prm
      rw [if_neg eb, ff t1, if_neg (by decide), sg_op_ex (by decide) t2, if_neg (by decide), sg_op_ex (by decide) t2, if_neg (by decide), sg_op_ex (by decide) t2, if_neg (by decide), sg_op_ex (by decide) t2, if_neg (by decide), if_pos t2]
    have w := wrap _ e
    rw [hsn] at w ⊢
    exact sp_Mod_closing R S N hcr (hs i hsn) w
  · have e : sg_prm T n life now ob ok AC AU OR CE us ct snd k = sg_close AC AU OR CE us ct snd := by
      unfold sg_prm
      rw [if_neg eb, ff t1, if_neg (by decide), sg_op_ex (by decide) t2, if_neg (by decide), sg_op_ex (by decide) t2, if_neg (by decide), sg_op_ex (by decide) t2, if_neg (by decide), sg_op_ex (by decide) t2, if_neg (by decide), if_pos t2]
    rw [e, t]
    rfl
  · have e : sg_prm T n life now ob ok AC AU OR CE us ct snd k = sg_open AC AU OR CE us ct snd k := by
      unfold sg_prm
      rw [if_neg eb, if_pos t1]
    have w := wrap _ e
    rw [t] at w
    exact sp_Mod_opened R S N hcr hk I.1 w
  · have e : sg_prm T n life now ob ok AC AU OR CE us ct snd k = sg_open AC AU OR CE us ct snd k := by
      unfold sg_prm
      rw [if_neg eb, if_pos t1]
    rw [e]
    cases hsn : snd with
    | none => exact absurd hsn t
    | some i => rfl
end VMQ2
