def cm_ch (A : Nat → Nat → Prop) (h h' : cd_H) : Prop := cd_n h' = cd_n h ∧ cd_k h' = cd_k h ∧ cd_r h' = cd_r h ∧ ∀ a j, ¬ A a j → cd_i h' a j = cd_i h a j
theorem cm_ch.rf (A : Nat → Nat → Prop) (h : cd_H) : cm_ch A h h := ⟨rfl, rfl, rfl, fun _ _ _ => rfl⟩
theorem cm_ch.tr {A : Nat → Nat → Prop} {h h1 h2 : cd_H} (a : cm_ch A h h1) (b : cm_ch A h1 h2) : cm_ch A h h2 := ⟨b.1.trans a.1, b.2.1.trans a.2.1, b.2.2.1.trans a.2.2.1, fun x j hx => (b.2.2.2 x j hx).trans (a.2.2.2 x j hx)⟩
theorem cm_ch.si {A : Nat → Nat → Prop} {h : cd_H} {a k : Nat} {x : Int32} (hA : A a k) : cm_ch A h (cd_si h a k x) := ⟨rfl, rfl, rfl, fun b j hx => by rw [cd_i_si, if_neg (fun z => hx (by rw [z.1, z.2]; exact hA))]⟩
theorem cm_ch.sub {A B : Nat → Nat → Prop} {h h' : cd_H} (a : cm_ch A h h') (hAB : ∀ x j, A x j → B x j) : cm_ch B h h' := ⟨a.1, a.2.1, a.2.2.1, fun x j hx => a.2.2.2 x j (fun z => hx (hAB x j z))⟩
theorem cm_ch.ok {A : Nat → Nat → Prop} {h h' : cd_H} (a : cm_ch A h h') (F : cm_ok h) : cm_ok h' := F.of a.2.1 a.2.2.1
def cc_non (h : cd_H) (cr gv : Nat) (sp : Nat → Bool) : Prop := cr ≤ 1000 ∧ gv ≤ 512 ∧ cd_i h 74 1 = nI (1000 * cr) ∧ cd_i h 74 2 = nI gv ∧ ∀ k, k < gv → cd_i h 75 k = (if sp k then 1 else 0)
def cm_non (h : cd_H) (cr gv : Nat) (sp : Nat → Bool) : Prop := cr ≤ 1000 ∧ gv ≤ 512 ∧ cd_i h 82 10 = nI cr ∧ cd_i h 82 11 = nI gv ∧ (∀ k, k < 512 → cd_i h 89 k = (if sp k then 1 else 0)) ∧ ∀ k, gv ≤ k → sp k = false
def tx_good (cr gv : Nat) (sp : Nat → Bool) (x : Int32) : Prop := ∃ k, k < gv ∧ x = nI (1000 * cr + k) ∧ sp k = false
def cc_sto (h : cd_H) (us : Nat) (ct : Option Nat) : Prop := us ≤ 200 ∧ cd_i h 76 0 = nI us ∧ cd_i h 76 1 = cd_op ct ∧ ∀ c, ct = some c → c < 2 ^ 31
def cm_sto (h : cd_H) (us : Nat) (ct : Option Nat) : Prop := us ≤ 200 ∧ cd_i h 82 39 = nI us ∧ cd_i h 82 40 = cd_op ct ∧ ∀ c, ct = some c → c < 2 ^ 31
section VSI
variable {X : cd_E} {kc ks : Nat} {h : cd_H} {Q : Option Value → cd_H → Prop} {T : Nat → Nat} {n : Nat}
theorem sp_Desk_write (F : cc_ok h) (Z : cc_txt h T n) {c : Nat} (hc : c < 65536) (h1 : (n < 96 ∧ 32 ≤ c ∧ c ≤ 126) → ∀ h', cd_ch (fun x => x = 71 ∨ x = 72) h h' → cc_ok h' → cd_n h' = cd_n h → cc_txt h' (fun j => if j = n then c else T j) (n + 1) → Q (some (.int 1)) h') (h0 : ¬ (n < 96 ∧ 32 ≤ c ∧ c ≤ 126) → Q (some (.int 0)) h) : cd_W X m_Desk_write kc ks 0 [some (.ref 64), some (.int (nI c))] [] h Q := by
  obtain ⟨z1, z2, z3, z4⟩ := Z
  refine g_Desk_write F (g_Not_append F ?_)
  rw [z2, show (96 : Int32) = nI 96 by decide, nI_leI (by decide) (by omega), show (32 : Int32) = nI 32 by decide, nI_ltI (by omega) (by decide), show (126 : Int32) = nI 126 by decide, nI_leI (by omega) (by decide)]
  refine ⟨fun t => ⟨_, rfl, F, Or.inl rfl, h0 (by omega)⟩, fun t => ⟨fun t2 => ⟨_, rfl, F, Or.inl rfl, h0 (by omega)⟩, fun t2 => ⟨fun t3 => ⟨vp_in_nI (by omega) (by decide), ?_⟩, fun t3 => ⟨_, rfl, F, Or.inl rfl, h0 (by omega)⟩⟩⟩⟩
  have C : cd_ch (fun x => x = 71 ∨ x = 72) h (cd_si (cd_si h 72 (nI n).toNatClampNeg (vp_nar .char (nI c))) 71 1 (cd_i (cd_si h 72 (nI n).toNatClampNeg (vp_nar .char (nI c))) 71 1 + 1)) := (cd_ch.si (Or.inr rfl)).tr (cd_ch.si (Or.inl rfl))
  have F' : cc_ok (cd_si (cd_si h 72 (nI n).toNatClampNeg (vp_nar .char (nI c))) 71 1 (cd_i (cd_si h 72 (nI n).toNatClampNeg (vp_nar .char (nI c))) 71 1 + 1)) := F.of rfl rfl
  refine ⟨_, rfl, F', Or.inr rfl, h1 (by omega) _ C F' rfl ⟨by omega, ?_, fun j hj => ?_, fun j hj => ?_⟩⟩
  · rw [cd_i_si, if_pos ⟨rfl, rfl⟩, cd_i_si, if_neg (fun z => by omega), z2, nI_1]
  · rw [cd_i_si, if_neg (fun z => by omega), cd_i_si, nI_clamp (by omega), cd_narc hc]
    show _ = nI (if j = n then c else T j)
    by_cases e : j = n
    · rw [if_pos ⟨rfl, e⟩, if_pos e]
    · rw [if_neg (fun z => e z.2), if_neg e]
      exact z3 j (by omega)
  · show 32 ≤ (if j = n then c else T j) ∧ (if j = n then c else T j) ≤ 126
    by_cases e : j = n
    · rw [if_pos e]; omega
    · rw [if_neg e]; exact z4 j (by omega)
theorem sp_Mod_write (F : cm_ok h) (Z : cm_txt h T n) {c : Nat} (hc : c < 65536) (h1 : (n < 96 ∧ 32 ≤ c ∧ c ≤ 126) → ∀ h', cm_ch (fun x j => (x = 82 ∧ j = 2) ∨ x = 83) h h' → cm_txt h' (fun j => if j = n then c else T j) (n + 1) → Q (some (.int 1)) h') (h0 : ¬ (n < 96 ∧ 32 ≤ c ∧ c ≤ 126) → Q (some (.int 0)) h) : cd_W X m_Mod_write kc ks 0 [some (.ref 82), some (.int (nI c))] [] h Q := by
  obtain ⟨z1, z2, z3, z4⟩ := Z
  refine g_Mod_write F ?_
  rw [z2, show (96 : Int32) = nI 96 by decide, nI_leI (by decide) (by omega), show (32 : Int32) = nI 32 by decide, nI_ltI (by omega) (by decide), show (126 : Int32) = nI 126 by decide, nI_leI (by omega) (by decide)]
  refine ⟨fun t => h0 (by omega), fun t => ⟨fun t2 => h0 (by omega), fun t2 => ⟨fun t3 => ⟨vp_in_nI (by omega) (by decide), ?_⟩, fun t3 => h0 (by omega)⟩⟩⟩
  refine h1 (by omega) _ ((cm_ch.si (Or.inr rfl)).tr (cm_ch.si (Or.inl ⟨rfl, rfl⟩))) ⟨by omega, ?_, fun j hj => ?_, fun j hj => ?_⟩
  · rw [cd_i_si, if_pos ⟨rfl, rfl⟩, cd_i_si, if_neg (fun z => by omega), z2, nI_1]
  · rw [cd_i_si, if_neg (fun z => by omega), cd_i_si, nI_clamp (by omega), cd_narc hc]
    show _ = nI (if j = n then c else T j)
    by_cases e : j = n
    · rw [if_pos ⟨rfl, e⟩, if_pos e]
    · rw [if_neg (fun z => e z.2), if_neg e]
      exact z3 j (by omega)
  · show 32 ≤ (if j = n then c else T j) ∧ (if j = n then c else T j) ≤ 126
    by_cases e : j = n
    · rw [if_pos e]; omega
    · rw [if_neg e]; exact z4 j (by omega)
theorem sp_Desk_nonce (F : cc_ok h) {cr gv : Nat} {sp : Nat → Bool} (N : cc_non h cr gv sp) (hg : gv < 512) (hs : sp gv = false) (hq : ∀ h', cd_ch (fun x => x = 74 ∨ x = 75) h h' → cc_ok h' → cd_n h' = cd_n h → cc_non h' cr (gv + 1) sp → Q (some (.int (nI (1000 * cr + gv)))) h') : cd_W X m_Desk_nonce kc ks 0 [some (.ref 64)] [] h Q := by
  obtain ⟨n1, n2, n3, n4, n5⟩ := N
  refine g_Desk_nonce F (g_Non_give F ?_)
  rw [n3, n4, nI_add, nI_clamp (by omega), show (512 : Int32) = nI 512 by decide, nI_leI (by decide) (by omega)]
  refine ⟨fun t => by omega, fun _ => ⟨vp_in_nI hg (by decide), ?_⟩⟩
  have C : cd_ch (fun x => x = 74 ∨ x = 75) h (cd_si (cd_si h 75 gv (vp_nar .boolean 0)) 74 2 (cd_i (cd_si h 75 gv (vp_nar .boolean 0)) 74 2 + 1)) := (cd_ch.si (Or.inr rfl)).tr (cd_ch.si (Or.inl rfl))
  refine ⟨_, rfl, F.of rfl rfl, hq _ C (F.of rfl rfl) rfl ⟨n1, by omega, ?_, ?_, fun k hk => ?_⟩⟩
  · rw [cd_i_si, if_neg (fun z => by omega), cd_i_si, if_neg (fun z => by omega)]; exact n3
  · rw [cd_i_si, if_pos ⟨rfl, rfl⟩, cd_i_si, if_neg (fun z => by omega), n4, nI_1]
  · rw [cd_i_si, if_neg (fun z => by omega), cd_i_si]
    by_cases e : k = gv
    · subst e
      rw [if_pos ⟨rfl, rfl⟩, hs]
      rfl
    · rw [if_neg (fun z => e z.2)]
      exact n5 k (by omega)
theorem sp_Mod_nonce (F : cm_ok h) {cr gv : Nat} {sp : Nat → Bool} (N : cm_non h cr gv sp) (hg : gv < 512) (hq : ∀ h', cm_ch (fun x j => x = 82 ∧ j = 11) h h' → cm_non h' cr (gv + 1) sp → Q (some (.int (nI (1000 * cr + gv)))) h') : cd_W X m_Mod_nonce kc ks 0 [some (.ref 82)] [] h Q := by
  obtain ⟨n1, n2, n3, n4, n5, n6⟩ := N
  refine g_Mod_nonce F ?_
  rw [cd_i_si, if_neg (fun z => by omega), cd_i_si, if_pos ⟨rfl, rfl⟩, n3, n4, nI_1, show (1000 : Int32) = nI 1000 by decide, pk_mul, nI_add, show 1000 * cr + (gv + 1) = 1000 * cr + gv + 1 by omega, nI_pred]
  refine hq _ (cm_ch.si ⟨rfl, rfl⟩) ⟨n1, by omega, ?_, ?_, fun k hk => ?_, fun k hk => n6 k (by omega)⟩
  · rw [cd_i_si, if_neg (fun z => by omega)]; exact n3
  · rw [cd_i_si, if_pos ⟨rfl, rfl⟩]
  · rw [cd_i_si, if_neg (fun z => by omega)]; exact n5 k hk
theorem sp_Desk_cut (F : cc_ok h) {us : Nat} {ct : Option Nat} (S : cc_sto h us ct) {x : Int32} (h1 : ∀ c, c < 2 ^ 31 → x = nI c → ∀ h', cd_ch (fun y => y = 76) h h' → cc_ok h' → cd_n h' = cd_n h → cc_sto h' us (some c) → Q (some (.int 1)) h') (h0 : x < 0 → Q (some (.int 0)) h) : cd_W X m_Desk_cut kc ks 0 [some (.ref 64), some (.int x)] [] h Q := by
  obtain ⟨s1, s2, s3, s4⟩ := S
  refine g_Desk_cut F ⟨fun t => ?_, fun t => h0 (Int32.not_le.mp t)⟩
  obtain ⟨c, hc, rfl⟩ := nI_of (Int32.not_lt.mpr t)
  refine h1 c hc rfl _ (cd_ch.si rfl) (F.of rfl rfl) rfl ⟨s1, ?_, ?_, fun d hd => by cases hd; exact hc⟩
  · rw [cd_i_si, if_neg (fun z => by omega)]; exact s2
  · rw [cd_i_si, if_pos ⟨rfl, rfl⟩]; rfl
theorem sp_Mod_cut (F : cm_ok h) {us : Nat} {ct : Option Nat} (S : cm_sto h us ct) {x : Int32} (h1 : ∀ c, c < 2 ^ 31 → x = nI c → ∀ h', cm_ch (fun y j => y = 82 ∧ j = 40) h h' → cm_sto h' us (some c) → Q (some (.int 1)) h') (h0 : x < 0 → Q (some (.int 0)) h) : cd_W X m_Mod_cut kc ks 0 [some (.ref 82), some (.int x)] [] h Q := by
  obtain ⟨s1, s2, s3, s4⟩ := S
  refine g_Mod_cut F ⟨fun t => ?_, fun t => h0 (Int32.not_le.mp t)⟩
  obtain ⟨c, hc, rfl⟩ := nI_of (Int32.not_lt.mpr t)
  refine h1 c hc rfl _ (cm_ch.si ⟨rfl, rfl⟩) ⟨s1, ?_, ?_, fun d hd => by cases hd; exact hc⟩
  · rw [cd_i_si, if_neg (fun z => by omega)]; exact s2
  · rw [cd_i_si, if_pos ⟨rfl, rfl⟩]; rfl
theorem sp_Desk_words (F : cc_ok h) {us : Nat} {ct : Option Nat} (S : cc_sto h us ct) (hq : Q (some (.int (nI us))) h) : cd_W X m_Desk_words kc ks 0 [some (.ref 64)] [] h Q := g_Desk_words F (by rw [S.2.1]; exact hq)
theorem sp_Mod_words (F : cm_ok h) {us : Nat} {ct : Option Nat} (S : cm_sto h us ct) (hq : Q (some (.int (nI us))) h) : cd_W X m_Mod_words kc ks 0 [some (.ref 82)] [] h Q := g_Mod_words F (by rw [S.2.1]; exact hq)
theorem cd_plc {cr gv : Nat} {x : Int32} (hc : cr ≤ 1000) (hg : gv ≤ 512) (h0 : ¬ (x - nI (1000 * cr)) < 0) (h1 : ¬ nI gv ≤ x - nI (1000 * cr)) : ∃ k, k < gv ∧ x = nI (1000 * cr + k) ∧ x - nI (1000 * cr) = nI k := by
  obtain ⟨k, hk, e⟩ := nI_of h0
  rw [e, nI_leI (by omega) (by omega)] at h1
  refine ⟨k, by omega, ?_, e⟩
  have : x = x - nI (1000 * cr) + nI (1000 * cr) := by
    apply Int32.toBitVec_inj.mp
    simp
  rw [this, e, nI_add, Nat.add_comm]
theorem sp_Non_spend (F : cc_ok h) {cr gv : Nat} {sp : Nat → Bool} {x : Int32} (N : cc_non h cr gv sp) (h1 : ∀ k, k < gv → x = nI (1000 * cr + k) → sp k = false → ∀ h', cd_ch (fun y => y = 75) h h' → cc_ok h' → cd_n h' = cd_n h → cc_non h' cr gv (fun j => if j = k then true else sp j) → Q (some (.int 1)) h') (h0 : ¬ tx_good cr gv sp x → Q (some (.int 0)) h) : cd_W X m_Non_spend kc ks 0 [some (.ref 74), some (.int x), none] [] h Q := by
  obtain ⟨n1, n2, n3, n4, n5⟩ := N
  refine g_Non_spend F ?_
  rw [n3, n4]
  have bad : ∀ k, k < gv → x = nI (1000 * cr + k) → x - nI (1000 * cr) = nI k := by
    intro k hk e
    rw [e, pk_sub (by omega)]
    congr 1
    omega
  refine ⟨fun t => h0 (fun ⟨k, hk, e, _⟩ => ?_), fun t => ⟨fun t2 => h0 (fun ⟨k, hk, e, _⟩ => ?_), fun t2 => ?_⟩⟩
  · rw [bad k hk e] at t
    exact nI_pos (by omega) t
  · rw [bad k hk e, nI_leI (by omega) (by omega)] at t2
    omega
  · obtain ⟨k, hk, e1, e2⟩ := cd_plc n1 n2 t t2
    rw [e2]
    refine ⟨vp_in_nI (by omega) (by decide), ?_⟩
    rw [nI_clamp (by omega), n5 k hk]
    refine ⟨fun t3 => ?_, fun t3 => h0 (fun ⟨k', hk', e', s'⟩ => ?_)⟩
    · have hsk : sp k = false := by
        cases hs : sp k with
        | false => rfl
        | true => rw [hs] at t3; exact absurd t3 (by decide)
      refine h1 k hk e1 hsk _ (cd_ch.si rfl) (F.of rfl rfl) rfl ⟨n1, n2, ?_, ?_, fun j hj => ?_⟩
      · rw [cd_i_si, if_neg (fun z => by omega)]; exact n3
      · rw [cd_i_si, if_neg (fun z => by omega)]; exact n4
      · rw [cd_i_si]
        show _ = if (if j = k then true else sp j) = true then (1 : Int32) else 0
        by_cases e : j = k
        · rw [if_pos ⟨rfl, e⟩, if_pos e]; rfl
        · rw [if_neg (fun z => e z.2), if_neg e]; exact n5 j hj
    · have : k' = k := by
        have := e1.symm.trans e'
        rw [nI_eq (by omega) (by omega)] at this
        omega
      subst this
      rw [s'] at t3
      exact t3 rfl
theorem sp_Mod_good (F : cm_ok h) {cr gv : Nat} {sp : Nat → Bool} {x : Int32} (N : cm_non h cr gv sp) (h1 : ∀ k, k < gv → x = nI (1000 * cr + k) → sp k = false → Q (some (.int 1)) h) (h0 : ¬ tx_good cr gv sp x → Q (some (.int 0)) h) : cd_W X m_Mod_good kc ks 0 [some (.ref 82), some (.int x), none] [] h Q := by
  obtain ⟨n1, n2, n3, n4, n5, n6⟩ := N
  refine g_Mod_good F ?_
  rw [n3, n4, show (1000 : Int32) = nI 1000 by decide, pk_mul]
  have bad : ∀ k, k < gv → x = nI (1000 * cr + k) → x - nI (1000 * cr) = nI k := by
    intro k hk e
    rw [e, pk_sub (by omega)]
    congr 1
    omega
  refine ⟨fun t => h0 (fun ⟨k, hk, e, _⟩ => ?_), fun _ => ⟨fun t => h0 (fun ⟨k, hk, e, _⟩ => ?_), fun t => ⟨fun t2 => h0 (fun ⟨k, hk, e, _⟩ => ?_), fun t2 => ?_⟩⟩⟩
  · rw [e] at t
    exact nI_pos (by omega) t
  · rw [bad k hk e] at t
    exact nI_pos (by omega) t
  · rw [bad k hk e, nI_leI (by omega) (by omega)] at t2
    omega
  · obtain ⟨k, hk, e1, e2⟩ := cd_plc n1 n2 t t2
    rw [e2]
    refine ⟨vp_in_nI (by omega) (by decide), ?_⟩
    rw [nI_clamp (by omega), n5 k (by omega)]
    refine ⟨fun t3 => h0 (fun ⟨k', hk', e', s'⟩ => ?_), fun t3 => h1 k hk e1 ?_⟩
    · have : k' = k := by
        have := e1.symm.trans e'
        rw [nI_eq (by omega) (by omega)] at this
        omega
      subst this
      rw [s'] at t3
      exact t3 rfl
    · cases hs : sp k with
      | false => rfl
      | true => rw [hs] at t3; exact absurd t3 (by decide)
end VSI
