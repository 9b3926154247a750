section JSP
variable {X : cd_E} {kc ks : Nat} {h : cd_H} {Q : Option Value → cd_H → Prop}
theorem cd_W.k0 {M : cd_M} {pc : Nat} {L : List (Option Value)} {S : List Value} (k : (∀ a, a < 64 → cd_k h a = cd_k0 a) → (∀ a, cd_n h ≤ a → cd_k h a = none) → 64 ≤ cd_n h → cd_W X M kc ks pc L S h Q) : cd_W X M kc ks pc L S h Q := by
  intro p e R s m args below meth c H locs cells slots ls Qf F a1 a2 hR hs hl hn ret
  exact k hR.2.2.2.2.2 hR.2.2.1 hR.1 p e R s m args below meth c H locs cells slots ls Qf F a1 a2 hR hs hl hn ret
def cc_str (h : cd_H) (a : Nat) (N : Nat → Nat) (len : Nat) : Prop := cd_k h a = some (.inl 13) ∧ cd_i h a 1 = 0 ∧ len < 2 ^ 30 ∧ ∃ b, cd_r h a 0 = some b ∧ cd_k h b = some (.inr (3, len)) ∧ ∀ j, j < len → cd_i h b j = nI (N j) ∧ N j < 128
theorem sp_Str_length {a len : Nat} {N : Nat → Nat} (A : cc_str h a N len) (hq : Q (some (.int (nI len))) h) : cd_W X m_Str_length kc ks 0 [some (.ref a)] [] h Q := by
  obtain ⟨hk, hc, hl, b, hr, hb, hN⟩ := A
  refine g_Str_length ⟨hk, b, hr, len, hb, g_Str_coder ⟨hk, ?_, _, rfl, ?_⟩⟩
  · rw [hc]; rfl
  · rw [hc, sc_shr0 (by omega)]
    exact hq
theorem cd_lat {m : Nat} (h : m < 128) : (((nI m) &&& 255).toUInt32 % 65536).toInt32 = nI m := by
  rw [pk_andN (by omega) 8 (by decide), pk_char, pk_tn (by omega)]
  congr 1
  omega
theorem sp_Pre_checkIndex {j n : Nat} {o : Option Nat} (hj : j < n) (hn : n < 2 ^ 31) (hq : Q (some (.int (nI j))) h) : cd_W X m_Pre_checkIndex kc ks 0 [some (.int (nI j)), some (.int (nI n)), some (va_rf o)] [] h Q :=
  g_Pre_checkIndex ⟨fun hc => absurd hc (nI_pos (by omega)), fun _ => ⟨fun _ => hq, fun hc => absurd (nI_lt hj hn) hc⟩⟩
theorem sp_Str_charAt {a len j : Nat} {N : Nat → Nat} (A : cc_str h a N len) (hj : j < len) (hq : Q (some (.int (nI (N j)))) h) : cd_W X m_Str_charAt kc ks 0 [some (.ref a), some (.int (nI j))] [] h Q := by
  obtain ⟨hk, hc, hl, b, hr, hb, hN⟩ := A
  obtain ⟨e1, e2⟩ := hN j hj
  have hn := (pk_charN (q := N j) (by omega)).1
  refine g_Str_charAt ⟨hk, g_Str_isLatin1 ⟨hk, fun hn => absurd hc hn, fun _ => ⟨_, rfl, fun h0 => absurd h0 (by decide), fun _ => ⟨hk, b, hr, g_SL1_charAt ⟨len, hb, g_Str_checkIndex (fun o => sp_Pre_checkIndex hj (by omega) ⟨_, rfl, rfl, len, hb, vp_in_nI hj (by omega), ?_⟩)⟩⟩⟩⟩⟩
  rw [nI_clamp (by omega), e1, cd_lat e2]
  exact ⟨hn, _, rfl, hn, hq⟩
theorem sp_SL1_equals_9 {a b len : Nat} {N N' : Nat → Nat} (ha : cd_k h a = some (.inr (3, len))) (hb : cd_k h b = some (.inr (3, len))) (hl : len < 2 ^ 30) (hN : ∀ j, j < len → cd_i h a j = nI (N j) ∧ N j < 128) (hN' : ∀ j, j < len → cd_i h b j = nI (N' j) ∧ N' j < 128) (h1 : (∀ j, j < len → N j = N' j) → Q (some (.int 1)) h) (h0 : ¬ (∀ j, j < len → N j = N' j) → Q (some (.int 0)) h) : ∀ i j, i + j = len → (∀ u, u < j → N u = N' u) → cd_W X m_SL1_equals kc ks 9 [some (.ref a), some (.ref b), some (.int (nI j))] [] h Q := by
  intro i
  induction i with
  | zero =>
    intro j hj hu
    have e : j = len := by omega
    subst e
    exact g_SL1_equals_9 ⟨_, ha, fun _ => h1 hu, fun hc => absurd (nI_le (Nat.le_refl _) (by omega)) hc⟩
  | succ i ih =>
    intro j hj hu
    refine g_SL1_equals_9 ⟨_, ha, fun hc => ?_, fun _ => ⟨vp_in_nI (by omega) (by omega), _, hb, vp_in_nI (by omega) (by omega), ?_⟩⟩
    · rw [nI_leI (by omega) (by omega)] at hc
      omega
    · obtain ⟨e1, e2⟩ := hN j (by omega)
      obtain ⟨f1, f2⟩ := hN' j (by omega)
      rw [nI_clamp (by omega), e1, f1, nI_eq (by omega) (by omega), nI_1]
      refine ⟨fun hc => ih (j + 1) (by omega) (fun u hu2 => ?_), fun hc => h0 (fun z => hc (z j (by omega)))⟩
      by_cases e : u = j
      · subst e; exact hc
      · exact hu u (by omega)
theorem sp_Str_equals {a b len len' : Nat} {N N' : Nat → Nat} (A : cc_str h a N len) (B : cc_str h b N' len') (ha : 64 ≤ a) (h1 : (len = len' ∧ ∀ j, j < len → N j = N' j) → Q (some (.int 1)) h) (h0 : ¬ (len = len' ∧ ∀ j, j < len → N j = N' j) → Q (some (.int 0)) h) : cd_W X m_Str_equals kc ks 0 [some (.ref a), some (.ref b), none] [] h Q := by
  obtain ⟨hk, hc, hl, c, hr, hb, hN⟩ := A
  obtain ⟨hk', hc', hl', c', hr', hb', hN'⟩ := B
  refine g_Str_equals ⟨fun _ _ e1 _ => Or.inr (Or.inl (by cases e1; exact ha)), fun hne => ⟨hk', hk, fun hx => absurd (hc.trans hc'.symm) hx, fun _ => ⟨c, hr, c', hr', g_SL1_equals ⟨len, hb, len', hb', fun hx => ⟨_, rfl, fun _ => ?_, fun hx2 => absurd rfl hx2⟩, fun hx => ?_⟩⟩⟩, fun he => ?_⟩
  · rw [nI_eq (by omega) (by omega)] at hx
    exact h0 (fun z => hx z.1)
  · rw [nI_eq (by omega) (by omega)] at hx
    subst hx
    exact sp_SL1_equals_9 hb hb' hl hN hN' (fun z => ⟨_, rfl, fun hz => absurd hz (by decide), fun _ => h1 ⟨rfl, z⟩⟩) (fun z => ⟨_, rfl, fun _ => h0 (fun y => z y.2), fun hz => absurd rfl hz⟩) len 0 (by omega) (fun u hu => by omega)
  · cases he
    cases hr.symm.trans hr'
    cases hb.symm.trans hb'
    refine h1 ⟨rfl, fun j hj => ?_⟩
    obtain ⟨e1, e2⟩ := hN j hj
    obtain ⟨f1, f2⟩ := hN' j hj
    have := e1.symm.trans f1
    rw [nI_eq (by omega) (by omega)] at this
    exact this
def cc_lst (h : cd_H) (a : Nat) (l : List Nat) (b cap : Nat) : Prop := 64 ≤ a ∧ cd_k h a = some (.inl 12) ∧ cd_i h a 1 = nI l.length ∧ cd_r h a 0 = some b ∧ cd_k h b = some (.inr (5, cap)) ∧ l.length ≤ cap ∧ ((b = 0 ∧ cap = 0) ∨ (64 ≤ b ∧ (cap = 10 ∨ cap = 15 ∨ cap = 22 ∨ cap = 33))) ∧ ∀ j, j < l.length → cd_r h b j = l[j]?
theorem sp_AL_size {a b cap : Nat} {l : List Nat} (A : cc_lst h a l b cap) (hq : Q (some (.int (nI l.length))) h) : cd_W X m_AL_size kc ks 0 [some (.ref a)] [] h Q :=
  g_AL_size ⟨A.2.1, by rw [A.2.2.1]; exact hq⟩
theorem sp_AL_get {a b cap j v : Nat} {l : List Nat} (A : cc_lst h a l b cap) (hj : l[j]? = some v) (hq : Q (some (.ref v)) h) : cd_W X m_AL_get kc ks 0 [some (.ref a), some (.int (nI j))] [] h Q := by
  obtain ⟨a1, a2, a3, a4, a5, a6, a7, a8⟩ := A
  have hlt : j < l.length := (List.getElem?_eq_some_iff.mp hj).1
  have hcap : cap ≤ 33 := by omega
  refine g_AL_get ⟨a2, ?_⟩
  rw [a3]
  refine g_Obj_checkIndex (sp_Pre_checkIndex (o := none) hlt (by omega) ⟨_, rfl, _, rfl, a2, g_AL_elementData ⟨a2, b, a4, cap, a5, vp_in_nI (by omega) (by omega), ?_⟩⟩)
  rw [nI_clamp (by omega), a8 j hlt, hj]
  exact ⟨some v, rfl, hq⟩
def cd_ch (A : Nat → Prop) (h h' : cd_H) : Prop := cd_n h ≤ cd_n h' ∧ (∀ x, x < cd_n h → cd_k h' x = cd_k h x) ∧ ∀ x, x < cd_n h → ¬ A x → (∀ j, cd_i h' x j = cd_i h x j) ∧ (∀ j, cd_l h' x j = cd_l h x j) ∧ ∀ j, cd_r h' x j = cd_r h x j
theorem cd_ch.rf (A : Nat → Prop) (h : cd_H) : cd_ch A h h := ⟨Nat.le_refl _, fun _ _ => rfl, fun _ _ _ => ⟨fun _ => rfl, fun _ => rfl, fun _ => rfl⟩⟩
theorem cd_ch.tr {A : Nat → Prop} {h h1 h2 : cd_H} (a : cd_ch A h h1) (b : cd_ch A h1 h2) : cd_ch A h h2 :=
  ⟨Nat.le_trans a.1 b.1, fun x hx => (b.2.1 x (Nat.lt_of_lt_of_le hx a.1)).trans (a.2.1 x hx), fun x hx hA => by
    obtain ⟨p1, p2, p3⟩ := a.2.2 x hx hA
    obtain ⟨q1, q2, q3⟩ := b.2.2 x (Nat.lt_of_lt_of_le hx a.1) hA
    exact ⟨fun j => (q1 j).trans (p1 j), fun j => (q2 j).trans (p2 j), fun j => (q3 j).trans (p3 j)⟩⟩
theorem cd_ch.si {A : Nat → Prop} {h : cd_H} {a k : Nat} {x : Int32} (hA : A a) : cd_ch A h (cd_si h a k x) :=
  ⟨Nat.le_refl _, fun _ _ => rfl, fun y _ hy => ⟨fun j => by rw [cd_i_si, if_neg (fun z => hy (by rw [z.1]; exact hA))], fun _ => rfl, fun _ => rfl⟩⟩
theorem cd_ch.sr {A : Nat → Prop} {h : cd_H} {a k : Nat} {x : Option Nat} (hA : A a) : cd_ch A h (cd_sr h a k x) :=
  ⟨Nat.le_refl _, fun _ _ => rfl, fun y _ hy => ⟨fun _ => rfl, fun _ => rfl, fun j => by rw [cd_r_sr, if_neg (fun z => hy (by rw [z.1]; exact hA))]⟩⟩
theorem cd_ch.new {A : Nat → Prop} {h : cd_H} {q : Nat ⊕ (Nat × Nat)} : cd_ch A h (cd_new h q) :=
  ⟨Nat.le_succ _, fun x hx => by rw [cd_k_new, if_neg (by omega)], fun x hx _ => ⟨fun j => by rw [cd_i_new, if_neg (by omega)], fun j => by rw [cd_l_new, if_neg (by omega)], fun j => by rw [cd_r_new, if_neg (by omega)]⟩⟩
end JSP
