section JTX
variable {X : cd_E} {kc ks : Nat} {h : cd_H} {Q : Option Value → cd_H → Prop}
theorem cd_b8 : ∀ c, c < 128 → vp_nar .byte (nI c).toInt8.toInt32 = nI c ∧ fits .byte (.int (nI c)) = true := by decide +kernel
theorem cd_i_cp (h : cd_H) (a0 sp a dp n b j : Nat) : cd_i (cd_cp h a0 sp a dp n) b j = if b = a ∧ dp ≤ j ∧ j < dp + n then cd_i h a0 (sp + (j - dp)) else cd_i h b j := rfl
def cc_sb (h : cd_H) (a b : Nat) (N : Nat → Nat) (m : Nat) : Prop := 64 ≤ a ∧ 64 ≤ b ∧ cd_k h a = some (.inl 14) ∧ cd_i h a 1 = 0 ∧ cd_i h a 3 = nI m ∧ cd_r h a 0 = some b ∧ cd_k h b = some (.inr (3, 16)) ∧ m ≤ 16 ∧ ∀ j, j < m → cd_i h b j = nI (N j) ∧ N j < 128
theorem sp_SB_init {a : Nat} {N : Nat → Nat} (ha : 64 ≤ a) (hk : cd_k h a = some (.inl 14)) (h3 : cd_i h a 3 = 0) (hq : ∀ h', cd_ch (fun x => x = a) h h' → cd_n h' = cd_n h + 1 → cc_sb h' a (cd_n h) N 0 → Q none h') : cd_W X m_SB_init_V (kc + 1) (ks + 16) 0 [some (.ref a)] [] h Q := by
  refine cd_W.k0 (fun _ hnone hn => ?_)
  have han : a < cd_n h := by
    by_cases z : cd_n h ≤ a
    · rw [hnone a z] at hk; cases hk
    · omega
  have hk' : cd_k (cd_new h (.inr (3, 16))) a = some (.inl 14) := by rw [cd_k_new, if_neg (by omega)]; exact hk
  refine g_SB_init_V (g_ASB_init (kc := 0) (ks := 0) ⟨16, by decide, by decide, hk', ha, rfl, hq _ ?_ rfl ⟨ha, hn, hk', ?_, ?_, ?_, ?_, by decide, fun j hj => by omega⟩⟩)
  · exact ((cd_ch.new (A := fun x => x = a)).tr (cd_ch.sr rfl)).tr (cd_ch.si rfl)
  · rw [cd_i_si, if_pos ⟨rfl, rfl⟩]
  · rw [cd_i_si, if_neg (fun z => by cases z.2), cd_i_sr, cd_i_new, if_neg (by omega), h3]
    rfl
  · rw [cd_r_si, cd_r_sr, if_pos ⟨rfl, rfl⟩]
  · show cd_k (cd_new h _) (cd_n h) = _
    rw [cd_k_new, if_pos rfl]
theorem cd_le0 {a b : Nat} (h : a ≤ b) (hb : b < 2 ^ 30) : nI a - nI b ≤ 0 := by
  rw [Int32.le_iff_toInt_le, pk_sub_toInt (by omega) hb]
  show (a : Int) - b ≤ 0
  omega
theorem sp_SB_append {a b m c : Nat} {N : Nat → Nat} (A : cc_sb h a b N m) (hm : m < 16) (hc : c < 128) (hq : ∀ h', cd_ch (fun x => x = a ∨ x = b) h h' → cd_n h' = cd_n h → cc_sb h' a b (fun j => if j = m then c else N j) (m + 1) → Q (some (.ref a)) h') : cd_W X m_SB_append_CLStringBuilder kc ks 0 [some (.ref a), some (.int (nI c))] [] h Q := by
  obtain ⟨a1, a2, a3, a4, a5, a6, a7, a8, a9⟩ := A
  have hab : a ≠ b := fun e => by rw [e, a7] at a3; cases a3
  refine g_SB_append_CLStringBuilder ⟨a3, g_ASB_append ⟨a3, g_ASB_ensureCapacityInternal ⟨a3, b, a6, 16, a7, fun _ => ⟨rfl, a3, g_ASB_isLatin1 ⟨a3, fun hx => absurd a4 hx, fun _ => ⟨_, rfl, fun hx => absurd hx (by decide), fun _ => g_SL1_canEncode ⟨fun hx => ?_, fun _ => ⟨_, rfl, fun hx => absurd hx (by decide), fun _ => ⟨a3, a1, b, a6, 16, a7, a2, ?_, _, rfl, ?_⟩⟩⟩⟩⟩⟩, fun hx => absurd ?_ hx⟩⟩⟩
  · rw [show (255 : Int32) = nI 255 by decide, nI_ltI (by decide) (by omega)] at hx
    omega
  · rw [a5]; exact vp_in_nI hm (by decide)
  · rw [a5, nI_clamp (by omega), nI_1, (cd_b8 c hc).1]
    refine hq _ ((cd_ch.si (A := fun x => x = a ∨ x = b) (Or.inl rfl)).tr (cd_ch.si (Or.inr rfl))) rfl ⟨a1, a2, a3, ?_, ?_, a6, a7, by omega, fun j hj => ?_⟩
    · rw [cd_i_si, if_neg (fun z => hab z.1), cd_i_si, if_neg (fun z => by cases z.2)]; exact a4
    · rw [cd_i_si, if_neg (fun z => hab z.1), cd_i_si, if_pos ⟨rfl, rfl⟩]
    · show cd_i (cd_si (cd_si h a 3 (nI (m + 1))) b m (nI c)) b j = nI (if j = m then c else N j) ∧ (if j = m then c else N j) < 128
      rw [cd_i_si]
      by_cases e : j = m
      · subst e
        rw [if_pos ⟨rfl, rfl⟩, if_pos rfl]
        exact ⟨rfl, hc⟩
      · rw [if_neg (fun z => e z.2), if_neg e, cd_i_si, if_neg (fun z => hab z.1.symm)]
        exact a9 j (by omega)
  · rw [a5, a4, sc_shr0 (by decide), nI_1]
    exact cd_le0 (by omega) (by decide)
theorem sp_copyOfRange {b m : Nat} {N : Nat → Nat} (hk : cd_k h b = some (.inr (3, 16))) (h64 : 64 ≤ b) (hb : b < cd_n h) (hn : 64 ≤ cd_n h) (hm : m ≤ 12) (hN : ∀ j, j < m → cd_i h b j = nI (N j) ∧ N j < 128) (hq : Q (some (.ref (cd_n h))) (cd_cp (cd_new h (.inr (3, m))) b 0 (cd_n h) 0 m)) : cd_W X m_Arr_copyOfRange (kc + 1) (ks + 12) 0 [some (.ref b), some (.int 0), some (.int (nI m))] [] h Q := by
  have e0 : nI m - 0 = nI m := pk_sub (b := 0) (Nat.zero_le m)
  have e16 : nI 16 - 0 = nI 16 := by decide
  have hk' : cd_k (cd_new h (.inr (3, m))) b = some (.inr (3, 16)) := by rw [cd_k_new, if_neg (by omega)]; exact hk
  refine g_Arr_copyOfRange ⟨fun hx => absurd rfl hx, fun _ => ⟨16, hk, fun hx => ?_, fun _ => g_Arr_copyOfRangeByte (kc := 0) (ks := 0) (g_Arr_checkLength ⟨fun _ => ⟨rfl, m, e0, hm, 16, hk', ?_⟩, fun hx => absurd (nI_pos' (by omega)) hx⟩)⟩⟩
  · rw [nI_eq (by omega) (by decide)] at hx
    omega
  · rw [e0, e16, if_pos (nI_lt (by omega) (by decide))]
    refine cd_copy (idx := 150) (sp := 0) (dp := 0) (n := m) (n1 := m) (S := []) (z := 3) (t := .byte) d_Arr_copyOfRangeByte_27 jw_link jw_nat jw_stat jw_init rfl hk' (by rw [cd_k_new, if_pos rfl]) (by omega) h64 (by omega) (by omega) (by decide) (by omega) (fun i hi => Or.inl ⟨nI (N i), ?_, ?_, rfl⟩) (by decide) (by decide) (Nat.le_of_ble_eq_true rfl) ?_
    · show Value.int (cd_i (cd_new h _) b (0 + i)) = _
      rw [cd_i_new, if_neg (by omega), Nat.zero_add, (hN i hi).1]
    · exact (cd_b8 _ (hN i hi).2).2
    · refine cd_aload (i := 4) (v := .ref (cd_n h)) d_Arr_copyOfRangeByte_30 rfl (cd_isr_ref _) ?_
      exact cd_aret d_Arr_copyOfRangeByte_32 rfl (Or.inr ⟨_, rfl⟩) (cd_isr_ref _) ⟨_, rfl, hq⟩
theorem sp_SB_toString {a b m : Nat} {N : Nat → Nat} (A : cc_sb h a b N m) (hm : m ≤ 12) (hq : ∀ h', cd_ch (fun _ => False) h h' → cd_n h' = cd_n h + 2 → cc_str h' (cd_n h) N m → cd_r h' (cd_n h) 0 = some (cd_n h + 1) → Q (some (.ref (cd_n h))) h') : cd_W X m_SB_toString (kc + 2) (ks + 16) 0 [some (.ref a)] [] h Q := by
  refine cd_W.k0 (fun _ hnone hn => ?_)
  obtain ⟨a1, a2, a3, a4, a5, a6, a7, a8, a9⟩ := A
  have hbd : ∀ x q, cd_k h x = some q → x < cd_n h := fun x q hx => by
    by_cases z : cd_n h ≤ x
    · rw [hnone x z] at hx; cases hx
    · omega
  have han := hbd _ _ a3
  have hbn := hbd _ _ a7
  have nk : ∀ x, x < cd_n h → cd_k (cd_new h (.inl 13)) x = cd_k h x := fun x hx => by rw [cd_k_new, if_neg (by omega)]
  have ni : ∀ x j, x < cd_n h → cd_i (cd_new h (.inl 13)) x j = cd_i h x j := fun x j hx => by rw [cd_i_new, if_neg (by omega)]
  have nr : ∀ x j, x < cd_n h → cd_r (cd_new h (.inl 13)) x j = cd_r h x j := fun x j hx => by rw [cd_r_new, if_neg (by omega)]
  have k14 : cd_k (cd_new h (.inl 13)) a = some (.inl 14) := (nk a han).trans a3
  have k13 : cd_k (cd_new h (.inl 13)) (cd_n h) = some (.inl 13) := by rw [cd_k_new, if_pos rfl]
  have hgv : cd_r (cd_new h (.inl 13)) a 0 = some b := (nr a 0 han).trans a6
  have hlen : cd_i (cd_new h (.inl 13)) a 3 = nI m := (ni a 3 han).trans a5
  have hlat : cd_i (cd_new h (.inl 13)) a 1 = 0 := (ni a 1 han).trans a4
  refine g_SB_toString (g_Str_init_LStringBuilderV (kc := 0) (ks := 0) (g_Str_init_LAbstractStringBuilderLVoidV (kc := 0) (ks := 0) (p2 := none) ⟨k14, g_ASB_getValue ⟨k14, b, by rw [hgv]; rfl, k14, g_SB_length ⟨k14, g_ASB_length ⟨k14, _, rfl, _, rfl, k14, g_ASB_isLatin1 ⟨k14, fun hx => absurd hlat hx, fun _ => ⟨_, rfl, fun hx => absurd hx (by decide), fun _ => ⟨k13, hn, ?_⟩⟩⟩⟩⟩⟩⟩))
  rw [hlen]
  have hbb : cd_k (cd_si (cd_new h (.inl 13)) (cd_n h) 1 0) b = some (.inr (3, 16)) := (nk b hbn).trans a7
  refine sp_copyOfRange (kc := 0) (ks := 0) (N := N) hbb a2 (show b < cd_n h + 1 by omega) (show 64 ≤ cd_n h + 1 by omega) hm (fun j hj => ?_) ⟨_, rfl, ?_, rfl, rfl, ?_⟩
  · rw [cd_i_si, if_neg (fun z => by omega), ni b j hbn]
    exact a9 j hj
  · show (if cd_n h = cd_n h + 1 then _ else cd_k (cd_new h (.inl 13)) (cd_n h)) = _
    rw [if_neg (by omega)]
    exact k13
  · have nn : ∀ x, x < cd_n h → ¬ (x = cd_n h + 1) := fun x hx => by omega
    refine hq _ ⟨?_, fun x hx => ?_, fun x hx _ => ⟨fun j => ?_, fun j => ?_, fun j => ?_⟩⟩ rfl ⟨?_, ?_, by omega, cd_n h + 1, ?_, ?_, fun j hj => ?_⟩ ?_
    · show cd_n h ≤ cd_n h + 1 + 1
      omega
    · show (if x = cd_n h + 1 then _ else cd_k (cd_new h (.inl 13)) x) = _
      rw [if_neg (nn x hx), nk x hx]
    · show (if x = cd_n h + 1 ∧ 0 ≤ j ∧ j < 0 + m then _ else if x = cd_n h + 1 then _ else (if x = cd_n h ∧ j = 1 then _ else cd_i (cd_new h (.inl 13)) x j)) = _
      rw [if_neg (fun z => nn x hx z.1), if_neg (nn x hx), if_neg (fun z => by omega), ni x j hx]
    · show (if x = cd_n h + 1 ∧ 0 ≤ j ∧ j < 0 + m then _ else if x = cd_n h + 1 then _ else cd_l (cd_new h (.inl 13)) x j) = _
      rw [if_neg (fun z => nn x hx z.1), if_neg (nn x hx), cd_l_new, if_neg (by omega)]
    · show (if x = cd_n h ∧ j = 0 then _ else (if x = cd_n h + 1 ∧ 0 ≤ j ∧ j < 0 + m then _ else if x = cd_n h + 1 then _ else cd_r (cd_new h (.inl 13)) x j)) = _
      rw [if_neg (fun z => by omega), if_neg (fun z => nn x hx z.1), if_neg (nn x hx), nr x j hx]
    · show (if cd_n h = cd_n h + 1 then _ else cd_k (cd_new h (.inl 13)) (cd_n h)) = _
      rw [if_neg (by omega)]
      exact k13
    · rw [cd_i_sr, cd_i_cp, if_neg (fun z => Nat.succ_ne_self (cd_n h) z.1.symm), cd_i_new, if_neg (fun z => Nat.succ_ne_self (cd_n h) z.symm), cd_i_si, if_pos ⟨rfl, rfl⟩]
    · show (if cd_n h = cd_n h ∧ 0 = 0 then _ else _) = _
      rw [if_pos ⟨rfl, rfl⟩]
      rfl
    · show (if cd_n h + 1 = cd_n h + 1 then _ else _) = _
      rw [if_pos rfl]
    · show (if cd_n h + 1 = cd_n h + 1 ∧ 0 ≤ j ∧ j < 0 + m then (if b = cd_n h + 1 then _ else (if b = cd_n h ∧ 0 + (j - 0) = 1 then _ else cd_i (cd_new h (.inl 13)) b (0 + (j - 0)))) else _) = _ ∧ _
      rw [if_pos ⟨rfl, by omega, by omega⟩, if_neg (nn b hbn), if_neg (fun z => by omega), ni b _ hbn, show 0 + (j - 0) = j by omega]
      exact a9 j hj
    · show (if cd_n h = cd_n h ∧ 0 = 0 then _ else _) = _
      rw [if_pos ⟨rfl, rfl⟩]
      rfl
end JTX
