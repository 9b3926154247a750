def cm_84 (h h' : cd_H) : Prop := cd_n h' = cd_n h ∧ cd_k h' = cd_k h ∧ cd_r h' = cd_r h ∧ cd_l h' = cd_l h ∧ ∀ a j, a ≠ 84 → cd_i h' a j = cd_i h a j
theorem cm_84.rf (h : cd_H) : cm_84 h h := ⟨rfl, rfl, rfl, rfl, fun _ _ _ => rfl⟩
theorem cm_84.tr {h h1 h2 : cd_H} (a : cm_84 h h1) (b : cm_84 h1 h2) : cm_84 h h2 := ⟨b.1.trans a.1, b.2.1.trans a.2.1, b.2.2.1.trans a.2.2.1, b.2.2.2.1.trans a.2.2.2.1, fun x j hx => (b.2.2.2.2 x j hx).trans (a.2.2.2.2 x j hx)⟩
theorem cm_84.si (h : cd_H) (k : Nat) (x : Int32) : cm_84 h (cd_si h 84 k x) := ⟨rfl, rfl, rfl, rfl, fun a j hx => by rw [cd_i_si, if_neg (fun z => hx z.1)]⟩
theorem cm_txt.si84 {h : cd_H} {T : Nat → Nat} {n : Nat} (Z : cm_txt h T n) (k : Nat) (x : Int32) : cm_txt (cd_si h 84 k x) T n := ⟨Z.1, by rw [cd_i_si, if_neg (by omega)]; exact Z.2.1, fun j hj => by rw [cd_i_si, if_neg (by omega)]; exact Z.2.2.1 j hj, Z.2.2.2⟩
def cm_stk (h : cd_H) (stk : List Nat) : Prop := ∀ i b, stk[i]? = some b → cd_i h 84 (stk.length - 1 - i) = nI b ∧ (b = 91 ∨ b = 123)
theorem cm_stk.tail {h : cd_H} {b : Nat} {r : List Nat} (S : cm_stk h (b :: r)) : cm_stk h r := by
  intro i c hc
  have := S (i + 1) c (by simpa using hc)
  simp only [List.length_cons] at this
  rw [show r.length + 1 - 1 - (i + 1) = r.length - 1 - i by omega] at this
  exact this
theorem cm_stk.push {h : cd_H} {c : Nat} {stk : List Nat} (S : cm_stk h stk) (hc : c = 91 ∨ c = 123) : cm_stk (cd_si h 84 stk.length (nI c)) (c :: stk) := by
  intro i b hb
  cases i with
  | zero =>
    simp at hb
    subst hb
    refine ⟨?_, hc⟩
    simp [cd_i_si]
  | succ i =>
    have hb' : stk[i]? = some b := by simpa using hb
    have hl : i < stk.length := (List.getElem?_eq_some_iff.mp hb').1
    have := S i b hb'
    refine ⟨?_, this.2⟩
    rw [cd_i_si, if_neg (by simp; omega)]
    rw [show (c :: stk).length - 1 - (i + 1) = stk.length - 1 - i by simp; omega]
    exact this.1
theorem cd_narc {c : Nat} (hc : c < 65536) : vp_nar .char (nI c) = nI c := by
  have := (pk_charN hc).1
  unfold vp_nar
  rw [this]
theorem tx_Me {T : Nat → Nat} {n s p : Nat} {stk : List Nat} (hp : p < n) (he : (T p = 93 ∧ (s = 1 ∨ s = 2)) ∨ (T p = 125 ∧ (s = 1 ∨ s = 3))) : tx_M T n stk s p = match stk with
    | [] => false
    | b :: r => if b + 2 = T p then tx_M T n r 1 (p + 1) else false := by rw [tx_M.eq_def T n stk s p, if_pos hp, if_pos he]; cases stk <;> rfl
theorem tx_Mc {T : Nat → Nat} {n s p : Nat} {stk : List Nat} (hp : p < n) (h1 : s = 1) (h2 : ¬ T p = 93) (h3 : ¬ T p = 125) : tx_M T n stk s p = if T p = 44 then (match stk with
    | [] => false
    | b :: r => tx_M T n (b :: r) (if b = 123 then 4 else 0) (p + 1)) else false := by rw [tx_M.eq_def T n stk s p, if_pos hp, if_neg (by omega), if_pos h1]; cases stk <;> rfl
theorem tx_Mk {T : Nat → Nat} {n s p : Nat} {stk : List Nat} (hp : p < n) (h1 : 2 < s) (h2 : ¬ (T p = 125 ∧ s = 3)) : tx_M T n stk s p = match tx_s T n p with
    | none => false
    | some e => if p < e + 1 then (if e < n ∧ T e = 58 then tx_M T n stk 0 (e + 1) else false) else false := by rw [tx_M.eq_def T n stk s p, if_pos hp, if_neg (by omega), if_neg (by omega), if_pos h1]; cases tx_s T n p <;> rfl
theorem tx_Mv {T : Nat → Nat} {n s p : Nat} {stk : List Nat} (hp : p < n) (hss : s = 0 ∨ (s = 2 ∧ ¬ T p = 93)) (h1 : ¬ T p = 91) (h2 : ¬ T p = 123) : tx_M T n stk s p = match (if T p = 34 then tx_s T n p else tx_m T n p) with
    | none => false
    | some q => if p < q then tx_M T n stk 1 q else false := by rw [tx_M.eq_def T n stk s p, if_pos hp, if_neg (by omega), if_neg (by omega), if_neg (by omega), if_neg (by omega)]; cases (if T p = 34 then tx_s T n p else tx_m T n p) <;> rfl
def tx_vE (T : Nat → Nat) (n : Nat) (stk : List Nat) (p : Nat) (o : Option Nat) : Bool := match o with
  | none => false
  | some q => if p < q then tx_M T n stk 1 q else false
section MOB
variable {X : cd_E} {kc ks : Nat} {Q : Option Value → cd_H → Prop} {T : Nat → Nat} {n : Nat}
def tx_B (T : Nat → Nat) (n : Nat) (b : Bool) : Int32 := if b = true ∧ 0 < n ∧ T 0 = 123 then 1 else 0
theorem tx_B_false : tx_B T n false = 0 := by simp [tx_B]
set_option maxHeartbeats 4000000 in
theorem sp_Mod_isObject_6 : ∀ (m p s : Nat) (stk : List Nat) (h : cd_H), n - p ≤ m → p ≤ n → s ≤ 4 → stk.length ≤ 4 → cm_ok h → cm_txt h T n → cm_stk h stk → (∀ h', cm_84 h h' → Q (some (.int (tx_B T n (tx_M T n stk s p)))) h') → cd_W X m_Mod_isObject kc ks 6 [some (.ref 82), some (.int (nI stk.length)), some (.int (nI s)), some (.int (nI p)), none, none, none] [] h Q := by
  intro m
  induction m with
  | zero =>
    intro p s stk h hm hpn hs hl F Z S hq
    have z1 := Z.1
    have hp : ¬ p < n := by omega
    rw [tx_M.eq_def T n stk s p, if_neg hp] at hq
    refine g_Mod_isObject_6 F ⟨fun _ => ⟨fun h1 => ?_, fun h1 => ⟨fun h2 => ?_, fun h2 => ?_⟩⟩, fun hc => absurd ?_ hc⟩
    · have h9 : ¬ stk = [] := fun z => h1 (by rw [z]; rfl)
      have h8 := hq h (cm_84.rf h)
      rw [show (decide (stk = []) && decide (s = 1)) = false by simp [h9], tx_B_false] at h8
      exact h8
    · have h9 : ¬ s = 1 := fun z => h2 (by rw [z]; decide)
      have h8 := hq h (cm_84.rf h)
      rw [show (decide (stk = []) && decide (s = 1)) = false by simp [h9], tx_B_false] at h8
      exact h8
    · rw [show (0 : Int32) = nI 0 from by decide, nI_eq (by omega) (by decide)] at h1
      rw [show (1 : Int32) = nI 1 from by decide, nI_eq (by omega) (by decide)] at h2
      have hnil : stk = [] := List.length_eq_zero_iff.mp h1
      rw [show (0 : Int32) = nI 0 from by decide]
      refine sp_Mod_at F Z (by decide) ⟨_, rfl, F, fun h3 => ?_, fun h3 => ?_⟩
      · rw [show (123 : Int32) = nI 123 from by decide, nI_eq (by have := tx_at_lt Z 0; omega) (by decide), tx_at] at h3
        have h4 : ¬ (0 < n ∧ T 0 = 123) := fun z => h3 (by rw [if_pos z.1]; exact z.2)
        rw [tx_B, if_neg (fun z => h4 z.2)] at hq
        exact hq h (cm_84.rf h)
      · rw [show (123 : Int32) = nI 123 from by decide, nI_eq (by have := tx_at_lt Z 0; omega) (by decide), tx_at] at h3
        have h4 : 0 < n ∧ T 0 = 123 := by
          by_cases h0 : 0 < n
          · rw [if_pos h0] at h3; exact ⟨h0, h3⟩
          · rw [if_neg h0] at h3; omega
        rw [tx_B, if_pos ⟨by simp [hnil, h2], h4⟩] at hq
        exact hq h (cm_84.rf h)
    · rw [Z.2.1, nI_leI (by omega) (by omega)]
      omega
  | succ m ih =>
    intro p s stk h hm hpn hs hl F Z S hq
    by_cases hp : p < n
    case neg => exact ih p s stk h (by omega) hpn hs hl F Z S hq
    have z1 := Z.1
    have hT := Z.2.2.2 p hp
    have q0 : tx_M T n stk s p = false → Q (some (.int 0)) h := fun e => by
      have := hq h (cm_84.rf h)
      rw [e, tx_B_false] at this
      exact this
    have kk : ∀ (c : Nat) (x : Int32), x = nI c → c < 2 ^ 31 → (nI (T p) = x) = (T p = c) := fun c x e hc => by rw [e]; exact propext (nI_eq (by omega) hc)
    have ss : ∀ (c : Nat) (x : Int32), x = nI c → c < 2 ^ 31 → (nI s = x) = (s = c) := fun c x e hc => by rw [e]; exact propext (nI_eq (by omega) hc)
    have dd : ∀ (c : Nat) (x : Int32), x = nI c → c < 2 ^ 31 → (nI stk.length = x) = (stk.length = c) := fun c x e hc => by rw [e]; exact propext (nI_eq (by omega) hc)
    have sle : (nI s ≤ 2) = (s ≤ 2) := by rw [show (2 : Int32) = nI 2 from by decide]; exact propext (nI_leI (by omega) (by decide))
    have go : ∀ (s' p' : Nat) (stk' : List Nat) (h' : cd_H), p < p' → p' ≤ n → s' ≤ 4 → stk'.length ≤ 4 → cm_84 h h' → cm_ok h' → cm_txt h' T n → cm_stk h' stk' → tx_M T n stk s p = tx_M T n stk' s' p' → cd_W X m_Mod_isObject kc ks 6 [some (.ref 82), some (.int (nI stk'.length)), some (.int (nI s')), some (.int (nI p')), none, none, none] [] h' Q :=
      fun s' p' stk' h' a1 a2 a3 a4 a5 a6 a7 a8 a9 => ih p' s' stk' h' (by omega) a2 a3 a4 a6 a7 a8 (fun h'' e => by rw [← a9]; exact hq h'' (a5.tr e))
    have pop : ∀ b : Nat, b + 2 = T p → (b = 91 ∨ b = 123) → ((T p = 93 ∧ (s = 1 ∨ s = 2)) ∨ (T p = 125 ∧ (s = 1 ∨ s = 3))) → ((stk.length = 0 → Q (some (.int 0)) h) ∧ (¬ stk.length = 0 → (vp_in (nI stk.length - 1) 4 ∧ ((cd_i h 84 (nI stk.length - 1).toNatClampNeg = nI b → cd_W X m_Mod_isObject kc ks 6 [some (.ref 82), some (.int (nI stk.length + (-1))), some (.int 1), some (.int (nI p + 1)), none, none, none] [] h Q) ∧ (¬ cd_i h 84 (nI stk.length - 1).toNatClampNeg = nI b → Q (some (.int 0)) h))))) := by
      intro b hb hb2 he
      have hM := tx_Me (stk := stk) hp he
      cases stk with
      | nil => exact ⟨fun _ => q0 hM, fun hc => absurd rfl hc⟩
      | cons c r =>
        have hS0 := S 0 c rfl
        simp only [List.length_cons, Nat.add_sub_cancel, Nat.sub_zero] at hS0
        refine ⟨fun hc => by simp at hc, fun _ => ?_⟩
        have e1 : nI (c :: r).length - 1 = nI r.length := by rw [List.length_cons, nI_pred]
        have e2 : nI (c :: r).length + (-1) = nI r.length := by rw [← Int32.sub_eq_add_neg, e1]
        simp only [List.length_cons] at hl
        rw [e1, e2, nI_clamp (by omega), hS0.1]
        refine ⟨vp_in_nI (by omega) (by decide), fun hc => ?_, fun hc => q0 ?_⟩
        · rw [nI_eq (by omega) (by omega)] at hc
          rw [nI_1, show (1 : Int32) = nI 1 from by decide]
          refine go 1 (p + 1) r h (by omega) (by omega) (by decide) (by omega) (cm_84.rf h) F Z S.tail ?_
          rw [hM]
          simp only
          rw [if_pos (by omega)]
        · rw [nI_eq (by omega) (by omega)] at hc
          rw [hM]
          simp only
          rw [if_neg (by omega)]
    have comma : s = 1 → ¬ T p = 93 → ¬ T p = 125 → ((¬ T p = 44 → Q (some (.int 0)) h) ∧ (T p = 44 → ((¬ stk.length = 0 → (vp_in (nI stk.length - 1) 4 ∧ ((¬ cd_i h 84 (nI stk.length - 1).toNatClampNeg = 123 → cd_W X m_Mod_isObject kc ks 6 [some (.ref 82), some (.int (nI stk.length)), some (.int 0), some (.int (nI p + 1)), none, none, none] [] h Q) ∧ (cd_i h 84 (nI stk.length - 1).toNatClampNeg = 123 → cd_W X m_Mod_isObject kc ks 6 [some (.ref 82), some (.int (nI stk.length)), some (.int 4), some (.int (nI p + 1)), none, none, none] [] h Q)))) ∧ (stk.length = 0 → Q (some (.int 0)) h)))) := by
      intro h1 h2 h3
      have hM := tx_Mc (stk := stk) hp h1 h2 h3
      refine ⟨fun hc => q0 (by rw [hM, if_neg hc]), fun hc => ?_⟩
      rw [if_pos hc] at hM
      cases stk with
      | nil => exact ⟨fun hd => absurd rfl hd, fun _ => q0 hM⟩
      | cons c r =>
        have hS0 := S 0 c rfl
        simp only [List.length_cons, Nat.add_sub_cancel, Nat.sub_zero] at hS0
        refine ⟨fun _ => ?_, fun hd => by simp at hd⟩
        have e1 : nI (c :: r).length - 1 = nI r.length := by rw [List.length_cons, nI_pred]
        have hl' := hl
        simp only [List.length_cons] at hl'
        rw [e1, nI_clamp (by omega), hS0.1, show (123 : Int32) = nI 123 from by decide, nI_1]
        refine ⟨vp_in_nI (by omega) (by decide), fun hd => ?_, fun hd => ?_⟩
        · rw [nI_eq (by omega) (by decide)] at hd
          rw [show (0 : Int32) = nI 0 from by decide]
          exact go 0 (p + 1) (c :: r) h (by omega) (by omega) (by decide) hl (cm_84.rf h) F Z S (by rw [hM]; simp only; rw [if_neg hd])
        · rw [nI_eq (by omega) (by decide)] at hd
          rw [show (4 : Int32) = nI 4 from by decide]
          exact go 4 (p + 1) (c :: r) h (by omega) (by omega) (by decide) hl (cm_84.rf h) F Z S (by rw [hM]; simp only; rw [if_pos hd])
    have keyB : 2 < s → ¬ (T p = 125 ∧ s = 3) → cd_W X m_Mod_stringEnd 0 0 0 [some (.ref 82), some (.int (nI p)), none] [] h (fun r31 h32 => ∃ x33 : Int32, r31 = some (.int x33) ∧ ((cm_ok h32) ∧ ((((x33 < 0) → (Q (some (.int 0)) h32)) ∧ ((¬ x33 < 0) → (cd_W X m_Mod_at 0 0 0 [some (.ref 82), some (.int x33)] [] h32 (fun r36 h37 => ∃ x38 : Int32, r36 = some (.int x38) ∧ ((cm_ok h37) ∧ ((((x38 = 58) → (cd_W X m_Mod_isObject kc ks 6 [some (.ref 82), some (.int (nI stk.length)), some (.int 0), some (.int (x33 + 1)), none, none, none] [] h37 Q)) ∧ ((¬ x38 = 58) → (Q (some (.int 0)) h37)))))))))))) := by
      intro h1 h2
      have hM := tx_Mk (stk := stk) hp h1 h2
      refine sp_Mod_stringEnd F Z hp ⟨_, rfl, F, ?_⟩
      cases he : tx_s T n p with
      | none =>
        rw [he] at hM
        exact ⟨fun _ => q0 hM, fun hc => absurd cd_op_neg hc⟩
      | some e =>
        rw [he] at hM
        obtain ⟨b1, b2, -⟩ := tx_s_some he
        simp only at hM
        rw [if_pos (by omega)] at hM
        refine ⟨fun hc => absurd hc (cd_op_pos (by omega)), fun _ => ?_⟩
        show cd_W X m_Mod_at 0 0 0 [some (.ref 82), some (.int (nI e))] [] h _
        refine sp_Mod_at F Z (by omega) ⟨_, rfl, F, fun hc => ?_, fun hc => q0 ?_⟩
        · rw [show (58 : Int32) = nI 58 from by decide, nI_eq (by have := tx_at_lt Z e; omega) (by decide), tx_at] at hc
          have h4 : e < n ∧ T e = 58 := by
            by_cases h0 : e < n
            · rw [if_pos h0] at hc; exact ⟨h0, hc⟩
            · rw [if_neg h0] at hc; omega
          show cd_W X m_Mod_isObject kc ks 6 [some (.ref 82), some (.int (nI stk.length)), some (.int 0), some (.int (nI e + 1)), none, none, none] [] h Q
          rw [nI_1, show (0 : Int32) = nI 0 from by decide]
          exact go 0 (e + 1) stk h (by omega) (by omega) (by decide) hl (cm_84.rf h) F Z S (by rw [hM, if_pos h4])
        · rw [show (58 : Int32) = nI 58 from by decide, nI_eq (by have := tx_at_lt Z e; omega) (by decide), tx_at] at hc
          rw [hM, if_neg (fun z => hc (by rw [if_pos z.1]; exact z.2))]
    have opn : ∀ (c s' : Nat), (c = 91 ∧ s' = 2 ∨ c = 123 ∧ s' = 3) → T p = c → (s = 0 ∨ (s = 2 ∧ ¬ T p = 93)) → ((¬ stk.length = 4 → (vp_in (nI stk.length) 4 ∧ cd_W X m_Mod_isObject kc ks 6 [some (.ref 82), some (.int (nI stk.length + 1)), some (.int (nI s')), some (.int (nI p + 1)), none, none, none] [] (cd_si h 84 (nI stk.length).toNatClampNeg (vp_nar .char (nI (T p)))) Q)) ∧ (stk.length = 4 → Q (some (.int 0)) h)) := by
      intro c s' hcs hTc hss
      have hM : tx_M T n stk s p = if stk.length = 4 then false else tx_M T n (T p :: stk) (if T p = 91 then 2 else 3) (p + 1) := by rw [tx_M.eq_def T n stk s p, if_pos hp, if_neg (by omega), if_neg (by omega), if_neg (by omega), if_pos (by omega)]
      refine ⟨fun hc => ⟨vp_in_nI (by omega) (by decide), ?_⟩, fun hc => q0 (by rw [hM, if_pos hc])⟩
      rw [if_neg hc] at hM
      rw [nI_clamp (by omega), cd_narc (by omega), nI_1, nI_1, hTc]
      refine go s' (p + 1) (c :: stk) (cd_si h 84 stk.length (nI c)) (by omega) (by omega) (by omega) (by simp; omega) (cm_84.si h _ _) (F.of rfl rfl) (Z.si84 _ _) (S.push (by omega)) ?_
      rw [hM, hTc]
      congr 1
      split <;> omega
    have valE : ∀ (o : Option Nat), (∀ q, o = some q → p < q ∧ q ≤ n) → (tx_M T n stk s p = tx_vE T n stk p o) → (((0 ≤ cd_op o) → (cd_W X m_Mod_isObject kc ks 6 [some (.ref 82), some (.int (nI stk.length)), some (.int 1), some (.int (cd_op o)), none, none, none] [] h Q)) ∧ ((¬ 0 ≤ cd_op o) → (Q (some (.int 0)) h))) := by
      intro o ho hM
      cases o with
      | none => exact ⟨fun hc => absurd hc (by decide), fun _ => q0 hM⟩
      | some q =>
        obtain ⟨b1, b2⟩ := ho q rfl
        simp only [tx_vE] at hM
        rw [if_pos b1] at hM
        refine ⟨fun _ => ?_, fun hc => absurd (nI_pos' (by omega)) hc⟩
        rw [show (1 : Int32) = nI 1 from by decide]
        exact go 1 q stk h b1 b2 (by decide) hl (cm_84.rf h) F Z S hM
    refine g_Mod_isObject_6 F ⟨fun hc => ?_, fun _ => ⟨vp_in_nI (by omega) (by decide), ?_⟩⟩
    · rw [Z.2.1, nI_leI (by omega) (by omega)] at hc
      omega
    rw [nI_clamp (by omega), Z.2.2.1 p hp]
    simp only [kk 93 93 (by decide) (by decide), kk 125 125 (by decide) (by decide), kk 44 44 (by decide) (by decide), kk 91 91 (by decide) (by decide), kk 123 123 (by decide) (by decide), kk 34 34 (by decide) (by decide), ss 1 1 (by decide) (by decide), ss 2 2 (by decide) (by decide), ss 3 3 (by decide) (by decide), dd 0 0 (by decide) (by decide), dd 4 4 (by decide) (by decide), sle]
    have b91 : (91 : Int32) = nI 91 := by decide
    have b123 : (123 : Int32) = nI 123 := by decide
    have s2 : (2 : Int32) = nI 2 := by decide
    have s3 : (3 : Int32) = nI 3 := by decide
    have s5 : s = 0 ∨ s = 1 ∨ s = 2 ∨ s = 3 ∨ s = 4 := by omega
    have t7 : T p = 93 ∨ T p = 125 ∨ T p = 44 ∨ T p = 91 ∨ T p = 123 ∨ T p = 34 ∨ (¬ T p = 93 ∧ ¬ T p = 125 ∧ ¬ T p = 44 ∧ ¬ T p = 91 ∧ ¬ T p = 123 ∧ ¬ T p = 34) := by omega
    rcases s5 with hsv | hsv | hsv | hsv | hsv
    · rcases t7 with htv | htv | htv | htv | htv | htv | htv
      · have ht93 : (T p = 93) = True := eq_true htv
        have ht125 : (T p = 125) = False := eq_false (by omega)
        have ht44 : (T p = 44) = False := eq_false (by omega)
        have ht91 : (T p = 91) = False := eq_false (by omega)
        have ht123 : (T p = 123) = False := eq_false (by omega)
        have ht34 : (T p = 34) = False := eq_false (by omega)
        simp (config := { decide := true }) only [hsv, ht93, ht125, ht44, ht91, ht123, ht34, true_implies, false_implies, not_true_eq_false, not_false_eq_true, and_true, true_and, implies_true]
        have z := tx_Mv (stk := stk) hp (by omega : s = 0 ∨ (s = 2 ∧ ¬ T p = 93)) (by omega) (by omega)
        rw [if_neg (by omega)] at z
        exact sp_Mod_numberEnd F Z hp ⟨_, rfl, F, valE _ (fun q e => by have := tx_m_some e; omega) z⟩
      · have ht93 : (T p = 93) = False := eq_false (by omega)
        have ht125 : (T p = 125) = True := eq_true htv
        have ht44 : (T p = 44) = False := eq_false (by omega)
        have ht91 : (T p = 91) = False := eq_false (by omega)
        have ht123 : (T p = 123) = False := eq_false (by omega)
        have ht34 : (T p = 34) = False := eq_false (by omega)
        simp (config := { decide := true }) only [hsv, ht93, ht125, ht44, ht91, ht123, ht34, true_implies, false_implies, not_true_eq_false, not_false_eq_true, and_true, true_and, implies_true]
        have z := tx_Mv (stk := stk) hp (by omega : s = 0 ∨ (s = 2 ∧ ¬ T p = 93)) (by omega) (by omega)
        rw [if_neg (by omega)] at z
        exact sp_Mod_numberEnd F Z hp ⟨_, rfl, F, valE _ (fun q e => by have := tx_m_some e; omega) z⟩
      · have ht93 : (T p = 93) = False := eq_false (by omega)
        have ht125 : (T p = 125) = False := eq_false (by omega)
        have ht44 : (T p = 44) = True := eq_true htv
        have ht91 : (T p = 91) = False := eq_false (by omega)
        have ht123 : (T p = 123) = False := eq_false (by omega)
        have ht34 : (T p = 34) = False := eq_false (by omega)
        simp (config := { decide := true }) only [hsv, ht93, ht125, ht44, ht91, ht123, ht34, true_implies, false_implies, not_true_eq_false, not_false_eq_true, and_true, true_and, implies_true]
        have z := tx_Mv (stk := stk) hp (by omega : s = 0 ∨ (s = 2 ∧ ¬ T p = 93)) (by omega) (by omega)
        rw [if_neg (by omega)] at z
        exact sp_Mod_numberEnd F Z hp ⟨_, rfl, F, valE _ (fun q e => by have := tx_m_some e; omega) z⟩
      · have ht93 : (T p = 93) = False := eq_false (by omega)
        have ht125 : (T p = 125) = False := eq_false (by omega)
        have ht44 : (T p = 44) = False := eq_false (by omega)
        have ht91 : (T p = 91) = True := eq_true htv
        have ht123 : (T p = 123) = False := eq_false (by omega)
        have ht34 : (T p = 34) = False := eq_false (by omega)
        simp (config := { decide := true }) only [hsv, ht93, ht125, ht44, ht91, ht123, ht34, true_implies, false_implies, not_true_eq_false, not_false_eq_true, and_true, true_and, implies_true]
        rw [s2]; have z := opn 91 2 (Or.inl ⟨rfl, rfl⟩) htv (by omega); exact z
      · have ht93 : (T p = 93) = False := eq_false (by omega)
        have ht125 : (T p = 125) = False := eq_false (by omega)
        have ht44 : (T p = 44) = False := eq_false (by omega)
        have ht91 : (T p = 91) = False := eq_false (by omega)
        have ht123 : (T p = 123) = True := eq_true htv
        have ht34 : (T p = 34) = False := eq_false (by omega)
        simp (config := { decide := true }) only [hsv, ht93, ht125, ht44, ht91, ht123, ht34, true_implies, false_implies, not_true_eq_false, not_false_eq_true, and_true, true_and, implies_true]
        rw [s3]; have z := opn 123 3 (Or.inr ⟨rfl, rfl⟩) htv (by omega); exact z
      · have ht93 : (T p = 93) = False := eq_false (by omega)
        have ht125 : (T p = 125) = False := eq_false (by omega)
        have ht44 : (T p = 44) = False := eq_false (by omega)
        have ht91 : (T p = 91) = False := eq_false (by omega)
        have ht123 : (T p = 123) = False := eq_false (by omega)
        have ht34 : (T p = 34) = True := eq_true htv
        simp (config := { decide := true }) only [hsv, ht93, ht125, ht44, ht91, ht123, ht34, true_implies, false_implies, not_true_eq_false, not_false_eq_true, and_true, true_and, implies_true]
        have z := tx_Mv (stk := stk) hp (by omega : s = 0 ∨ (s = 2 ∧ ¬ T p = 93)) (by omega) (by omega)
        rw [if_pos htv] at z
        exact sp_Mod_stringEnd F Z hp ⟨_, rfl, F, valE _ (fun q e => by have := tx_s_some e; omega) z⟩
      · have ht93 : (T p = 93) = False := eq_false (by omega)
        have ht125 : (T p = 125) = False := eq_false (by omega)
        have ht44 : (T p = 44) = False := eq_false (by omega)
        have ht91 : (T p = 91) = False := eq_false (by omega)
        have ht123 : (T p = 123) = False := eq_false (by omega)
        have ht34 : (T p = 34) = False := eq_false (by omega)
        simp (config := { decide := true }) only [hsv, ht93, ht125, ht44, ht91, ht123, ht34, true_implies, false_implies, not_true_eq_false, not_false_eq_true, and_true, true_and, implies_true]
        have z := tx_Mv (stk := stk) hp (by omega : s = 0 ∨ (s = 2 ∧ ¬ T p = 93)) (by omega) (by omega)
        rw [if_neg (by omega)] at z
        exact sp_Mod_numberEnd F Z hp ⟨_, rfl, F, valE _ (fun q e => by have := tx_m_some e; omega) z⟩
    · rcases t7 with htv | htv | htv | htv | htv | htv | htv
      · have ht93 : (T p = 93) = True := eq_true htv
        have ht125 : (T p = 125) = False := eq_false (by omega)
        have ht44 : (T p = 44) = False := eq_false (by omega)
        have ht91 : (T p = 91) = False := eq_false (by omega)
        have ht123 : (T p = 123) = False := eq_false (by omega)
        have ht34 : (T p = 34) = False := eq_false (by omega)
        simp (config := { decide := true }) only [hsv, ht93, ht125, ht44, ht91, ht123, ht34, true_implies, false_implies, not_true_eq_false, not_false_eq_true, and_true, true_and, implies_true]
        rw [b91]; exact pop 91 (by omega) (Or.inl rfl) (by omega)
      · have ht93 : (T p = 93) = False := eq_false (by omega)
        have ht125 : (T p = 125) = True := eq_true htv
        have ht44 : (T p = 44) = False := eq_false (by omega)
        have ht91 : (T p = 91) = False := eq_false (by omega)
        have ht123 : (T p = 123) = False := eq_false (by omega)
        have ht34 : (T p = 34) = False := eq_false (by omega)
        simp (config := { decide := true }) only [hsv, ht93, ht125, ht44, ht91, ht123, ht34, true_implies, false_implies, not_true_eq_false, not_false_eq_true, and_true, true_and, implies_true]
        rw [b123]; exact pop 123 (by omega) (Or.inr rfl) (by omega)
      · have ht93 : (T p = 93) = False := eq_false (by omega)
        have ht125 : (T p = 125) = False := eq_false (by omega)
        have ht44 : (T p = 44) = True := eq_true htv
        have ht91 : (T p = 91) = False := eq_false (by omega)
        have ht123 : (T p = 123) = False := eq_false (by omega)
        have ht34 : (T p = 34) = False := eq_false (by omega)
        simp (config := { decide := true }) only [hsv, ht93, ht125, ht44, ht91, ht123, ht34, true_implies, false_implies, not_true_eq_false, not_false_eq_true, and_true, true_and, implies_true]
        have z := comma hsv (by omega) (by omega)
        simp (config := { decide := true }) only [ht93, ht125, ht44, ht91, ht123, ht34, true_implies, false_implies, not_true_eq_false, not_false_eq_true, and_true, true_and, implies_true] at z
        exact z
      · have ht93 : (T p = 93) = False := eq_false (by omega)
        have ht125 : (T p = 125) = False := eq_false (by omega)
        have ht44 : (T p = 44) = False := eq_false (by omega)
        have ht91 : (T p = 91) = True := eq_true htv
        have ht123 : (T p = 123) = False := eq_false (by omega)
        have ht34 : (T p = 34) = False := eq_false (by omega)
        simp (config := { decide := true }) only [hsv, ht93, ht125, ht44, ht91, ht123, ht34, true_implies, false_implies, not_true_eq_false, not_false_eq_true, and_true, true_and, implies_true]
        have z := comma hsv (by omega) (by omega)
        simp (config := { decide := true }) only [ht93, ht125, ht44, ht91, ht123, ht34, true_implies, false_implies, not_true_eq_false, not_false_eq_true, and_true, true_and, implies_true] at z
        exact z
      · have ht93 : (T p = 93) = False := eq_false (by omega)
        have ht125 : (T p = 125) = False := eq_false (by omega)
        have ht44 : (T p = 44) = False := eq_false (by omega)
        have ht91 : (T p = 91) = False := eq_false (by omega)
        have ht123 : (T p = 123) = True := eq_true htv
        have ht34 : (T p = 34) = False := eq_false (by omega)
        simp (config := { decide := true }) only [hsv, ht93, ht125, ht44, ht91, ht123, ht34, true_implies, false_implies, not_true_eq_false, not_false_eq_true, and_true, true_and, implies_true]
        have z := comma hsv (by omega) (by omega)
        simp (config := { decide := true }) only [ht93, ht125, ht44, ht91, ht123, ht34, true_implies, false_implies, not_true_eq_false, not_false_eq_true, and_true, true_and, implies_true] at z
        exact z
      · have ht93 : (T p = 93) = False := eq_false (by omega)
        have ht125 : (T p = 125) = False := eq_false (by omega)
        have ht44 : (T p = 44) = False := eq_false (by omega)
        have ht91 : (T p = 91) = False := eq_false (by omega)
        have ht123 : (T p = 123) = False := eq_false (by omega)
        have ht34 : (T p = 34) = True := eq_true htv
        simp (config := { decide := true }) only [hsv, ht93, ht125, ht44, ht91, ht123, ht34, true_implies, false_implies, not_true_eq_false, not_false_eq_true, and_true, true_and, implies_true]
        have z := comma hsv (by omega) (by omega)
        simp (config := { decide := true }) only [ht93, ht125, ht44, ht91, ht123, ht34, true_implies, false_implies, not_true_eq_false, not_false_eq_true, and_true, true_and, implies_true] at z
        exact z
      · have ht93 : (T p = 93) = False := eq_false (by omega)
        have ht125 : (T p = 125) = False := eq_false (by omega)
        have ht44 : (T p = 44) = False := eq_false (by omega)
        have ht91 : (T p = 91) = False := eq_false (by omega)
        have ht123 : (T p = 123) = False := eq_false (by omega)
        have ht34 : (T p = 34) = False := eq_false (by omega)
        simp (config := { decide := true }) only [hsv, ht93, ht125, ht44, ht91, ht123, ht34, true_implies, false_implies, not_true_eq_false, not_false_eq_true, and_true, true_and, implies_true]
        have z := comma hsv (by omega) (by omega)
        simp (config := { decide := true }) only [ht93, ht125, ht44, ht91, ht123, ht34, true_implies, false_implies, not_true_eq_false, not_false_eq_true, and_true, true_and, implies_true] at z
        exact z
    · rcases t7 with htv | htv | htv | htv | htv | htv | htv
      · have ht93 : (T p = 93) = True := eq_true htv
        have ht125 : (T p = 125) = False := eq_false (by omega)
        have ht44 : (T p = 44) = False := eq_false (by omega)
        have ht91 : (T p = 91) = False := eq_false (by omega)
        have ht123 : (T p = 123) = False := eq_false (by omega)
        have ht34 : (T p = 34) = False := eq_false (by omega)
        simp (config := { decide := true }) only [hsv, ht93, ht125, ht44, ht91, ht123, ht34, true_implies, false_implies, not_true_eq_false, not_false_eq_true, and_true, true_and, implies_true]
        rw [b91]; exact pop 91 (by omega) (Or.inl rfl) (by omega)
      · have ht93 : (T p = 93) = False := eq_false (by omega)
        have ht125 : (T p = 125) = True := eq_true htv
        have ht44 : (T p = 44) = False := eq_false (by omega)
        have ht91 : (T p = 91) = False := eq_false (by omega)
        have ht123 : (T p = 123) = False := eq_false (by omega)
        have ht34 : (T p = 34) = False := eq_false (by omega)
        simp (config := { decide := true }) only [hsv, ht93, ht125, ht44, ht91, ht123, ht34, true_implies, false_implies, not_true_eq_false, not_false_eq_true, and_true, true_and, implies_true]
        have z := tx_Mv (stk := stk) hp (by omega : s = 0 ∨ (s = 2 ∧ ¬ T p = 93)) (by omega) (by omega)
        rw [if_neg (by omega)] at z
        exact sp_Mod_numberEnd F Z hp ⟨_, rfl, F, valE _ (fun q e => by have := tx_m_some e; omega) z⟩
      · have ht93 : (T p = 93) = False := eq_false (by omega)
        have ht125 : (T p = 125) = False := eq_false (by omega)
        have ht44 : (T p = 44) = True := eq_true htv
        have ht91 : (T p = 91) = False := eq_false (by omega)
        have ht123 : (T p = 123) = False := eq_false (by omega)
        have ht34 : (T p = 34) = False := eq_false (by omega)
        simp (config := { decide := true }) only [hsv, ht93, ht125, ht44, ht91, ht123, ht34, true_implies, false_implies, not_true_eq_false, not_false_eq_true, and_true, true_and, implies_true]
        have z := tx_Mv (stk := stk) hp (by omega : s = 0 ∨ (s = 2 ∧ ¬ T p = 93)) (by omega) (by omega)
        rw [if_neg (by omega)] at z
        exact sp_Mod_numberEnd F Z hp ⟨_, rfl, F, valE _ (fun q e => by have := tx_m_some e; omega) z⟩
      · have ht93 : (T p = 93) = False := eq_false (by omega)
        have ht125 : (T p = 125) = False := eq_false (by omega)
        have ht44 : (T p = 44) = False := eq_false (by omega)
        have ht91 : (T p = 91) = True := eq_true htv
        have ht123 : (T p = 123) = False := eq_false (by omega)
        have ht34 : (T p = 34) = False := eq_false (by omega)
        simp (config := { decide := true }) only [hsv, ht93, ht125, ht44, ht91, ht123, ht34, true_implies, false_implies, not_true_eq_false, not_false_eq_true, and_true, true_and, implies_true]
        rw [s2]; have z := opn 91 2 (Or.inl ⟨rfl, rfl⟩) htv (by omega); exact z
      · have ht93 : (T p = 93) = False := eq_false (by omega)
        have ht125 : (T p = 125) = False := eq_false (by omega)
        have ht44 : (T p = 44) = False := eq_false (by omega)
        have ht91 : (T p = 91) = False := eq_false (by omega)
        have ht123 : (T p = 123) = True := eq_true htv
        have ht34 : (T p = 34) = False := eq_false (by omega)
        simp (config := { decide := true }) only [hsv, ht93, ht125, ht44, ht91, ht123, ht34, true_implies, false_implies, not_true_eq_false, not_false_eq_true, and_true, true_and, implies_true]
        rw [s3]; have z := opn 123 3 (Or.inr ⟨rfl, rfl⟩) htv (by omega); exact z
      · have ht93 : (T p = 93) = False := eq_false (by omega)
        have ht125 : (T p = 125) = False := eq_false (by omega)
        have ht44 : (T p = 44) = False := eq_false (by omega)
        have ht91 : (T p = 91) = False := eq_false (by omega)
        have ht123 : (T p = 123) = False := eq_false (by omega)
        have ht34 : (T p = 34) = True := eq_true htv
        simp (config := { decide := true }) only [hsv, ht93, ht125, ht44, ht91, ht123, ht34, true_implies, false_implies, not_true_eq_false, not_false_eq_true, and_true, true_and, implies_true]
        have z := tx_Mv (stk := stk) hp (by omega : s = 0 ∨ (s = 2 ∧ ¬ T p = 93)) (by omega) (by omega)
        rw [if_pos htv] at z
        exact sp_Mod_stringEnd F Z hp ⟨_, rfl, F, valE _ (fun q e => by have := tx_s_some e; omega) z⟩
      · have ht93 : (T p = 93) = False := eq_false (by omega)
        have ht125 : (T p = 125) = False := eq_false (by omega)
        have ht44 : (T p = 44) = False := eq_false (by omega)
        have ht91 : (T p = 91) = False := eq_false (by omega)
        have ht123 : (T p = 123) = False := eq_false (by omega)
        have ht34 : (T p = 34) = False := eq_false (by omega)
        simp (config := { decide := true }) only [hsv, ht93, ht125, ht44, ht91, ht123, ht34, true_implies, false_implies, not_true_eq_false, not_false_eq_true, and_true, true_and, implies_true]
        have z := tx_Mv (stk := stk) hp (by omega : s = 0 ∨ (s = 2 ∧ ¬ T p = 93)) (by omega) (by omega)
        rw [if_neg (by omega)] at z
        exact sp_Mod_numberEnd F Z hp ⟨_, rfl, F, valE _ (fun q e => by have := tx_m_some e; omega) z⟩
    · rcases t7 with htv | htv | htv | htv | htv | htv | htv
      · have ht93 : (T p = 93) = True := eq_true htv
        have ht125 : (T p = 125) = False := eq_false (by omega)
        have ht44 : (T p = 44) = False := eq_false (by omega)
        have ht91 : (T p = 91) = False := eq_false (by omega)
        have ht123 : (T p = 123) = False := eq_false (by omega)
        have ht34 : (T p = 34) = False := eq_false (by omega)
        simp (config := { decide := true }) only [hsv, ht93, ht125, ht44, ht91, ht123, ht34, true_implies, false_implies, not_true_eq_false, not_false_eq_true, and_true, true_and, implies_true]
        exact keyB (by omega) (by omega)
      · have ht93 : (T p = 93) = False := eq_false (by omega)
        have ht125 : (T p = 125) = True := eq_true htv
        have ht44 : (T p = 44) = False := eq_false (by omega)
        have ht91 : (T p = 91) = False := eq_false (by omega)
        have ht123 : (T p = 123) = False := eq_false (by omega)
        have ht34 : (T p = 34) = False := eq_false (by omega)
        simp (config := { decide := true }) only [hsv, ht93, ht125, ht44, ht91, ht123, ht34, true_implies, false_implies, not_true_eq_false, not_false_eq_true, and_true, true_and, implies_true]
        rw [b123]; exact pop 123 (by omega) (Or.inr rfl) (by omega)
      · have ht93 : (T p = 93) = False := eq_false (by omega)
        have ht125 : (T p = 125) = False := eq_false (by omega)
        have ht44 : (T p = 44) = True := eq_true htv
        have ht91 : (T p = 91) = False := eq_false (by omega)
        have ht123 : (T p = 123) = False := eq_false (by omega)
        have ht34 : (T p = 34) = False := eq_false (by omega)
        simp (config := { decide := true }) only [hsv, ht93, ht125, ht44, ht91, ht123, ht34, true_implies, false_implies, not_true_eq_false, not_false_eq_true, and_true, true_and, implies_true]
        exact keyB (by omega) (by omega)
      · have ht93 : (T p = 93) = False := eq_false (by omega)
        have ht125 : (T p = 125) = False := eq_false (by omega)
        have ht44 : (T p = 44) = False := eq_false (by omega)
        have ht91 : (T p = 91) = True := eq_true htv
        have ht123 : (T p = 123) = False := eq_false (by omega)
        have ht34 : (T p = 34) = False := eq_false (by omega)
        simp (config := { decide := true }) only [hsv, ht93, ht125, ht44, ht91, ht123, ht34, true_implies, false_implies, not_true_eq_false, not_false_eq_true, and_true, true_and, implies_true]
        exact keyB (by omega) (by omega)
      · have ht93 : (T p = 93) = False := eq_false (by omega)
        have ht125 : (T p = 125) = False := eq_false (by omega)
        have ht44 : (T p = 44) = False := eq_false (by omega)
        have ht91 : (T p = 91) = False := eq_false (by omega)
        have ht123 : (T p = 123) = True := eq_true htv
        have ht34 : (T p = 34) = False := eq_false (by omega)
        simp (config := { decide := true }) only [hsv, ht93, ht125, ht44, ht91, ht123, ht34, true_implies, false_implies, not_true_eq_false, not_false_eq_true, and_true, true_and, implies_true]
        exact keyB (by omega) (by omega)
      · have ht93 : (T p = 93) = False := eq_false (by omega)
        have ht125 : (T p = 125) = False := eq_false (by omega)
        have ht44 : (T p = 44) = False := eq_false (by omega)
        have ht91 : (T p = 91) = False := eq_false (by omega)
        have ht123 : (T p = 123) = False := eq_false (by omega)
        have ht34 : (T p = 34) = True := eq_true htv
        simp (config := { decide := true }) only [hsv, ht93, ht125, ht44, ht91, ht123, ht34, true_implies, false_implies, not_true_eq_false, not_false_eq_true, and_true, true_and, implies_true]
        exact keyB (by omega) (by omega)
      · have ht93 : (T p = 93) = False := eq_false (by omega)
        have ht125 : (T p = 125) = False := eq_false (by omega)
        have ht44 : (T p = 44) = False := eq_false (by omega)
        have ht91 : (T p = 91) = False := eq_false (by omega)
        have ht123 : (T p = 123) = False := eq_false (by omega)
        have ht34 : (T p = 34) = False := eq_false (by omega)
        simp (config := { decide := true }) only [hsv, ht93, ht125, ht44, ht91, ht123, ht34, true_implies, false_implies, not_true_eq_false, not_false_eq_true, and_true, true_and, implies_true]
        exact keyB (by omega) (by omega)
    · rcases t7 with htv | htv | htv | htv | htv | htv | htv
      · have ht93 : (T p = 93) = True := eq_true htv
        have ht125 : (T p = 125) = False := eq_false (by omega)
        have ht44 : (T p = 44) = False := eq_false (by omega)
        have ht91 : (T p = 91) = False := eq_false (by omega)
        have ht123 : (T p = 123) = False := eq_false (by omega)
        have ht34 : (T p = 34) = False := eq_false (by omega)
        simp (config := { decide := true }) only [hsv, ht93, ht125, ht44, ht91, ht123, ht34, true_implies, false_implies, not_true_eq_false, not_false_eq_true, and_true, true_and, implies_true]
        exact keyB (by omega) (by omega)
      · have ht93 : (T p = 93) = False := eq_false (by omega)
        have ht125 : (T p = 125) = True := eq_true htv
        have ht44 : (T p = 44) = False := eq_false (by omega)
        have ht91 : (T p = 91) = False := eq_false (by omega)
        have ht123 : (T p = 123) = False := eq_false (by omega)
        have ht34 : (T p = 34) = False := eq_false (by omega)
        simp (config := { decide := true }) only [hsv, ht93, ht125, ht44, ht91, ht123, ht34, true_implies, false_implies, not_true_eq_false, not_false_eq_true, and_true, true_and, implies_true]
        exact keyB (by omega) (by omega)
      · have ht93 : (T p = 93) = False := eq_false (by omega)
        have ht125 : (T p = 125) = False := eq_false (by omega)
        have ht44 : (T p = 44) = True := eq_true htv
        have ht91 : (T p = 91) = False := eq_false (by omega)
        have ht123 : (T p = 123) = False := eq_false (by omega)
        have ht34 : (T p = 34) = False := eq_false (by omega)
        simp (config := { decide := true }) only [hsv, ht93, ht125, ht44, ht91, ht123, ht34, true_implies, false_implies, not_true_eq_false, not_false_eq_true, and_true, true_and, implies_true]
        exact keyB (by omega) (by omega)
      · have ht93 : (T p = 93) = False := eq_false (by omega)
        have ht125 : (T p = 125) = False := eq_false (by omega)
        have ht44 : (T p = 44) = False := eq_false (by omega)
        have ht91 : (T p = 91) = True := eq_true htv
        have ht123 : (T p = 123) = False := eq_false (by omega)
        have ht34 : (T p = 34) = False := eq_false (by omega)
        simp (config := { decide := true }) only [hsv, ht93, ht125, ht44, ht91, ht123, ht34, true_implies, false_implies, not_true_eq_false, not_false_eq_true, and_true, true_and, implies_true]
        exact keyB (by omega) (by omega)
      · have ht93 : (T p = 93) = False := eq_false (by omega)
        have ht125 : (T p = 125) = False := eq_false (by omega)
        have ht44 : (T p = 44) = False := eq_false (by omega)
        have ht91 : (T p = 91) = False := eq_false (by omega)
        have ht123 : (T p = 123) = True := eq_true htv
        have ht34 : (T p = 34) = False := eq_false (by omega)
        simp (config := { decide := true }) only [hsv, ht93, ht125, ht44, ht91, ht123, ht34, true_implies, false_implies, not_true_eq_false, not_false_eq_true, and_true, true_and, implies_true]
        exact keyB (by omega) (by omega)
      · have ht93 : (T p = 93) = False := eq_false (by omega)
        have ht125 : (T p = 125) = False := eq_false (by omega)
        have ht44 : (T p = 44) = False := eq_false (by omega)
        have ht91 : (T p = 91) = False := eq_false (by omega)
        have ht123 : (T p = 123) = False := eq_false (by omega)
        have ht34 : (T p = 34) = True := eq_true htv
        simp (config := { decide := true }) only [hsv, ht93, ht125, ht44, ht91, ht123, ht34, true_implies, false_implies, not_true_eq_false, not_false_eq_true, and_true, true_and, implies_true]
        exact keyB (by omega) (by omega)
      · have ht93 : (T p = 93) = False := eq_false (by omega)
        have ht125 : (T p = 125) = False := eq_false (by omega)
        have ht44 : (T p = 44) = False := eq_false (by omega)
        have ht91 : (T p = 91) = False := eq_false (by omega)
        have ht123 : (T p = 123) = False := eq_false (by omega)
        have ht34 : (T p = 34) = False := eq_false (by omega)
        simp (config := { decide := true }) only [hsv, ht93, ht125, ht44, ht91, ht123, ht34, true_implies, false_implies, not_true_eq_false, not_false_eq_true, and_true, true_and, implies_true]
        exact keyB (by omega) (by omega)
theorem sp_Mod_isObject {h : cd_H} (F : cm_ok h) (Z : cm_txt h T n) (hq : ∀ h', cm_84 h h' → Q (some (.int (tx_B T n (tx_M T n [] 0 0)))) h') : cd_W X m_Mod_isObject kc ks 0 [some (.ref 82), none, none, none, none, none, none] [] h Q := by
  refine g_Mod_isObject F ?_
  have := sp_Mod_isObject_6 (X := X) (kc := kc) (ks := ks) (Q := Q) (T := T) (n := n) n 0 0 [] h (by omega) (by omega) (by decide) (by decide) F Z (fun i b hb => by simp at hb) hq
  exact this
end MOB
