def sg_bc (v : Nat) : Nat := if v < 2 ^ 7 then 1 else if v < 2 ^ 15 then 2 else if v < 2 ^ 23 then 3 else 4
def sg_bs (v : Nat) : Nat → List Nat
  | 0 => []
  | c + 1 => (v / 2 ^ (8 * c) % 256) :: sg_bs v c
def sg_int (v : Nat) : List Nat := 2 :: sg_bc v :: sg_bs v (sg_bc v)
def sg_nm1 (q : Nat × (Nat → Nat)) : List Nat := 130 :: q.1 :: (List.range' 0 q.1).map q.2
def sg_nmL : List (Nat × (Nat → Nat)) → List Nat
  | [] => []
  | q :: l => sg_nm1 q ++ sg_nmL l
def sg_row (l : List Nat) : List Nat := 48 :: l.length :: l
def sg_fou (i made key : Nat) : List Nat := sg_int i ++ sg_int made ++ sg_int (made + 20) ++ sg_int key
def sg_bdy (nms : List (Nat × (Nat → Nat))) (i made key : Nat) : List Nat := sg_row (sg_fou i made key ++ sg_row (sg_nmL nms))
def sg_dgL (l : List Nat) : Nat := l.foldl cd_dg 7
def sg_slL (sel : Nat) : List Nat := 3 :: 5 :: 0 :: sg_bs sel 4
def sg_crt (nms : List (Nat × (Nat → Nat))) (i made key sel : Nat) : List Nat := sg_row (sg_bdy nms i made key ++ sg_slL sel)
theorem sg_bs_len (v c : Nat) : (sg_bs v c).length = c := by
  induction c with
  | zero => rfl
  | succ c ih => rw [sg_bs, List.length_cons, ih]
theorem sg_bc_le (v : Nat) : 1 ≤ sg_bc v ∧ sg_bc v ≤ 4 := by
  unfold sg_bc
  split
  · exact ⟨by decide, by decide⟩
  · split
    · exact ⟨by decide, by decide⟩
    · split <;> exact ⟨by decide, by decide⟩
theorem sg_int_len (v : Nat) : (sg_int v).length ≤ 6 := by
  have := (sg_bc_le v).2
  rw [sg_int, List.length_cons, List.length_cons, sg_bs_len]
  omega
theorem sg_fou_len (i made key : Nat) : (sg_fou i made key).length ≤ 24 := by
  have a := sg_int_len i
  have b := sg_int_len made
  have c := sg_int_len (made + 20)
  have d := sg_int_len key
  rw [sg_fou, List.length_append, List.length_append, List.length_append]
  omega
theorem sg_nm1_len (q : Nat × (Nat → Nat)) : (sg_nm1 q).length = 2 + q.1 := by
  rw [sg_nm1, List.length_cons, List.length_cons, List.length_map, List.length_range']
  omega
theorem cd_byteL {v c : Nat} (hv : v < 2 ^ 31) (hc : c < 4) : ((nI v).toInt64 >>> ((8 * nI c).toInt64 &&& 63)).toInt32 &&& 255 = nI (v / 2 ^ (8 * c) % 256) := by
  have hd : (((8 * nI c).toInt64 &&& 63).toBitVec.smod 64).toNat = 8 * c := by
    have : c = 0 ∨ c = 1 ∨ c = 2 ∨ c = 3 := by omega
    rcases this with rfl | rfl | rfl | rfl <;> decide
  have hl : v / 2 ^ (8 * c) ≤ v := Nat.div_le_self _ _
  rw [nI_l hv, pf_shr hd (by omega), lN_i, pk_andN (by omega) 8 (by decide)]
theorem cd_byteI {v c : Nat} (hv : v < 2 ^ 31) (hc : c < 4) : (nI v >>> ((8 * nI c) &&& 31)) &&& 255 = nI (v / 2 ^ (8 * c) % 256) := by
  have hd : (((8 * nI c) &&& 31).toBitVec.smod 32).toNat = 8 * c := by
    have : c = 0 ∨ c = 1 ∨ c = 2 ∨ c = 3 := by omega
    rcases this with rfl | rfl | rfl | rfl <;> decide
  have hl : v / 2 ^ (8 * c) ≤ v := Nat.div_le_self _ _
  rw [pk_shrN hv _ _ hd, pk_andN (by omega) 8 (by decide)]
def cm_out (h : cd_H) (m : Nat) (l : List Nat) : Prop := m + l.length ≤ 100 ∧ cd_i h 82 42 = nI (m + l.length) ∧ ∀ j v, l[j]? = some v → cd_i h 111 (m + j) = nI v
abbrev cm_oc (h h' : cd_H) : Prop := cm_ch (fun x j => (x = 82 ∧ j = 42) ∨ x = 111) h h'
theorem cm_oc.i {h h' : cd_H} (C : cm_oc h h') {a j : Nat} (h1 : 83 ≤ a) (h2 : a ≤ 110) : cd_i h' a j = cd_i h a j := C.2.2.2 a j (fun z => by omega)
theorem cm_ch.i {h h' : cd_H} (C : cm_ch (fun x j => (x = 82 ∧ j = 42) ∨ x = 111) h h') {a j : Nat} (h1 : 83 ≤ a) (h2 : a ≤ 110) : cd_i h' a j = cd_i h a j := C.2.2.2 a j (fun z => by omega)
section VMO
variable {X : cd_E} {kc ks : Nat} {h : cd_H} {Q : Option Value → cd_H → Prop} {m : Nat} {l : List Nat}
theorem sp_Mod_emit (F : cm_ok h) (O : cm_out h m l) (hl : m + l.length < 100) {v : Nat} (hq : ∀ h', cm_oc h h' → cm_out h' m (l ++ [v]) → Q none h') : cd_W X m_Mod_emit kc ks 0 [some (.ref 82), some (.int (nI v))] [] h Q := by
  obtain ⟨o1, o2, o3⟩ := O
  refine g_Mod_emit F ?_
  rw [o2, nI_clamp (by omega)]
  refine ⟨vp_in_nI hl (by decide), ?_⟩
  have C : cm_oc h (cd_si h 111 (m + l.length) (nI v)) := cm_ch.si (Or.inr rfl)
  refine hq _ (C.tr (cm_ch.si (Or.inl ⟨rfl, rfl⟩))) ⟨?_, ?_, fun j w hj => ?_⟩
  · rw [List.length_append, List.length_singleton]; omega
  · rw [cd_i_si, if_pos ⟨rfl, rfl⟩, cd_i_si, if_neg (fun z => by omega), o2, nI_1, List.length_append, List.length_singleton]
    rfl
  · rw [cd_i_si, if_neg (fun z => by omega), cd_i_si]
    by_cases e : j < l.length
    · rw [if_neg (fun z => by omega)]
      rw [List.getElem?_append_left e] at hj
      exact o3 j w hj
    · rw [List.getElem?_append_right (by omega)] at hj
      have hlt := (List.getElem?_eq_some_iff.mp hj).1
      rw [List.length_singleton] at hlt
      have ej : j = l.length := by omega
      subst ej
      rw [Nat.sub_self] at hj
      cases hj
      rw [if_pos ⟨rfl, rfl⟩]
theorem sp_Mod_integer_41 {v : Nat} (hv : v < 2 ^ 31) : ∀ (c : Nat) (h : cd_H) (l : List Nat), c ≤ 4 → cm_ok h → cm_out h m l → m + l.length + c ≤ 100 → (∀ h', cm_oc h h' → cm_out h' m (l ++ sg_bs v c) → Q none h') → cd_W X m_Mod_integer kc ks 41 [some (.ref 82), some (.int (nI v)), none, some (.int (nI c - 1))] [] h Q := by
  intro c
  induction c with
  | zero =>
    intro h l hc F O hl hq
    refine g_Mod_integer_41 F ⟨fun _ => hq h (cm_ch.rf _ _) ?_, fun t => absurd (by decide) t⟩
    rw [sg_bs, List.append_nil]
    exact O
  | succ c ih =>
    intro h l hc F O hl hq
    rw [nI_pred]
    refine g_Mod_integer_41 F ⟨fun t => absurd t (nI_pos (by omega)), fun _ => ?_⟩
    rw [cd_byteL hv (by omega)]
    refine sp_Mod_emit F O (by omega) (fun h' C' O' => ⟨rfl, C'.ok F, ?_⟩)
    rw [← Int32.sub_eq_add_neg]
    refine ih h' _ (by omega) (C'.ok F) O' (by rw [List.length_append, List.length_singleton]; omega) (fun h2 C2 O2 => hq h2 (C'.tr C2) ?_)
    rw [List.append_assoc] at O2
    exact O2
theorem sp_Mod_integer {v : Nat} (hv : v < 2 ^ 31) (F : cm_ok h) (O : cm_out h m l) (hl : m + l.length + 6 ≤ 100) (hq : ∀ h', cm_oc h h' → cm_out h' m (l ++ sg_int v) → Q none h') : cd_W X m_Mod_integer kc ks 0 [some (.ref 82), some (.int (nI v)), none, none] [] h Q := by
  have sh : ∀ c, 1 ≤ c → c ≤ 4 → (1 : Int64) <<< (((8 * nI c) - 1).toInt64 &&& 63) = lN (2 ^ (8 * c - 1)) := fun c h1 h4 => by
    have : c = 1 ∨ c = 2 ∨ c = 3 ∨ c = 4 := by omega
    rcases this with rfl | rfl | rfl | rfl <;> decide
  have p31 : ∀ c, c ≤ 4 → 2 ^ (8 * c - 1) < 2 ^ 63 := fun c hc => Nat.pow_lt_pow_right (by decide) (by omega)
  have fin : ∀ c, 1 ≤ c → c ≤ 4 → v < 2 ^ (8 * c - 1) → sg_bc v = c → cd_W X m_Mod_integer kc ks 2 [some (.ref 82), some (.int (nI v)), some (.int (nI c)), none] [] h Q := by
    intro c h1 h4 hlt hb
    refine g_Mod_integer_2 F ⟨fun t => ?_, fun _ => ⟨fun _ => ?_, fun t => absurd ?_ t⟩⟩
    · rw [show (5 : Int32) = nI 5 by decide, nI_leI (by decide) (by omega)] at t
      omega
    · show cd_W X m_Mod_emit 0 0 0 [some (.ref 82), some (.int (nI 2))] [] h _
      refine sp_Mod_emit F O (by omega) (fun h' C' O' => ⟨rfl, C'.ok F, ?_⟩)
      have l1 : (l ++ [2]).length = l.length + 1 := by rw [List.length_append, List.length_singleton]
      refine sp_Mod_emit (C'.ok F) O' (by omega) (fun h2 C2 O2 => ⟨rfl, C2.ok (C'.ok F), ?_⟩)
      have l2 : (l ++ [2] ++ [c]).length = l.length + 2 := by rw [List.length_append, List.length_singleton, l1]
      refine sp_Mod_integer_41 hv c h2 _ h4 (C2.ok (C'.ok F)) O2 (by omega) (fun h3 C3 O3 => hq h3 ((C'.tr C2).tr C3) ?_)
      rw [sg_int, hb]
      simp only [List.append_assoc, List.cons_append, List.nil_append] at O3
      exact O3
    · rw [nI_l hv, sh c h1 h4, lg_cmp_lt, pk_lLT (by omega) (p31 c h4)]
      exact hlt
  have stp : ∀ c, 1 ≤ c → c ≤ 3 → ¬ v < 2 ^ (8 * c - 1) → cd_W X m_Mod_integer kc ks 2 [some (.ref 82), some (.int (nI v)), some (.int (nI (c + 1))), none] [] h Q → cd_W X m_Mod_integer kc ks 2 [some (.ref 82), some (.int (nI v)), some (.int (nI c)), none] [] h Q := by
    intro c h1 h4 hlt k
    refine g_Mod_integer_2 F ⟨fun t => ?_, fun _ => ⟨fun t => ?_, fun _ => ?_⟩⟩
    · rw [show (5 : Int32) = nI 5 by decide, nI_leI (by decide) (by omega)] at t
      omega
    · rw [nI_l hv, sh c h1 (by omega), lg_cmp_lt, pk_lLT (by omega) (p31 c (by omega))] at t
      exact absurd t hlt
    · rw [nI_1]
      exact k
  refine g_Mod_integer F ?_
  show cd_W X m_Mod_integer kc ks 2 [some (.ref 82), some (.int (nI v)), some (.int (nI 1)), none] [] h Q
  by_cases a : v < 2 ^ 7
  · exact fin 1 (by decide) (by decide) a (by rw [sg_bc, if_pos a])
  · refine stp 1 (by decide) (by decide) a ?_
    by_cases b : v < 2 ^ 15
    · exact fin 2 (by decide) (by decide) b (by rw [sg_bc, if_neg a, if_pos b])
    · refine stp 2 (by decide) (by decide) b ?_
      by_cases c : v < 2 ^ 23
      · exact fin 3 (by decide) (by decide) c (by rw [sg_bc, if_neg a, if_neg b, if_pos c])
      · exact stp 3 (by decide) (by decide) c (fin 4 (by decide) (by decide) hv (by rw [sg_bc, if_neg a, if_neg b, if_neg c]))
def cm_cn (h : cd_H) (o : Nat) (nms : List (Nat × (Nat → Nat))) : Prop := o < 12 ∧ nms.length ≤ 3 ∧ cd_i h 94 o = nI nms.length ∧ ∀ k q, nms[k]? = some q → ∃ p, p < 24 ∧ cd_i h 95 (3 * o + k) = nI p ∧ cm_nam h p q.2 q.1
theorem cm_cn.of {h h' : cd_H} {o : Nat} {nms : List (Nat × (Nat → Nat))} (C : cm_cn h o nms) (e : ∀ a j, 94 ≤ a → a ≤ 99 → ¬ a = 96 → cd_i h' a j = cd_i h a j) : cm_cn h' o nms := by
  obtain ⟨c0, c1, c2, c3⟩ := C
  refine ⟨c0, c1, by rw [e 94 o (by decide) (by decide) (by decide)]; exact c2, fun k q hq => ?_⟩
  obtain ⟨p, p1, p2, p3⟩ := c3 k q hq
  exact ⟨p, p1, by rw [e 95 _ (by decide) (by decide) (by decide)]; exact p2, p3.of (fun x j hx => e x j (by omega) (by omega) (by omega))⟩
theorem sp_Mod_body_126 {N : Nat → Nat} {len a : Nat} (ha : a < 24) {v2 v3 v4 v5 : Int32} : ∀ (i j : Nat) (h : cd_H) (l : List Nat), i + j = len → cm_ok h → cm_out h m l → m + l.length + i ≤ 100 → cm_nam h a N len → (∀ h', cm_oc h h' → cm_out h' m (l ++ (List.range' j i).map N) → cm_ok h' → cd_W X m_Mod_body kc ks 81 [some (.ref 82), none, some (.int v2), some (.int v3), some (.int v4), some (.int (v5 + 1)), none, none] [] h' Q) → cd_W X m_Mod_body kc ks 126 [some (.ref 82), none, some (.int v2), some (.int v3), some (.int v4), some (.int v5), some (.int (nI a)), some (.int (nI j))] [] h Q := by
  intro i
  induction i with
  | zero =>
    intro j h l hj F O hl A hq
    have l12 := A.1
    refine g_Mod_body_126 F ⟨vp_in_nI ha (by decide), ?_⟩
    rw [nI_clamp (by omega), A.2.1, nI_leI (by omega) (by omega)]
    refine ⟨fun _ => hq h (cm_ch.rf _ _) ?_ F, fun t => by omega⟩
    rw [List.range'_zero, List.map_nil, List.append_nil]
    exact O
  | succ i ih =>
    intro j h l hj F O hl A hq
    have l12 := A.1
    refine g_Mod_body_126 F ⟨vp_in_nI ha (by decide), ?_⟩
    have e12 : (12 : Int32) * nI a + nI j = nI (12 * a + j) := by rw [show (12 : Int32) = nI 12 by decide, pk_mul, nI_add]
    rw [nI_clamp (by omega), A.2.1, nI_leI (by omega) (by omega), e12, nI_clamp (by omega), (A.2.2 j (by omega)).1]
    refine ⟨fun t => by omega, fun _ => ⟨vp_in_nI (by omega) (by decide), sp_Mod_emit F O (by omega) (fun h' C' O' => ⟨rfl, C'.ok F, ?_⟩)⟩⟩
    rw [nI_1]
    refine ih (j + 1) h' _ (by omega) (C'.ok F) O' (by rw [List.length_append, List.length_singleton]; omega) (A.of (fun x k hx => C'.i (by omega) (by omega))) (fun h2 C2 O2 F2 => hq h2 (C'.tr C2) ?_ F2)
    rw [List.range'_succ, List.map_cons]
    rw [List.append_assoc] at O2
    exact O2
theorem sp_Mod_body_81 {nms : List (Nat × (Nat → Nat))} {o : Nat} {l2 : List Nat} (hl2 : l2.length ≤ 30) (hm : m ≤ 2) : ∀ (i k : Nat) (h : cd_H) (ns : List Nat), i + k = nms.length → cm_ok h → ns.length ≤ 14 * k → cm_out h m (48 :: 0 :: (l2 ++ 0 :: ns)) → cm_cn h o nms → (∀ h', cm_oc h h' → cm_out h' m (sg_row (l2 ++ (ns ++ sg_nmL (nms.drop k)).length :: (ns ++ sg_nmL (nms.drop k)))) → Q none h') → cd_W X m_Mod_body kc ks 81 [some (.ref 82), none, some (.int (nI m)), some (.int (nI o)), some (.int (nI (m + 2 + l2.length + 1))), some (.int (nI k)), none, none] [] h Q := by
  intro i
  induction i with
  | zero =>
    intro k h ns hk F hns O CN hq
    obtain ⟨c0, c1, c2, c3⟩ := CN
    have hkn : k = nms.length := by omega
    obtain ⟨o1, o2, o3⟩ := O
    have hlen : (48 :: 0 :: (l2 ++ 0 :: ns)).length = l2.length + 3 + ns.length := by
      rw [List.length_cons, List.length_cons, List.length_append, List.length_cons]; omega
    rw [hlen] at o1 o2
    rw [hkn, List.drop_length, sg_nmL, List.append_nil] at hq
    refine g_Mod_body_81 F ⟨vp_in_nI c0 (by decide), ?_⟩
    have e1 : nI (m + 2 + l2.length + 1) - 1 = nI (m + 2 + l2.length) := nI_pred _
    rw [nI_clamp (by omega), c2, nI_leI (by omega) (by omega), e1, nI_1, nI_clamp (by omega), nI_clamp (by omega), cd_i_si, if_neg (fun z => by omega), o2, pk_sub (by omega), pk_sub (by omega), show (2 : Int32) = nI 2 by decide, pk_sub (by omega)]
    refine ⟨fun _ => ⟨vp_in_nI (by omega) (by decide), vp_in_nI (by omega) (by decide), ?_⟩, fun t => by omega⟩
    have C : cm_oc h (cd_si h 111 (m + 2 + l2.length) (nI (m + (l2.length + 3 + ns.length) - (m + 2 + l2.length + 1)))) := cm_ch.si (Or.inr rfl)
    refine hq _ (C.tr (cm_ch.si (Or.inr rfl))) ⟨?_, ?_, fun j v hj => ?_⟩
    · rw [sg_row, List.length_cons, List.length_cons, List.length_append, List.length_cons]
      omega
    · rw [cd_i_si, if_neg (fun z => by omega), cd_i_si, if_neg (fun z => by omega), o2, sg_row, List.length_cons, List.length_cons, List.length_append, List.length_cons]
      congr 1
      omega
    · rw [cd_i_si, cd_i_si]
      rw [sg_row] at hj
      match j, hj with
      | 0, hj =>
        cases hj
        rw [if_neg (fun z => by omega), if_neg (fun z => by omega)]
        exact o3 0 48 rfl
      | 1, hj =>
        cases hj
        rw [if_pos ⟨rfl, rfl⟩, List.length_append, List.length_cons]
        congr 1
        omega
      | j + 2, hj =>
        rw [List.getElem?_cons_succ, List.getElem?_cons_succ] at hj
        rw [if_neg (fun z => by omega)]
        by_cases ej : j = l2.length
        · subst ej
          rw [List.getElem?_append_right (Nat.le_refl _), Nat.sub_self] at hj
          cases hj
          rw [if_pos ⟨rfl, by omega⟩]
          congr 1
          omega
        · rw [if_neg (fun z => by omega)]
          refine o3 (j + 2) v ?_
          rw [List.getElem?_cons_succ, List.getElem?_cons_succ]
          by_cases e : j < l2.length
          · rw [List.getElem?_append_left e] at hj ⊢
            exact hj
          · rw [List.getElem?_append_right (by omega)] at hj ⊢
            obtain ⟨q, hq2⟩ : ∃ q, j - l2.length = q + 1 := ⟨j - l2.length - 1, by omega⟩
            rw [hq2, List.getElem?_cons_succ] at hj ⊢
            exact hj
  | succ i ih =>
    intro k h ns hk F hns O CN hq
    have CN0 := CN
    obtain ⟨c0, c1, c2, c3⟩ := CN
    have hkl : k < nms.length := by omega
    have hek : nms[k]? = some nms[k] := List.getElem?_eq_getElem hkl
    obtain ⟨p, p1, p2, p3⟩ := c3 k _ hek
    have p12 := p3.1
    have hlen : ∀ ns : List Nat, (48 :: 0 :: (l2 ++ 0 :: ns)).length = l2.length + 3 + ns.length := fun ns => by
      rw [List.length_cons, List.length_cons, List.length_append, List.length_cons]; omega
    have hl0 := hlen ns
    refine g_Mod_body_81 F ⟨vp_in_nI c0 (by decide), ?_⟩
    have e3 : (3 : Int32) * nI o + nI k = nI (3 * o + k) := by rw [show (3 : Int32) = nI 3 by decide, pk_mul, nI_add]
    rw [nI_clamp (by omega), c2, nI_leI (by omega) (by omega), e3, nI_clamp (by omega), p2, nI_clamp (by omega)]
    refine ⟨fun t => by omega, fun _ => ⟨vp_in_nI (by omega) (by decide), ?_⟩⟩
    show cd_W X m_Mod_emit 0 0 0 [some (.ref 82), some (.int (nI 130))] [] h _
    refine sp_Mod_emit F O (by omega) (fun h1 C1 O1 => ⟨rfl, C1.ok F, vp_in_nI p1 (by decide), ?_⟩)
    rw [C1.i (a := 99) (by decide) (by decide), p3.2.1]
    refine sp_Mod_emit (C1.ok F) O1 (by rw [List.length_append, List.length_singleton]; omega) (fun h2 C2 O2 => ⟨rfl, C2.ok (C1.ok F), ?_⟩)
    have C12 := C1.tr C2
    show cd_W X m_Mod_body kc ks 126 [some (.ref 82), none, some (.int (nI m)), some (.int (nI o)), some (.int (nI (m + 2 + l2.length + 1))), some (.int (nI k)), some (.int (nI p)), some (.int (nI 0))] [] h2 Q
    refine sp_Mod_body_126 (N := (nms[k]).2) (len := (nms[k]).1) p1 (nms[k]).1 0 h2 _ (by omega) (C12.ok F) O2 (by rw [List.length_append, List.length_append, List.length_singleton, List.length_singleton]; omega) (p3.of (fun x j hx => C12.i (by omega) (by omega))) (fun h3 C3 O3 F3 => ?_)
    rw [nI_1]
    have C13 := C12.tr C3
    have eO : 48 :: 0 :: (l2 ++ 0 :: ns) ++ [130] ++ [(nms[k]).1] ++ (List.range' 0 (nms[k]).1).map (nms[k]).2 = 48 :: 0 :: (l2 ++ 0 :: (ns ++ sg_nm1 nms[k])) := by
      rw [sg_nm1]
      simp only [List.append_assoc, List.cons_append, List.nil_append]
    rw [eO] at O3
    refine ih (k + 1) h3 (ns ++ sg_nm1 nms[k]) (by omega) F3 (by rw [List.length_append, sg_nm1_len]; omega) O3 (CN0.of (fun a j h1 h2 h3 => C13.i (by omega) (by omega))) (fun h4 C4 O4 => hq h4 (C13.tr C4) ?_)
    have eD : nms.drop k = nms[k] :: nms.drop (k + 1) := List.drop_eq_getElem_cons hkl
    rw [eD, sg_nmL, ← List.append_assoc]
    exact O4
theorem sp_Mod_body {i o made key : Nat} {nms : List (Nat × (Nat → Nat))} (F : cm_ok h) (hm : m ≤ 2) (hi : i < 12) (CN : cm_cn h o nms) (h6 : cd_i h 106 i = nI made) (hmd : made ≤ 1000) (h5 : cd_i h 105 i = nI key) (hky : key < 2 ^ 31) (h4 : cd_i h 104 i = nI o) (hq : ∀ h', cm_oc h h' → cm_out h' m (sg_bdy nms i made key) → Q none h') : cd_W X m_Mod_body kc ks 0 [some (.ref 82), some (.int (nI i)), some (.int (nI m)), none, none, none, none, none] [] h Q := by
  have o12 := CN.1
  refine g_Mod_body F ?_
  have C0 : cm_oc h (cd_si h 82 42 (nI m)) := cm_ch.si (Or.inl ⟨rfl, rfl⟩)
  have O0 : cm_out (cd_si h 82 42 (nI m)) m [] := ⟨by show m ≤ 100; omega, by rw [cd_i_si, if_pos ⟨rfl, rfl⟩]; rfl, fun j v hj => by cases hj⟩
  show cd_W X m_Mod_emit 0 0 0 [some (.ref 82), some (.int (nI 48))] [] _ _
  refine sp_Mod_emit (C0.ok F) O0 (by show m < 100; omega) (fun h1 C1 O1 => ⟨rfl, C1.ok (C0.ok F), ?_⟩)
  have D1 := C0.tr C1
  show cd_W X m_Mod_emit 0 0 0 [some (.ref 82), some (.int (nI 0))] [] _ _
  refine sp_Mod_emit (D1.ok F) O1 (by show m + 1 < 100; omega) (fun h2 C2 O2 => ⟨rfl, C2.ok (D1.ok F), ?_⟩)
  have D2 := D1.tr C2
  have s1 := sg_int_len i
  have s2 := sg_int_len made
  have s3 := sg_int_len (made + 20)
  have s4 := sg_int_len key
  refine sp_Mod_integer (by omega) (D2.ok F) O2 (by show m + 2 + 6 ≤ 100; omega) (fun h3 C3 O3 => ⟨rfl, C3.ok (D2.ok F), vp_in_nI hi (by decide), ?_⟩)
  have D3 := D2.tr C3
  rw [nI_clamp (by omega), D3.i (a := 106) (by decide) (by decide), h6]
  refine sp_Mod_integer (by omega) (D3.ok F) O3 (by simp only [List.length_append, List.length_cons, List.length_nil]; omega) (fun h4' C4 O4 => ⟨rfl, C4.ok (D3.ok F), ?_⟩)
  have D4 := D3.tr C4
  rw [D4.i (a := 106) (by decide) (by decide), h6, show (20 : Int32) = nI 20 by decide, nI_add]
  refine sp_Mod_integer (by omega) (D4.ok F) O4 (by simp only [List.length_append, List.length_cons, List.length_nil]; omega) (fun h5' C5 O5 => ⟨rfl, C5.ok (D4.ok F), ?_⟩)
  have D5 := D4.tr C5
  rw [D5.i (a := 105) (by decide) (by decide), h5]
  refine sp_Mod_integer hky (D5.ok F) O5 (by simp only [List.length_append, List.length_cons, List.length_nil]; omega) (fun h6' C6 O6 => ⟨rfl, C6.ok (D5.ok F), ?_⟩)
  have D6 := D5.tr C6
  show cd_W X m_Mod_emit 0 0 0 [some (.ref 82), some (.int (nI 48))] [] _ _
  refine sp_Mod_emit (D6.ok F) O6 (by simp only [List.length_append, List.length_cons, List.length_nil]; omega) (fun h7 C7 O7 => ⟨rfl, C7.ok (D6.ok F), ?_⟩)
  have D7 := D6.tr C7
  show cd_W X m_Mod_emit 0 0 0 [some (.ref 82), some (.int (nI 0))] [] _ _
  refine sp_Mod_emit (D7.ok F) O7 (by simp only [List.length_append, List.length_cons, List.length_nil]; omega) (fun h8 C8 O8 => ⟨rfl, C8.ok (D7.ok F), ?_⟩)
  have D8 := D7.tr C8
  rw [D6.i (a := 104) (by decide) (by decide), h4]
  have eL : [] ++ [48] ++ [0] ++ sg_int i ++ sg_int made ++ sg_int (made + 20) ++ sg_int key ++ [48] ++ [0] = 48 :: 0 :: ((sg_fou i made key ++ [48]) ++ 0 :: []) := by
    rw [sg_fou]
    simp only [List.append_assoc, List.cons_append, List.nil_append]
  rw [eL] at O8
  have fl := sg_fou_len i made key
  have e42 : cd_i h8 82 42 = nI (m + 2 + (sg_fou i made key ++ [48]).length + 1) := by
    rw [O8.2.1]
    congr 1
    simp only [List.length_append, List.length_cons, List.length_nil]
    omega
  rw [e42]
  show cd_W X m_Mod_body kc ks 81 [some (.ref 82), none, some (.int (nI m)), some (.int (nI o)), some (.int (nI (m + 2 + (sg_fou i made key ++ [48]).length + 1))), some (.int (nI 0)), none, none] [] h8 Q
  refine sp_Mod_body_81 (by rw [List.length_append, List.length_singleton]; omega) hm nms.length 0 h8 [] (by omega) (D8.ok F) (by show 0 ≤ _; omega) O8 (CN.of (fun a j h1 h2 h3 => D8.i (by omega) (by omega))) (fun h9 C9 O9 => hq h9 (D8.tr C9) ?_)
  rw [List.drop_zero, List.nil_append] at O9
  have eF : sg_bdy nms i made key = sg_row (sg_fou i made key ++ [48] ++ (sg_nmL nms).length :: sg_nmL nms) := by
    rw [sg_bdy]
    simp only [sg_row, List.append_assoc, List.cons_append, List.nil_append]
  rw [eF]
  exact O9
end VMO
