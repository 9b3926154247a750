def cm_Mq (x _j : Nat) : Prop := 82 ≤ x ∧ x ≤ 113
section VMR
variable {X : cd_E} {kc ks : Nat} {h h' : cd_H} {Q : Option Value → cd_H → Prop} {T : Nat → Nat} {n life now cr gv us w : Nat} {sp : Nat → Bool} {ct : Option Nat} {NW : Nat → Option Nat} {AC AC' : List sg_A} {AU AU' : List sg_U} {OR : List sg_O} {CE : List sg_C}
theorem cm_84.scr (C : cm_84 h h') : cm_ch cm_scr h h' := ⟨C.1, C.2.1, C.2.2.1, fun x j hx => C.2.2.2.2 x j (fun z => hx (Or.inr (Or.inr (Or.inl z))))⟩
theorem cm_dd.scr (C : cm_dd h h') : cm_ch cm_scr h h' := ⟨C.1, C.2.1, C.2.2.1, fun x j hx => C.2.2.2.1 x j (fun z => hx (Or.inr (Or.inr (Or.inr (Or.inl z)))))⟩
theorem sp_Mod_asked_tail {HS : cd_H} {x4 : Int32} {k c d sig : Nat} {snd : Option Nat} (R : cm_R HS T n life now NW AC AU OR CE) (S : cm_sto HS us ct) (N : cm_non HS cr gv sp) (hcr : cr < 1000) (I : sg_I AC AU OR CE) {ob ok : Bool} (hob : ob = true ↔ sg_obj T n) (hok : ∀ l, tx_z T n (sg_fl T n [110, 97, 109, 101, 115] (some 0)) = some l → (ok = true ↔ ((1 ≤ l.length ∧ l.length ≤ 3) ∧ sg_nok T n l))) (hs : ∀ i, snd = some i → i < AC.length) (hk : k < 4) (hc : c < 5) (hd : d < 2 ^ 31)
    (h3 : ¬ sg_ver c (nI sig ^^^ x4) d → Q (some (.int (-3))) HS) (h0 : sg_ver c (nI sig ^^^ x4) d → cm_Q Q HS T n life now NW cr gv sp (sg_prm T n life now ob ok AC AU OR CE us ct snd k)) :
    cd_W X m_Mod_isSignature 0 0 0 [some (.ref 82), some (.int (nI sig ^^^ x4)), some (.long (lN d)), none, some (.int (nI c)), none, none] [] HS (fun r26 h27 => ∃ x28 : Int32, r26 = some (.int x28) ∧ ((cm_ok h27) ∧ ((((¬ x28 = 0) → (cd_W X m_Mod_isObject 0 0 0 [some (.ref 82), none, none, none, none, none, none] [] h27 (fun r31 h32 => ∃ x33 : Int32, r31 = some (.int x33) ∧ ((cm_ok h32) ∧ ((((¬ x33 = 0) → (cd_W X m_Mod_field 0 0 0 [some (.ref 82), some (.int 0), some (.long 14320), none, none, none] [] h32 (fun r36 h37 => ∃ x38 : Int32, r36 = some (.int x38) ∧ ((cm_ok h37) ∧ ((((x38 < 0) → (Q (some (.int (-1))) h37)) ∧ ((¬ x38 < 0) → (cd_W X m_Mod_at 0 0 0 [some (.ref 82), some (.int x38)] [] h37 (fun r41 h42 => ∃ x43 : Int32, r41 = some (.int x43) ∧ ((cm_ok h42) ∧ ((((x43 = 34) → (cd_W X m_Mod_packed 0 0 0 [some (.ref 82), some (.int x38), none, none, none, none] [] h42 (fun r46 h47 => ∃ x48 : Int64, r46 = some (.long x48) ∧ ((cm_ok h47) ∧ (cd_W X m_Mod_done 0 0 0 [some (.ref 82), some (.long x48), none, some (.int (nI k)), some (.int (cd_op snd))] [] h47 (fun r50 h51 => ∃ x52 : Int32, r50 = some (.int x52) ∧ ((cm_ok h51) ∧ (Q (some (.int x52)) h51)))))))) ∧ ((¬ x43 = 34) → (Q (some (.int (-1))) h42)))))))))))))) ∧ ((x33 = 0) → (Q (some (.int (-1))) h32)))))))) ∧ ((x28 = 0) → (Q (some (.int (-3))) h27)))))) := by
  have F := R.1
  have Z := R.2.1
  have z1 := Z.1
  refine sp_Mod_isSignature F R.2.2.2.1 hc hd (fun hv => ⟨_, rfl, F, fun _ => ?_, fun z => absurd z (by decide)⟩) (fun hv => ⟨_, rfl, F, fun z => absurd rfl z, fun _ => h3 hv⟩)
  have hq := h0 hv
  refine sp_Mod_isObject F Z (fun h2 C2 => ⟨_, rfl, C2.scr.ok F, ?_⟩)
  have C2s := C2.scr
  have R2 := R.scr C2s
  have S2 := S.scr C2s
  have N2 := N.scr C2s
  have F2 := R2.1
  have Z2 := R2.2.1
  have same : sg_prm T n life now ob ok AC AU OR CE us ct snd k = sg_same0 (-1) AC AU OR CE us ct → Q (some (.int (-1))) h2 := fun e => by
    have K := hq h2 (C2s.sub (fun x j z => z.dk))
    rw [e] at K
    exact K R2 S2 N2
  have bad : ¬ sg_obj T n → sg_prm T n life now ob ok AC AU OR CE us ct snd k = sg_same0 (-1) AC AU OR CE us ct := fun hno => by
    have hobf : ob = false := by
      cases hb : ob with
      | false => rfl
      | true => exact absurd (hob.mp hb) hno
    unfold sg_prm
    rw [if_pos hobf]
  have objiff : (tx_M T n [] 0 0 = true ∧ 0 < n ∧ T 0 = 123) ↔ sg_obj T n := by
    refine ⟨fun ⟨a, b, c⟩ => ⟨b, c, (tx_whole z1 c).mp a⟩, fun ⟨a, b, c⟩ => ⟨(tx_whole z1 b).mpr c, a, b⟩⟩
  unfold tx_B
  by_cases hobj : sg_obj T n
  · rw [if_pos (objiff.mpr hobj)]
    have hobt := hob.mpr hobj
    have hW := sg_obj_W hobj
    have hT0 := hobj.2.1
    have ho : ∀ v, sg_fl T n [111, 112] (some 0) = some v → ∃ e, tx_W T n v = some e := sg_flo (fun v hv => by cases hv; exact ⟨n, hW⟩)
    refine ⟨fun _ => ?_, fun z => absurd z (by decide)⟩
    show cd_W X m_Mod_field 0 0 0 [some (.ref 82), some (.int (nI 0)), some (.long 14320), none, none, none] [] h2 _
    refine sp_Mod_fld F2 Z2 (a := 5) (l := [111, 112]) (by decide) hW hT0 (by decide) ⟨_, rfl, F2, ?_⟩
    have opf : (∀ l, sg_op T n l = false) → sg_prm T n life now ob ok AC AU OR CE us ct snd k = sg_same0 (-1) AC AU OR CE us ct := fun hf => by
      unfold sg_prm
      rw [if_neg (by rw [hobt]; decide), hf, if_neg (by decide), hf, if_neg (by decide), hf, if_neg (by decide), hf, if_neg (by decide), hf, if_neg (by decide), hf, if_neg (by decide)]
    cases hv2 : sg_fl T n [111, 112] (some 0) with
    | none =>
      exact ⟨fun _ => same (opf (fun l => by unfold sg_op; rw [hv2])), fun z => absurd cd_op_neg z⟩
    | some v =>
      obtain ⟨e, he⟩ := ho v hv2
      have hvl := tx_W_lt he
      have hTv := Z2.2.2.2 v hvl.1
      refine ⟨fun z => absurd z (cd_op_pos (by omega)), fun _ => ?_⟩
      show cd_W X m_Mod_at 0 0 0 [some (.ref 82), some (.int (nI v))] [] h2 _
      refine sp_Mod_at F2 Z2 (by omega) ⟨_, rfl, F2, ?_⟩
      have c34 : nI (tx_at T n v) = 34 ↔ T v = 34 := by
        rw [tx_at, if_pos hvl.1, show (34 : Int32) = nI 34 by decide, nI_eq (by omega) (by decide)]
      rw [c34]
      refine ⟨fun t => ?_, fun t => same (opf (fun l => ?_))⟩
      · have hsv := tx_W_str he hvl.1 t
        show cd_W X m_Mod_packed 0 0 0 [some (.ref 82), some (.int (nI v)), none, none, none, none] [] h2 _
        have Cq : cm_Q (fun r50 h51 => ∃ x52 : Int32, r50 = some (.int x52) ∧ ((cm_ok h51) ∧ (Q (some (.int x52)) h51))) h2 T n life now NW cr gv sp (sg_prm T n life now ob ok AC AU OR CE us ct snd k) := fun h' C' R' S' N' => ⟨_, rfl, R'.1, hq h' ((C2s.sub (fun x j z => z.dk)).tr C') R' S' N'⟩
        exact sp_Mod_packed F2 Z2 hsv (fun hc1 => ⟨_, rfl, F2, sp_Mod_done R2 S2 N2 hcr I hobj hobt hok hs hk hv2 hsv (fun _ => rfl) (fun z => by omega) Cq⟩) (fun hc0 => ⟨_, rfl, F2, sp_Mod_done R2 S2 N2 hcr I hobj hobt hok hs hk hv2 hsv (fun z => by omega) (fun _ => rfl) Cq⟩)
      · unfold sg_op
        rw [hv2]
        simp only
        unfold sg_spB
        have : tx_s T n v = none := by rw [tx_s, if_neg (fun z => t z.2)]
        rw [this]
        rfl
  · rw [if_neg (fun z => hobj (objiff.mp z))]
    exact ⟨fun z => absurd rfl z, fun _ => same (bad hobj)⟩
theorem sp_Mod_asked_10 {v1 x2 x3 x4 : Int32} : ∀ (r j d : Nat) (h : cd_H), r + j = n → cm_ok h → cm_txt h T n → cd_l h 82 7 = lN d → d < 2147483647 → (∀ h', cm_dd h h' → cd_l h' 82 7 = lN ((List.range' j r).foldl (fun x u => cd_dg x (T u)) d) → cm_txt h' T n → cd_W X m_Mod_asked kc ks 10 [some (.ref 82), some (.int v1), some (.int x2), some (.int x3), some (.int x4), some (.int (nI n)), none, none, none] [] h' Q) → cd_W X m_Mod_asked kc ks 10 [some (.ref 82), some (.int v1), some (.int x2), some (.int x3), some (.int x4), some (.int (nI j)), none, none, none] [] h Q := by
  intro r
  induction r with
  | zero =>
    intro j d h hj F Z hd hd2 hq
    have e : j = n := by omega
    rw [e] at hq ⊢
    exact hq h (cm_dd.rf h) hd Z
  | succ r ih =>
    intro j d h hj F Z hd hd2 hq
    have z1 := Z.1
    have hT := Z.2.2.2 j (by omega)
    refine g_Mod_asked_10 F ⟨fun t => ?_, fun _ => ⟨vp_in_nI (by omega) (by decide), ?_⟩⟩
    · rw [Z.2.1, nI_leI (by omega) (by omega)] at t
      omega
    · rw [nI_clamp (by omega), Z.2.2.1 j (by omega), nI_1]
      have C1 := cm_dd.sl h (lN (cd_dg d (T j)))
      refine sp_Mod_put F hd hd2 (by omega) ⟨rfl, C1.ok F, ?_⟩
      exact ih (j + 1) _ _ (by omega) (C1.ok F) Z (cm_l7 _ _) (cd_dg_lt _ _) (fun h' C' e' Z' => hq h' (C1.tr C') e' Z')
theorem cm_R.m13 {sig : Nat} (R : cm_R h T n life now NW AC AU OR CE) : cm_R (cd_si h 82 13 (nI sig)) T n life now NW AC AU OR CE := by
  obtain ⟨F, Z, K, Ky, W, Aa, U, O, Ce⟩ := R
  have e : ∀ x j, ¬ (x = 82 ∧ j = 13) → cd_i (cd_si h 82 13 (nI sig)) x j = cd_i h x j := fun x j hx => by rw [cd_i_si, if_neg hx]
  exact ⟨F.of rfl rfl, Z.of (fun x j hx => e x j (by omega)), K.of (fun j hj => e 82 j (by omega)), Ky.of (fun x j hx => e x j (by omega)), W.of (fun x j hx => e x j (by omega)), Aa.of (fun x j hx => e x j (by omega)), U.of (fun x j hx => e x j (by omega)), O.of (Nat.le_refl _) (Nat.le_refl _) (fun x j hx => e x j (by omega)), Ce.of (Nat.le_refl _) (fun x j hx => e x j (by omega))⟩
theorem cm_R.m89 {p : Nat} {v : Int32} (R : cm_R h T n life now NW AC AU OR CE) : cm_R (cd_si h 89 p v) T n life now NW AC AU OR CE := by
  obtain ⟨F, Z, K, Ky, W, Aa, U, O, Ce⟩ := R
  have e : ∀ x j, ¬ x = 89 → cd_i (cd_si h 89 p v) x j = cd_i h x j := fun x j hx => cd_ne hx _ _ _ _
  exact ⟨F.of rfl rfl, Z.of (fun x j hx => e x j (by omega)), K.of (fun j hj => e 82 j (by omega)), Ky.of (fun x j hx => e x j (by omega)), W.of (fun x j hx => e x j (by omega)), Aa.of (fun x j hx => e x j (by omega)), U.of (fun x j hx => e x j (by omega)), O.of (Nat.le_refl _) (Nat.le_refl _) (fun x j hx => e x j (by omega)), Ce.of (Nat.le_refl _) (fun x j hx => e x j (by omega))⟩
theorem sp_Mod_asked (R : cm_R h T n life now NW AC AU OR CE) (S : cm_sto h us ct) (N : cm_non h cr gv sp) (hcr : cr < 1000) (I : sg_I AC AU OR CE) {ob ok : Bool} (hob : ob = true ↔ sg_obj T n) (hok : ∀ l, tx_z T n (sg_fl T n [110, 97, 109, 101, 115] (some 0)) = some l → (ok = true ↔ ((1 ≤ l.length ∧ l.length ≤ 3) ∧ sg_nok T n l))) {k : Nat} (hk : k < 4) {x2 x3 x4 : Int32}
    (h2 : ¬ tx_good cr gv sp x2 → ∀ h', cm_ch cm_Mq h h' → cm_R h' T n life now NW AC AU OR CE → cm_sto h' us ct → cm_non h' cr gv sp → cd_i h' 82 13 = nI (sg_sig k (sg_rq T n x2 x3)) → Q (some (.int (-2))) h')
    (h3 : ∀ p, p < gv → x2 = nI (1000 * cr + p) → sp p = false → ¬ sg_adm AC k x3 x4 (sg_rq T n x2 x3) → ∀ h', cm_ch cm_Mq h h' → cm_R h' T n life now NW AC AU OR CE → cm_sto h' us ct → cm_non h' cr gv (fun j => if j = p then true else sp j) → cd_i h' 82 13 = nI (sg_sig k (sg_rq T n x2 x3)) → Q (some (.int (-3))) h')
    (h0 : ∀ p, p < gv → x2 = nI (1000 * cr + p) → sp p = false → sg_adm AC k x3 x4 (sg_rq T n x2 x3) → ∀ Rs : sg_Rs, Rs = sg_prm T n life now ob ok AC AU OR CE us ct (sg_sn x3) k → ∀ h', cm_ch cm_Mq h h' → cm_R h' T n life now NW Rs.2.1 Rs.2.2.1 Rs.2.2.2.1 Rs.2.2.2.2.1 → cm_sto h' Rs.2.2.2.2.2.1 Rs.2.2.2.2.2.2.1 → cm_non h' (sg_ncr Rs.2.2.2.2.2.2.2 cr) (sg_ngv Rs.2.2.2.2.2.2.2 gv) (sg_nsp Rs.2.2.2.2.2.2.2 (fun j => if j = p then true else sp j)) → cd_i h' 82 13 = nI (sg_sig k (sg_rq T n x2 x3)) → Q (some (.int Rs.1)) h') :
    cd_W X m_Mod_asked kc ks 0 [some (.ref 82), some (.int (nI k)), some (.int x2), some (.int x3), some (.int x4), none, none, none, none] [] h Q := by
  have F := R.1
  have hd := sg_rq_lt T n x2 x3
  refine g_Mod_asked F ?_
  have C1 := cm_dd.sl h (7 : Int64)
  show cd_W X m_Mod_asked kc ks 10 [some (.ref 82), some (.int (nI k)), some (.int x2), some (.int x3), some (.int x4), some (.int (nI 0)), none, none, none] [] (cd_sl h 82 7 7) Q
  refine sp_Mod_asked_10 (T := T) (n := n) n 0 7 _ (by omega) (C1.ok F) R.2.1 (cm_l7 _ _) (by decide) (fun h1 D1 l1 Z1 => ?_)
  have CD1 := C1.tr D1
  have F1 := CD1.ok F
  have z1 := Z1.1
  refine g_Mod_asked_10 F1 ⟨fun _ => ?_, fun t => absurd (by rw [Z1.2.1]; exact nI_le (Nat.le_refl _) (by omega)) t⟩
  show cd_W X m_Mod_put 0 0 0 [some (.ref 82), some (.int (nI 124))] [] h1 _
  have D2 := cm_dd.sl h1 (lN (cd_dg (sg_nd T n) 124))
  refine sp_Mod_put F1 l1 (sg_nd_lt T n) (by decide) ⟨rfl, D2.ok F1, ?_⟩
  refine sp_Mod_putNumberI (D2.ok F1) (cm_l7 _ _) (cd_dg_lt _ _) (fun h3' D3 l3 => ⟨rfl, D3.ok (D2.ok F1), ?_⟩)
  have F3 := D3.ok (D2.ok F1)
  show cd_W X m_Mod_put 0 0 0 [some (.ref 82), some (.int (nI 124))] [] h3' _
  have D4 := cm_dd.sl h3' (lN (cd_dg (cd_numI (cd_dg (sg_nd T n) 124) x2) 124))
  refine sp_Mod_put F3 l3 (cd_numI_lt (cd_dg_lt _ _) _) (by decide) ⟨rfl, D4.ok F3, ?_⟩
  refine sp_Mod_putNumberI (D4.ok F3) (cm_l7 _ _) (cd_dg_lt _ _) (fun h5 D5 l5 => ⟨rfl, D5.ok (D4.ok F3), ?_⟩)
  have CD5 : cm_ch cm_scr h h5 := ((((CD1.tr D2).tr D3).tr D4).tr D5).scr
  have l5' : cd_l h5 82 7 = lN (sg_rq T n x2 x3) := l5
  rw [l5']
  have R5 := R.scr CD5
  have S5 := S.scr CD5
  have N5 := N.scr CD5
  refine sp_Mod_sgn R5.1 R5.2.2.2.1 (by omega) (by omega) ⟨_, rfl, R5.1, ?_⟩
  generalize hsg : sg_sig k (sg_rq T n x2 x3) = sig at *
  have R6 : cm_R (cd_si h5 82 13 (nI sig)) T n life now NW AC AU OR CE := R5.m13
  have S6 : cm_sto (cd_si h5 82 13 (nI sig)) us ct := S5.of (fun j hj => by rw [cd_i_si, if_neg (by omega)])
  have N6 : cm_non (cd_si h5 82 13 (nI sig)) cr gv sp := N5.of (fun x j hx => by rw [cd_i_si, if_neg (by omega)])
  have e6 : cd_i (cd_si h5 82 13 (nI sig)) 82 13 = nI sig := by rw [cd_i_si, if_pos ⟨rfl, rfl⟩]
  have C6 : cm_ch cm_Mq h (cd_si h5 82 13 (nI sig)) := (CD5.sub (fun x j z => ⟨z.dk.1, z.dk.2.1⟩)).tr (cm_ch.si ⟨by decide, by decide⟩)
  generalize cd_si h5 82 13 (nI sig) = h6 at *
  refine sp_Mod_good R6.1 N6 (fun p hp ex sp0 => ⟨_, rfl, R6.1, fun _ => ?_, fun z => absurd z (by decide)⟩) (fun hng => ⟨_, rfl, R6.1, fun z => absurd rfl z, fun _ => h2 hng h6 C6 R6 S6 N6 e6⟩)
  have hgv := N6.2.1
  have hcrl := N6.1
  have ep : x2 - 1000 * cd_i h6 82 10 = nI p := by
    rw [N6.2.2.1, ex, show (1000 : Int32) = nI 1000 by decide, pk_mul, pk_sub (by omega)]
    congr 1
    omega
  rw [ep, nI_clamp (by omega)]
  have R7 : cm_R (cd_si h6 89 p (vp_nar .boolean 1)) T n life now NW AC AU OR CE := R6.m89
  have S7 : cm_sto (cd_si h6 89 p (vp_nar .boolean 1)) us ct := S6.of (fun j hj => cd_ne (by decide) _ _ _ _)
  have N7 : cm_non (cd_si h6 89 p (vp_nar .boolean 1)) cr gv (fun j => if j = p then true else sp j) := by
    obtain ⟨n1, n2, n3, n4, n5, n6⟩ := N6
    refine ⟨n1, n2, by rw [cd_ne (by decide)]; exact n3, by rw [cd_ne (by decide)]; exact n4, fun q hq => ?_, fun q hq => ?_⟩
    · rw [cd_i_si]
      show _ = if (if q = p then true else sp q) = true then (1 : Int32) else 0
      by_cases e : q = p
      · rw [if_pos ⟨rfl, e⟩, if_pos e]; rfl
      · rw [if_neg (fun z => e z.2), if_neg e]; exact n5 q hq
    · show (if q = p then true else sp q) = false
      rw [if_neg (by omega)]
      exact n6 q hq
  have e7 : cd_i (cd_si h6 89 p (vp_nar .boolean 1)) 82 13 = nI sig := by rw [cd_ne (by decide)]; exact e6
  have C7 : cm_ch cm_Mq h (cd_si h6 89 p (vp_nar .boolean 1)) := C6.tr (cm_ch.si ⟨by decide, by decide⟩)
  generalize cd_si h6 89 p (vp_nar .boolean 1) = h7 at *
  rw [e7, R7.2.2.2.2.2.1.2.1]
  have a1 := R7.2.2.2.2.2.1.1
  have fin : ∀ c, c < 4 → sg_who AC k x3 = some c → (∀ i, sg_sn x3 = some i → i < AC.length) → cd_op (sg_sn x3) = x3 → cd_W X m_Mod_isSignature 0 0 0 [some (.ref 82), some (.int (nI sig ^^^ x4)), some (.long (lN (sg_rq T n x2 x3))), none, some (.int (nI c)), none, none] [] h7 (fun r26 h27 => ∃ x28 : Int32, r26 = some (.int x28) ∧ ((cm_ok h27) ∧ ((((¬ x28 = 0) → (cd_W X m_Mod_isObject 0 0 0 [some (.ref 82), none, none, none, none, none, none] [] h27 (fun r31 h32 => ∃ x33 : Int32, r31 = some (.int x33) ∧ ((cm_ok h32) ∧ ((((¬ x33 = 0) → (cd_W X m_Mod_field 0 0 0 [some (.ref 82), some (.int 0), some (.long 14320), none, none, none] [] h32 (fun r36 h37 => ∃ x38 : Int32, r36 = some (.int x38) ∧ ((cm_ok h37) ∧ ((((x38 < 0) → (Q (some (.int (-1))) h37)) ∧ ((¬ x38 < 0) → (cd_W X m_Mod_at 0 0 0 [some (.ref 82), some (.int x38)] [] h37 (fun r41 h42 => ∃ x43 : Int32, r41 = some (.int x43) ∧ ((cm_ok h42) ∧ ((((x43 = 34) → (cd_W X m_Mod_packed 0 0 0 [some (.ref 82), some (.int x38), none, none, none, none] [] h42 (fun r46 h47 => ∃ x48 : Int64, r46 = some (.long x48) ∧ ((cm_ok h47) ∧ (cd_W X m_Mod_done 0 0 0 [some (.ref 82), some (.long x48), none, some (.int (nI k)), some (.int x3)] [] h47 (fun r50 h51 => ∃ x52 : Int32, r50 = some (.int x52) ∧ ((cm_ok h51) ∧ (Q (some (.int x52)) h51)))))))) ∧ ((¬ x43 = 34) → (Q (some (.int (-1))) h42)))))))))))))) ∧ ((x33 = 0) → (Q (some (.int (-1))) h32)))))))) ∧ ((x28 = 0) → (Q (some (.int (-3))) h27)))))) := fun c hc hw hsn hop => by
    have TL := sp_Mod_asked_tail (X := X) (Q := Q) (x4 := x4) (k := k) (c := c) (d := sg_rq T n x2 x3) (sig := sig) (snd := sg_sn x3) R7 S7 N7 hcr I hob hok hsn hk (by omega) (by omega) (fun hv => h3 p hp ex sp0 (fun ⟨c', hc', hv'⟩ => by
      rw [hw] at hc'
      cases hc'
      rw [hsg] at hv'
      exact hv hv') h7 C7 R7 S7 N7 e7) (fun hv h' C' R' S' N' => h0 p hp ex sp0 ⟨c, hw, by rw [hsg]; exact hv⟩ _ rfl h' (C7.tr (C'.sub (fun x j z => ⟨z.1, z.2.1⟩))) R' S' N' (by rw [C'.2.2.2 82 13 (fun z => z.2.2 ⟨rfl, rfl⟩)]; exact e7))
    rw [hop] at TL
    exact TL
  have no3 : (∀ c, ¬ sg_who AC k x3 = some c) → Q (some (.int (-3))) h7 := fun hw => h3 p hp ex sp0 (fun ⟨c, hc, _⟩ => hw c hc) h7 C7 R7 S7 N7 e7
  refine ⟨vp_in_nI (by omega) (by decide), fun t => ⟨fun t2 => ?_, fun t2 => no3 (fun c hc => ?_)⟩, fun t => ?_⟩
  · refine fin k hk (by rw [sg_who, if_pos t2]) (fun i hi => ?_) (by rw [sg_sn, if_pos t2, t2]; rfl)
    rw [sg_sn, if_pos t2] at hi
    cases hi
  · rw [sg_who, if_neg t2, sg_ix_neg t (by omega)] at hc
    cases hc
  · obtain ⟨i, hil, rfl⟩ := nI_of t
    have ne1 : ¬ nI i = -1 := fun z => by rw [z] at t; exact absurd (by decide) t
    have ewho : sg_who AC k (nI i) = match AC[i]? with
      | none => none
      | some a => if a.2 then none else some a.1 := by
      rw [sg_who, if_neg ne1, sg_ix_nI hil]
      cases AC[i]? <;> rfl
    rw [nI_leI (by omega) hil, nI_clamp hil]
    refine ⟨fun t2 => ⟨fun t3 => absurd t3 ne1, fun t3 => no3 (fun c hc => ?_)⟩, fun t2 => ⟨vp_in_nI (by omega) (by decide), ?_⟩⟩
    · rw [ewho, List.getElem?_eq_none t2] at hc
      cases hc
    · have ea : AC[i]? = some (AC[i]'(by omega)) := List.getElem?_eq_getElem (by omega)
      obtain ⟨b1, b2, b3⟩ := R7.2.2.2.2.2.1.2.2.1 i _ ea
      rw [ea] at ewho
      simp only at ewho
      rw [b3, b1]
      refine ⟨fun t3 => ⟨fun t4 => absurd t4 ne1, fun t4 => no3 (fun c hc => ?_)⟩, fun t3 => ⟨fun t4 => absurd t4 ne1, fun t4 => ?_⟩⟩
      · rw [ewho] at hc
        cases hcl : (AC[i]'(by omega)).2 with
        | true => rw [hcl] at hc; cases hc
        | false => rw [hcl] at t3; exact absurd rfl t3
      · have hcl : (AC[i]'(by omega)).2 = false := by
          cases hcl : (AC[i]'(by omega)).2 with
          | false => rfl
          | true => rw [hcl] at t3; exact absurd t3 (by decide)
        rw [hcl] at ewho
        refine fin _ b2 ewho (fun j hj => ?_) (by rw [sg_sn, if_neg ne1, sg_ix_nI hil]; rfl)
        rw [sg_sn, if_neg ne1, sg_ix_nI hil] at hj
        cases hj
        omega
theorem cm_R.m2 (R : cm_R h T n life now NW AC AU OR CE) : cm_R (cd_si h 82 2 0) T 0 life now NW AC AU OR CE := by
  obtain ⟨F, Z, K, Ky, W, Aa, U, O, Ce⟩ := R
  have e : ∀ x j, ¬ (x = 82 ∧ j = 2) → cd_i (cd_si h 82 2 0) x j = cd_i h x j := fun x j hx => by rw [cd_i_si, if_neg hx]
  exact ⟨F.of rfl rfl, ⟨Nat.zero_le _, by rw [cd_i_si, if_pos ⟨rfl, rfl⟩]; rfl, fun j hj => by omega, fun j hj => by omega⟩, K.of (fun j hj => e 82 j (by omega)), Ky.of (fun x j hx => e x j (by omega)), W.of (fun x j hx => e x j (by omega)), Aa.of (fun x j hx => e x j (by omega)), U.of (fun x j hx => e x j (by omega)), O.of (Nat.le_refl _) (Nat.le_refl _) (fun x j hx => e x j (by omega)), Ce.of (Nat.le_refl _) (fun x j hx => e x j (by omega))⟩
theorem sp_Mod_request (R : cm_R h T n life now NW AC AU OR CE) (S : cm_sto h us ct) (N : cm_non h cr gv sp) (hcr : cr < 1000) (I : sg_I AC AU OR CE) {ob ok : Bool} (hob : ob = true ↔ sg_obj T n) (hok : ∀ l, tx_z T n (sg_fl T n [110, 97, 109, 101, 115] (some 0)) = some l → (ok = true ↔ ((1 ≤ l.length ∧ l.length ≤ 3) ∧ sg_nok T n l))) {x1 x2 x3 x4 : Int32}
    (h7 : sg_ck x1 = none → ∀ h', cm_ch cm_Mq h h' → cm_R h' T 0 life now NW AC AU OR CE → cm_sto h' us ct → cm_non h' cr gv sp → cd_i h' 82 13 = cd_i h 82 13 → Q (some (.int (-7))) h')
    (h2 : ∀ k, k < 4 → x1 = nI k → ¬ tx_good cr gv sp x2 → ∀ h', cm_ch cm_Mq h h' → cm_R h' T 0 life now NW AC AU OR CE → cm_sto h' us ct → cm_non h' cr gv sp → cd_i h' 82 13 = nI (sg_sig k (sg_rq T n x2 x3)) → Q (some (.int (-2))) h')
    (h3 : ∀ k p, k < 4 → x1 = nI k → p < gv → x2 = nI (1000 * cr + p) → sp p = false → ¬ sg_adm AC k x3 x4 (sg_rq T n x2 x3) → ∀ h', cm_ch cm_Mq h h' → cm_R h' T 0 life now NW AC AU OR CE → cm_sto h' us ct → cm_non h' cr gv (fun j => if j = p then true else sp j) → cd_i h' 82 13 = nI (sg_sig k (sg_rq T n x2 x3)) → Q (some (.int (-3))) h')
    (h0 : ∀ k p, k < 4 → x1 = nI k → p < gv → x2 = nI (1000 * cr + p) → sp p = false → sg_adm AC k x3 x4 (sg_rq T n x2 x3) → ∀ Rs : sg_Rs, Rs = sg_prm T n life now ob ok AC AU OR CE us ct (sg_sn x3) k → ∀ h', cm_ch cm_Mq h h' → cm_R h' T 0 life now NW Rs.2.1 Rs.2.2.1 Rs.2.2.2.1 Rs.2.2.2.2.1 → cm_sto h' Rs.2.2.2.2.2.1 Rs.2.2.2.2.2.2.1 → cm_non h' (sg_ncr Rs.2.2.2.2.2.2.2 cr) (sg_ngv Rs.2.2.2.2.2.2.2 gv) (sg_nsp Rs.2.2.2.2.2.2.2 (fun j => if j = p then true else sp j)) → cd_i h' 82 13 = nI (sg_sig k (sg_rq T n x2 x3)) → Q (some (.int Rs.1)) h') :
    cd_W X m_Mod_request kc ks 0 [some (.ref 82), some (.int x1), some (.int x2), some (.int x3), some (.int x4), none] [] h Q := by
  have F := R.1
  have clrC : ∀ h1 : cd_H, cm_ch cm_Mq h h1 → cm_ch cm_Mq h (cd_si h1 82 2 0) := fun h1 C => C.tr (cm_ch.si ⟨by decide, by decide⟩)
  have clrS : ∀ (h1 : cd_H) a b, cm_sto h1 a b → cm_sto (cd_si h1 82 2 0) a b := fun h1 a b S' => S'.of (fun j hj => by rw [cd_i_si, if_neg (by omega)])
  have clrN : ∀ (h1 : cd_H) a b c, cm_non h1 a b c → cm_non (cd_si h1 82 2 0) a b c := fun h1 a b c N' => N'.of (fun x j hx => by rw [cd_i_si, if_neg (by omega)])
  have clr13 : ∀ h1 : cd_H, cd_i (cd_si h1 82 2 0) 82 13 = cd_i h1 82 13 := fun h1 => by rw [cd_i_si, if_neg (by omega)]
  have none7 : ¬ sg_ix x1 < 4 → Q (some (.int (-7))) (cd_si h 82 2 0) := fun hn => h7 (by rw [sg_ck, if_neg hn]) _ (clrC h (cm_ch.rf _ _)) R.m2 (clrS _ _ _ S) (clrN _ _ _ _ N) (clr13 h)
  refine g_Mod_request F ⟨fun t => none7 (by rw [sg_ix, if_pos t]; decide), fun t => ?_⟩
  obtain ⟨k, hkl, rfl⟩ := nI_of t
  rw [sg_ix_nI hkl] at none7
  rw [show (3 : Int32) = nI 3 by decide, nI_leI hkl (by decide)]
  refine ⟨fun t2 => ?_, fun t2 => none7 (by omega)⟩
  refine sp_Mod_asked R S N hcr I hob hok (by omega : k < 4) (fun hng h' C' R' S' N' e' => ⟨_, rfl, R'.1, h2 k (by omega) rfl hng _ (clrC h' C') R'.m2 (clrS _ _ _ S') (clrN _ _ _ _ N') ((clr13 h').trans e')⟩) (fun p hp ex sp0 nad h' C' R' S' N' e' => ⟨_, rfl, R'.1, h3 k p (by omega) rfl hp ex sp0 nad _ (clrC h' C') R'.m2 (clrS _ _ _ S') (clrN _ _ _ _ N') ((clr13 h').trans e')⟩) (fun p hp ex sp0 ad Rs eRs h' C' R' S' N' e' => ⟨_, rfl, R'.1, h0 k p (by omega) rfl hp ex sp0 ad Rs eRs _ (clrC h' C') R'.m2 (clrS _ _ _ S') (clrN _ _ _ _ N') ((clr13 h').trans e')⟩)
end VMR
