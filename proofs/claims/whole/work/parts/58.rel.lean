def sg_fate (us : Nat) (ct : Option Nat) (w : Nat) : Nat := if 200 < us + w then 1 else match ct with
  | none => 4
  | some c => if w ≤ c then 3 else 2
def sg_fx (f : Nat) : Bool := decide (f = 2 ∨ f = 3)
def sg_fc (f : Nat) : Bool := decide (3 ≤ f)
def sg_fa (f : Nat) (AU : List sg_U) : List sg_U := if sg_fx f then AU.map sg_cr else AU
def sg_fr (f : Nat) (d : Int32) : Int32 := if sg_fx f then -6 else if sg_fc f then d else -5
def sg_fu (f us w : Nat) : Nat := if sg_fc f then us + w else us
def sg_ft (f : Nat) (ct : Option Nat) : Option Nat := if f = 1 then ct else none
theorem sg_fa_nm (f : Nat) (AU : List sg_U) : (sg_fa f AU).map sg_nm = AU.map sg_nm := by
  unfold sg_fa
  split
  · exact sg_cr_nm AU
  · rfl
theorem sg_fa_len (f : Nat) (AU : List sg_U) : (sg_fa f AU).length = AU.length := by
  unfold sg_fa
  split
  · exact List.length_map _
  · rfl
abbrev sg_Rs : Type := Int32 × List sg_A × List sg_U × List sg_O × List sg_C × Nat × Option Nat × Bool
def sg_same0 (r : Int32) (AC : List sg_A) (AU : List sg_U) (OR : List sg_O) (CE : List sg_C) (us : Nat) (ct : Option Nat) : sg_Rs := (r, AC, AU, OR, CE, us, ct, false)
def cc_isl (h : cd_H) (ords : List Nat) (a : Nat) : Prop := a = 78 ∨ a = 79 ∨ a = 80 ∨ a = 81 ∨ ∃ x, x ∈ ords ∧ cd_r h x 2 = some a
def cc_sp (h : cd_H) (L : Nat → Prop) : Prop := (∀ a a' b, L a → L a' → cd_r h a 0 = some b → cd_r h a' 0 = some b → 64 ≤ b → a = a') ∧ ∀ a b, L a → cd_r h a 0 = some b → 64 ≤ b → 114 ≤ b
def cc_sep (h : cd_H) (ords : List Nat) : Prop := cc_sp h (cc_isl h ords)
theorem cc_sp.of {h h' : cd_H} {L L' : Nat → Prop} (S : cc_sp h L) (e : ∀ a, L' a → L a) (e2 : ∀ a, L' a → cd_r h' a 0 = cd_r h a 0) : cc_sp h' L' := by
  refine ⟨fun a a' b h1 h2 h3 h4 h5 => ?_, fun a b h1 h2 h3 => ?_⟩
  · rw [e2 a h1] at h3
    rw [e2 a' h2] at h4
    exact S.1 a a' b (e a h1) (e a' h2) h3 h4 h5
  · rw [e2 a h1] at h2
    exact S.2 a b (e a h1) h2 h3
theorem cc_sp.add {h h' : cd_H} {L : Nat → Prop} {a b b' : Nat} (S : cc_sp h L) (La : L a) (hr : cd_r h a 0 = some b) (e : ∀ x, L x → ¬ x = a → cd_r h' x 0 = cd_r h x 0) (hb : cd_r h' a 0 = some b') (hb2 : b' = b ∨ cd_n h ≤ b') (bd : ∀ x c, L x → cd_r h x 0 = some c → c < cd_n h) (hn : 114 ≤ cd_n h) : cc_sp h' L := by
  have one : ∀ x, L x → ¬ x = a → cd_r h' x 0 = some b' → 64 ≤ b' → x = a := fun x hx hne hxr h64 => by
    rw [e x hx hne] at hxr
    rcases hb2 with z | z
    · rw [z] at hxr h64
      exact S.1 x a b hx La hxr hr h64
    · have := bd x b' hx hxr
      omega
  refine ⟨fun x x' c h1 h2 h3 h4 h5 => ?_, fun x c h1 h2 h3 => ?_⟩
  · by_cases e1 : x = a
    · by_cases e2 : x' = a
      · rw [e1, e2]
      · rw [e1, hb] at h3
        cases h3
        exact e1.trans (one x' h2 e2 h4 h5).symm
    · by_cases e2 : x' = a
      · rw [e2, hb] at h4
        cases h4
        exact (one x h1 e1 h3 h5).trans e2.symm
      · rw [e x h1 e1] at h3
        rw [e x' h2 e2] at h4
        exact S.1 x x' c h1 h2 h3 h4 h5
  · by_cases e1 : x = a
    · rw [e1, hb] at h2
      cases h2
      rcases hb2 with z | z
      · rw [z] at h3 ⊢
        exact S.2 a b La hr h3
      · omega
    · rw [e x h1 e1] at h2
      exact S.2 x c h1 h2 h3
def cd_csL : List (Nat × List Nat) := [(5, [111, 112]), (6, [110, 101, 119]), (7, [111, 114, 100, 101, 114]), (8, [110, 97, 109, 101, 115]), (9, [116, 114, 121]), (10, [97, 117, 116, 104]), (11, [119, 97, 121]), (12, [102, 105, 110, 105, 115, 104]), (13, [99, 115, 114]), (14, [107, 101, 121]), (15, [114, 101, 118, 111, 107, 101]), (16, [115, 101, 114, 105, 97, 108]), (17, [119, 104, 121]), (18, [99, 108, 111, 115, 101])]
def cd_csN (l : List Nat) (j : Nat) : Nat := l.getD j 0
def cc_cs (h : cd_H) : Prop := ∀ q ∈ cd_csL, cc_str h q.1 (cd_csN q.2) q.2.length ∧ ∃ b, cd_r h q.1 0 = some b ∧ b < 64
def cc_R (h : cd_H) (T : Nat → Nat) (n life now : Nat) (NW : Nat → Option Nat) (AC : List sg_A) (AU : List sg_U) (OR : List sg_O) (CE : List sg_C) (accs auts ords cers : List Nat) (b1 c1 b2 c2 b3 c3 b4 c4 : Nat) : Prop := (cc_ok h ∧ 114 ≤ cd_n h ∧ cc_fat h ∧ cc_cs h ∧ cc_kys h ∧ cc_keys h ∧ cc_clk h life now ∧ cc_net h NW ∧ cc_txt h T n) ∧ cc_acc h AC accs b1 c1 ∧ cc_aut h now accs AU auts b2 c2 ∧ cc_ord h now accs auts OR ords b3 c3 ∧ cc_cer h now accs AU OR CE cers b4 c4 ∧ cc_sep h ords
def cc_P (h : cd_H) (T : Nat → Nat) (n life now : Nat) (NW : Nat → Option Nat) (AC : List sg_A) (AU : List sg_U) (OR : List sg_O) (CE : List sg_C) : Prop := ∃ accs auts ords cers b1 c1 b2 c2 b3 c3 b4 c4, cc_R h T n life now NW AC AU OR CE accs auts ords cers b1 c1 b2 c2 b3 c3 b4 c4
def cm_R (h : cd_H) (T : Nat → Nat) (n life now : Nat) (NW : Nat → Option Nat) (AC : List sg_A) (AU : List sg_U) (OR : List sg_O) (CE : List sg_C) : Prop := cm_ok h ∧ cm_txt h T n ∧ cm_clk h life now ∧ cm_kys h ∧ cm_net h NW ∧ cm_acc h AC ∧ cm_aut h now AC AU ∧ cm_ord h now AC AU OR ∧ cm_cer h now OR CE
def cc_Dk (x : Nat) : Prop := (65 ≤ x ∧ x < 82) ∨ 114 ≤ x
def cm_Dk (x j : Nat) : Prop := 82 ≤ x ∧ x ≤ 113 ∧ ¬ (x = 82 ∧ j = 13)
def cc_Q (Q : Option Value → cd_H → Prop) (h : cd_H) (T : Nat → Nat) (n life now : Nat) (NW : Nat → Option Nat) (cr gv : Nat) (sp : Nat → Bool) (R : sg_Rs) : Prop := ∀ h', cd_ch cc_Dk h h' → cc_P h' T n life now NW R.2.1 R.2.2.1 R.2.2.2.1 R.2.2.2.2.1 → cc_sto h' R.2.2.2.2.2.1 R.2.2.2.2.2.2.1 → cc_non h' (sg_ncr R.2.2.2.2.2.2.2 cr) (sg_ngv R.2.2.2.2.2.2.2 gv) (sg_nsp R.2.2.2.2.2.2.2 sp) → Q (some (.int R.1)) h'
def cm_Q (Q : Option Value → cd_H → Prop) (h : cd_H) (T : Nat → Nat) (n life now : Nat) (NW : Nat → Option Nat) (cr gv : Nat) (sp : Nat → Bool) (R : sg_Rs) : Prop := ∀ h', cm_ch cm_Dk h h' → cm_R h' T n life now NW R.2.1 R.2.2.1 R.2.2.2.1 R.2.2.2.2.1 → cm_sto h' R.2.2.2.2.2.1 R.2.2.2.2.2.2.1 → cm_non h' (sg_ncr R.2.2.2.2.2.2.2 cr) (sg_ngv R.2.2.2.2.2.2.2 gv) (sg_nsp R.2.2.2.2.2.2.2 sp) → Q (some (.int R.1)) h'
section VRE
variable {X : cd_E} {kc ks : Nat} {h h' : cd_H} {Q : Option Value → cd_H → Prop} {A : Nat → Prop} {T : Nat → Nat} {n life now cr gv us w : Nat} {sp : Nat → Bool} {ct : Option Nat} {NW : Nat → Option Nat} {AC : List sg_A} {AU AU' : List sg_U} {OR : List sg_O} {CE : List sg_C} {accs auts ords cers : List Nat} {b1 c1 b2 c2 b3 c3 b4 c4 : Nat}
theorem cc_cs.ch (S : cc_cs h) (C : cd_ch A h h') (hn : 64 ≤ cd_n h) (hA : ∀ x, x < 64 → ¬ A x) : cc_cs h' := fun q hq => by
  have h64 : q.1 < 64 := (by decide : ∀ q ∈ cd_csL, q.1 < 64) q hq
  obtain ⟨⟨s1, s2, s3, b, s4, s5, s6⟩, b', t1, t2⟩ := S q hq
  cases s4.symm.trans t1
  obtain ⟨p1, p2, p3⟩ := C.2.2 q.1 (by omega) (hA _ h64)
  obtain ⟨q1, q2, q3⟩ := C.2.2 b (by omega) (hA _ t2)
  exact ⟨⟨by rw [C.2.1 _ (by omega)]; exact s1, by rw [p1]; exact s2, s3, b, by rw [p3]; exact s4, by rw [C.2.1 b (by omega)]; exact s5, fun j hj => by rw [q1]; exact s6 j hj⟩, b, by rw [p3]; exact t1, t2⟩
theorem cc_sep.of (S : cc_sep h ords) (e1 : ∀ x, x ∈ ords → cd_r h' x 2 = cd_r h x 2) (e2 : ∀ a, cc_isl h ords a → cd_r h' a 0 = cd_r h a 0) : cc_sep h' ords := by
  have e : ∀ a, cc_isl h' ords a → cc_isl h ords a := fun a ha => by
    rcases ha with ha | ha | ha | ha | ⟨x, hx, ha⟩
    · exact Or.inl ha
    · exact Or.inr (Or.inl ha)
    · exact Or.inr (Or.inr (Or.inl ha))
    · exact Or.inr (Or.inr (Or.inr (Or.inl ha)))
    · exact Or.inr (Or.inr (Or.inr (Or.inr ⟨x, hx, by rw [← e1 x hx]; exact ha⟩)))
  exact cc_sp.of S e (fun a ha => e2 a (e a ha))
theorem sg_nmU_cg {p : Nat} (e : AU'.map sg_nm = AU.map sg_nm) : sg_nmU AU' p = sg_nmU AU p := by
  have : (AU'.map sg_nm)[p]? = (AU.map sg_nm)[p]? := by rw [e]
  rw [List.getElem?_map, List.getElem?_map] at this
  unfold sg_nmU
  cases h1 : AU'[p]? with
  | none =>
    rw [h1] at this
    cases h2 : AU[p]? with
    | none => rfl
    | some u => rw [h2] at this; cases this
  | some v =>
    rw [h1] at this
    cases h2 : AU[p]? with
    | none => rw [h2] at this; cases this
    | some u => rw [h2] at this; exact Option.some.inj this
theorem sg_crC_cg {i : Nat} {c : sg_C} (e : AU'.map sg_nm = AU.map sg_nm) : sg_crC AU' OR i c = sg_crC AU OR i c := by
  unfold sg_crC sg_nms
  cases OR[sgc_ord c]? with
  | none => rfl
  | some o =>
    simp only
    rw [show sg_nmU AU' = sg_nmU AU from funext (fun p => sg_nmU_cg e)]
theorem cc_cer.nm (C : cc_cer h now accs AU OR CE cers b4 c4) (e : AU'.map sg_nm = AU.map sg_nm) : cc_cer h now accs AU' OR CE cers b4 c4 := by
  obtain ⟨u1, u2, u3, u4, u5⟩ := C
  refine ⟨u1, u2, u3, u4, fun i x c hx hc => ?_⟩
  rw [sg_crC_cg e]
  exact u5 i x c hx hc
theorem cc_ord.mem (O : cc_ord h now accs auts OR ords b3 c3) {x : Nat} (hx : x ∈ ords) : (cd_k h x = some (.inl 8) ∧ 114 ≤ x) ∧ ∃ pl l pb pcap, cd_r h x 2 = some pl ∧ 114 ≤ pl ∧ cc_lst h pl l pb pcap := by
  obtain ⟨k, hk2, e⟩ := List.getElem_of_mem hx
  have u3 := O.2.2.1
  have e2 : OR[k]? = some (OR[k]'(by omega)) := List.getElem?_eq_getElem (by omega)
  obtain ⟨⟨d1, d2⟩, d3, d4, d5, d6, d7, ⟨pl, pb, pcap, d8, d8b, d8c⟩, d9⟩ := O.2.2.2.2 k x _ (by rw [List.getElem?_eq_getElem hk2, e]) e2
  exact ⟨⟨d2, d1⟩, pl, _, pb, pcap, d8, d8b, d8c⟩
theorem cc_isl.lst (Aa : cc_acc h AC accs b1 c1) (U : cc_aut h now accs AU auts b2 c2) (O : cc_ord h now accs auts OR ords b3 c3) (Ce : cc_cer h now accs AU OR CE cers b4 c4) {a : Nat} (ha : cc_isl h ords a) : ∃ l b cap, cc_lst h a l b cap := by
  rcases ha with ha | ha | ha | ha | ⟨x, hx, ha⟩
  · exact ⟨_, _, _, by rw [ha]; exact Aa.2.1⟩
  · exact ⟨_, _, _, by rw [ha]; exact O.2.1⟩
  · exact ⟨_, _, _, by rw [ha]; exact U.2.1⟩
  · exact ⟨_, _, _, by rw [ha]; exact Ce.2.1⟩
  · obtain ⟨-, pl, l, pb, pcap, d1, d2, d3⟩ := O.mem hx
    cases d1.symm.trans ha
    exact ⟨_, _, _, d3⟩
theorem cc_R.oth (R : cc_R h T n life now NW AC AU OR CE accs auts ords cers b1 c1 b2 c2 b3 c3 b4 c4) (hbd : cd_bd h) (C : cd_ch A h h') (F' : cc_ok h') (hlo : ∀ x, x < 82 → A x → x = 74 ∨ x = 75 ∨ x = 76 ∨ x = 73) (hhi : ∀ x, 82 ≤ x → A x → (cd_k h x = some (.inl 2)))
    (U' : cc_aut h' now accs AU' auts b2 c2) (e : AU'.map sg_nm = AU.map sg_nm) : cc_R h' T n life now NW AC AU' OR CE accs auts ords cers b1 c1 b2 c2 b3 c3 b4 c4 := by
  obtain ⟨⟨F, hn, Ft, Cs, Ky, Kk, K, W, Z⟩, Aa, U, O, Ce, Sp⟩ := R
  have nk : ∀ x q, cd_k h x = some q → ¬ q = .inl 2 → ¬ q = .inl 5 → ¬ q = .inl 9 → ¬ q = .inr (2, 512) → ¬ q = .inr (0, 32) → ¬ A x := fun x q hx h1 h2 h3 h4 h5 z => by
    by_cases hx8 : x < 82
    · rcases hlo x hx8 z with rfl | rfl | rfl | rfl
      · rw [cc_k74 F] at hx; cases hx; exact h2 rfl
      · rw [cc_k75 F] at hx; cases hx; exact h4 rfl
      · rw [cc_k76 F] at hx; cases hx; exact h3 rfl
      · rw [cc_k73 F] at hx; cases hx; exact h5 rfl
    · rw [hhi x (by omega) z] at hx
      cases hx
      exact h1 rfl
  have lo : ∀ x, x < 82 → ¬ x = 74 → ¬ x = 75 → ¬ x = 76 → ¬ x = 73 → ¬ A x := fun x hx h1 h2 h3 h4 z => by
    rcases hlo x hx z with e | e | e | e
    · exact h1 e
    · exact h2 e
    · exact h3 e
    · exact h4 e
  have lst : ∀ a l b cap, cc_lst h a l b cap → ¬ A a ∧ ¬ A b := fun a l b cap L => ⟨nk _ _ L.2.1 (fun z => by cases z) (fun z => by cases z) (fun z => by cases z) (fun z => by cases z) (fun z => by cases z), nk _ _ L.2.2.2.2.1 (fun z => by cases z) (fun z => by cases z) (fun z => by cases z) (fun z => by cases z) (fun z => by cases z)⟩
  refine ⟨⟨F', Nat.le_trans hn C.1, Ft.ch C (by omega) (fun x hx => lo x (by omega) (by omega) (by omega) (by omega) (by omega)), Cs.ch C (by omega) (fun x hx => lo x (by omega) (by omega) (by omega) (by omega) (by omega)), Ky.ch C (by omega) (fun x h1 h2 => lo x (by omega) (by omega) (by omega) (by omega) (by omega)), Kk.ch C (by omega) (fun x h1 h2 => lo x (by omega) (by omega) (by omega) (by omega) (by omega)), K.ch C (by omega) (lo _ (by decide) (by decide) (by decide) (by decide) (by decide)), W.ch C (by omega) (lo _ (by decide) (by decide) (by decide) (by decide) (by decide)), Z.ch2 C (by omega) (lo _ (by decide) (by decide) (by decide) (by decide) (by decide)) (lo _ (by decide) (by decide) (by decide) (by decide) (by decide))⟩, ?_, U', ?_, (cc_cer.ch Ce hbd C ?_ ?_ ?_).nm e, ?_⟩
  · exact Aa.ch hbd C (lst _ _ _ _ Aa.2.1).1 (lst _ _ _ _ Aa.2.1).2 (fun x hx hk => nk x _ hk (fun z => by cases z) (fun z => by cases z) (fun z => by cases z) (fun z => by cases z) (fun z => by cases z) hx)
  · refine O.ch hbd C (lst _ _ _ _ O.2.1).1 (lst _ _ _ _ O.2.1).2 (fun x hx hk => nk x _ hk (fun z => by cases z) (fun z => by cases z) (fun z => by cases z) (fun z => by cases z) (fun z => by cases z) hx) (fun y pl hy hpl => ?_)
    obtain ⟨-, pl', l, pb, pcap, d1, d2, d3⟩ := O.mem hy
    cases d1.symm.trans hpl
    exact ⟨(lst _ _ _ _ d3).1, fun pb' hpb => by cases d3.2.2.2.1.symm.trans hpb; exact (lst _ _ _ _ d3).2⟩
  · exact (lst _ _ _ _ Ce.2.1).1
  · exact (lst _ _ _ _ Ce.2.1).2
  · exact fun x hx => ⟨fun hk => nk x _ hk (fun z => by cases z) (fun z => by cases z) (fun z => by cases z) (fun z => by cases z) (fun z => by cases z) hx, fun hk => nk x _ hk (fun z => by cases z) (fun z => by cases z) (fun z => by cases z) (fun z => by cases z) (fun z => by cases z) hx, fun hk => nk x _ hk (fun z => by cases z) (fun z => by cases z) (fun z => by cases z) (fun z => by cases z) (fun z => by cases z) hx⟩
  · refine Sp.of (fun x hx => ?_) (fun a ha => ?_)
    · have k8 := (O.mem hx).1.1
      exact (C.2.2 x (hbd _ _ k8) (nk _ _ k8 (fun z => by cases z) (fun z => by cases z) (fun z => by cases z) (fun z => by cases z) (fun z => by cases z))).2.2 2
    · obtain ⟨l, b, cap, L⟩ := cc_isl.lst Aa U O Ce ha
      exact (C.2.2 a (hbd _ _ L.2.1) (lst _ _ _ _ L).1).2.2 0
theorem sp_Desk_keepF (R : cc_R h T n life now NW AC AU OR CE accs auts ords cers b1 c1 b2 c2 b3 c3 b4 c4) (S : cc_sto h us ct) (N : cc_non h cr gv sp) (hcr : cr < 1000) (hw : w ≤ 1000)
    (hq : ∀ h', cd_ch (cc_TK auts) h h' → cd_n h' = cd_n h → cd_bd h' → cc_R h' T n life now NW AC (sg_fa (sg_fate us ct w) AU) OR CE accs auts ords cers b1 c1 b2 c2 b3 c3 b4 c4 → cc_sto h' (sg_fu (sg_fate us ct w) us w) (sg_ft (sg_fate us ct w) ct) → cc_non h' (sg_ncr (sg_fx (sg_fate us ct w)) cr) (sg_ngv (sg_fx (sg_fate us ct w)) gv) (sg_nsp (sg_fx (sg_fate us ct w)) sp) → cd_k h' (sg_fate us ct w) = some (.inl 10) → cd_i h' (sg_fate us ct w) 0 = b2i (sg_fc (sg_fate us ct w)) → cd_i h' (sg_fate us ct w) 1 = b2i (sg_fx (sg_fate us ct w)) → Q (some (.ref (sg_fate us ct w))) h') :
    cd_W X m_Desk_keep kc ks 0 [some (.ref 64), some (.int (nI w)), none] [] h Q := by
  refine cd_W.k0 (fun hk0 _ _ => cd_W.bd (fun hbd => ?_))
  have R0 := R
  obtain ⟨⟨F, hn, Ft, Cs, Ky, Kk, K, W, Z⟩, Aa, U, O, Ce, Sp⟩ := R
  have tk : ∀ h' : cd_H, cd_ch (cc_TK auts) h h' → cc_ok h' → ∀ AU' : List sg_U, cc_aut h' now accs AU' auts b2 c2 → AU'.map sg_nm = AU.map sg_nm → cc_R h' T n life now NW AC AU' OR CE accs auts ords cers b1 c1 b2 c2 b3 c3 b4 c4 := fun h' C F' AU' U' e => by
    refine R0.oth hbd C F' (fun x hx z => ?_) (fun x hx z => ?_) U' e
    · rcases U.tk F z with e | e | e
      · omega
      · omega
      · omega
    · rcases U.tk F z with e | e | e
      · omega
      · omega
      · exact e.1
  have bdk : ∀ h' : cd_H, cd_n h' = cd_n h → cd_k h' = cd_k h → cd_bd h' := fun h' en ek x q hx => by rw [ek] at hx; rw [en]; exact hbd x q hx
  have kf : ∀ h' : cd_H, cd_ch (cc_TK auts) h h' → ∀ f, f < 64 → cd_k h' f = cd_k0 f := fun h' C f hf => by rw [C.2.1 f (by omega)]; exact hk0 f hf
  have ff : ∀ h' : cd_H, cd_ch (cc_TK auts) h h' → cc_fat h' := fun h' C => Ft.ch C (by omega) (fun x hx z => by
    rcases U.tk F z with e | e | e <;> omega)
  refine sp_Desk_keep F Ft (by omega) N hcr U S hw (fun hf => ?_) (fun hr hc h' C' en ek F' S' => ?_) (fun hr c hc hle h' C' en ek F' S' N' U' => ?_) (fun hr c hc hgt h' C' en ek F' S' N' U' => ?_)
  · have ef : sg_fate us ct w = 1 := by unfold sg_fate; rw [if_pos hf]
    rw [ef] at hq
    exact hq h (cd_ch.rf _ _) rfl hbd R0 S N (hk0 1 (by decide)) Ft.1.1 Ft.1.2
  · have ef : sg_fate us ct w = 4 := by unfold sg_fate; rw [if_neg (by omega), hc]
    rw [ef] at hq
    have Ct : cd_ch (cc_TK auts) h h' := (cd_ch.rf (cc_TK auts) h).old C' (fun x _ hx => Or.inl hx)
    have k76 := cc_k76 F
    have U' : cc_aut h' now accs AU auts b2 c2 := U.ch hbd C' (by decide) (fun z => by have := U.2.1.2.2.2.2.1; rw [z, k76] at this; cases this) (fun x hx => by
      subst hx
      rw [k76]
      exact ⟨(fun z => by cases z), (fun z => by cases z), fun n z => by cases z⟩)
    exact hq h' Ct en (bdk h' en ek) (tk h' Ct F' _ U' rfl) S' (N.ch C' (by omega) (by decide) (by decide)) (kf h' Ct 4 (by decide)) (ff h' Ct).2.2.2.1 (ff h' Ct).2.2.2.2
  · have ef : sg_fate us ct w = 3 := by unfold sg_fate; rw [if_neg (by omega), hc]; simp only; rw [if_pos hle]
    rw [ef] at hq
    exact hq h' C' en (bdk h' en ek) (tk h' C' F' _ U' (sg_cr_nm AU)) S' N' (kf h' C' 3 (by decide)) (ff h' C').2.2.1.1 (ff h' C').2.2.1.2
  · have ef : sg_fate us ct w = 2 := by unfold sg_fate; rw [if_neg (by omega), hc]; simp only; rw [if_neg (by omega)]
    rw [ef] at hq
    exact hq h' C' en (bdk h' en ek) (tk h' C' F' _ U' (sg_cr_nm AU)) S' N' (kf h' C' 2 (by decide)) (ff h' C').2.1.1 (ff h' C').2.1.2
theorem sp_Fat_answer (F : cc_ok h) {f : Nat} {d : Int32} (k : cd_k h f = some (.inl 10)) (e0 : cd_i h f 0 = b2i (sg_fc f)) (e1 : cd_i h f 1 = b2i (sg_fx f)) (hq : Q (some (.int (sg_fr f d))) h) : cd_W X m_Fat_answer kc ks 0 [some (.ref f), some (.int d)] [] h Q := by
  refine g_Fat_answer F ⟨k, ?_⟩
  rw [e0, e1]
  unfold sg_fr at hq
  cases hx : sg_fx f with
  | true =>
    rw [hx] at hq
    exact ⟨fun z => absurd z (by decide), fun _ => hq⟩
  | false =>
    rw [hx] at hq
    cases hc : sg_fc f with
    | true =>
      rw [hc] at hq
      exact ⟨fun _ => ⟨fun z => absurd z (by decide), fun _ => hq⟩, fun z => absurd rfl z⟩
    | false =>
      rw [hc] at hq
      exact ⟨fun _ => ⟨fun _ => hq, fun z => absurd rfl z⟩, fun z => absurd rfl z⟩
end VRE
