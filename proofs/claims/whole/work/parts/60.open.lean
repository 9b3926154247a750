def sg_fk : List sg_A → Nat → Nat → Option (Nat × Bool)
  | [], _, _ => none
  | a :: l, i, k => if a.1 = k then some (i, a.2) else sg_fk l (i + 1) k
def sg_open (AC : List sg_A) (AU : List sg_U) (OR : List sg_O) (CE : List sg_C) (us : Nat) (ct : Option Nat) (snd : Option Nat) (k : Nat) : sg_Rs := match snd with
  | some _ => sg_same0 (-4) AC AU OR CE us ct
  | none => match sg_fk AC 0 k with
    | some (i, b) => sg_same0 (if b then -4 else nI i) AC AU OR CE us ct
    | none => (sg_fr (sg_fate us ct 3) (nI AC.length), if sg_fc (sg_fate us ct 3) then AC ++ [(k, false)] else AC, sg_fa (sg_fate us ct 3) AU, OR, CE, sg_fu (sg_fate us ct 3) us 3, sg_ft (sg_fate us ct 3) ct, sg_fx (sg_fate us ct 3))
theorem sg_fk_none : ∀ (l : List sg_A) (i k : Nat), sg_fk l i k = none → ¬ k ∈ l.map Prod.fst
  | [], _, _, _, hm => by cases hm
  | a :: l, i, k, h, hm => by
    rw [sg_fk] at h
    by_cases e : a.1 = k
    · rw [if_pos e] at h
      cases h
    · rw [if_neg e] at h
      rw [List.map_cons, List.mem_cons] at hm
      rcases hm with hm | hm
      · exact e hm.symm
      · exact sg_fk_none l (i + 1) k h hm
theorem sg_pig {l : List Nat} (nd : l.Nodup) (h4 : ∀ x, x ∈ l → x < 4) {k : Nat} (hk : k < 4) (hn : ¬ k ∈ l) : l.length ≤ 3 := by
  match l, nd, h4, hn with
  | [], _, _, _ => exact Nat.zero_le _
  | [a], _, _, _ => exact (by decide : 1 ≤ 3)
  | [a, b], _, _, _ => exact (by decide : 2 ≤ 3)
  | [a, b, c], _, _, _ => exact Nat.le_refl _
  | a :: b :: c :: d :: l, nd, h4, hn =>
    have ha := h4 a (List.mem_cons_self ..)
    have hb := h4 b (List.mem_cons_of_mem _ (List.mem_cons_self ..))
    have hc := h4 c (List.mem_cons_of_mem _ (List.mem_cons_of_mem _ (List.mem_cons_self ..)))
    have hd := h4 d (List.mem_cons_of_mem _ (List.mem_cons_of_mem _ (List.mem_cons_of_mem _ (List.mem_cons_self ..))))
    have P := List.pairwise_iff_getElem.mp nd
    have h01 : a ≠ b := P 0 1 (by simp) (by simp) (by decide)
    have h02 : a ≠ c := P 0 2 (by simp) (by simp) (by decide)
    have h03 : a ≠ d := P 0 3 (by simp) (by simp) (by decide)
    have h12 : b ≠ c := P 1 2 (by simp) (by simp) (by decide)
    have h13 : b ≠ d := P 1 3 (by simp) (by simp) (by decide)
    have h23 : c ≠ d := P 2 3 (by simp) (by simp) (by decide)
    have k0 : k ≠ a := fun z => hn (by rw [z]; exact List.mem_cons_self ..)
    have k1 : k ≠ b := fun z => hn (by rw [z]; exact List.mem_cons_of_mem _ (List.mem_cons_self ..))
    have k2 : k ≠ c := fun z => hn (by rw [z]; exact List.mem_cons_of_mem _ (List.mem_cons_of_mem _ (List.mem_cons_self ..)))
    have k3 : k ≠ d := fun z => hn (by rw [z]; exact List.mem_cons_of_mem _ (List.mem_cons_of_mem _ (List.mem_cons_of_mem _ (List.mem_cons_self ..))))
    omega
section VOP
variable {X : cd_E} {kc ks : Nat} {h h' : cd_H} {Q : Option Value → cd_H → Prop} {A : Nat → Prop} {T : Nat → Nat} {n life now cr gv us w : Nat} {sp : Nat → Bool} {ct : Option Nat} {NW : Nat → Option Nat} {AC : List sg_A} {AU AU' : List sg_U} {OR : List sg_O} {CE : List sg_C} {accs auts ords cers : List Nat} {b1 c1 b2 c2 b3 c3 b4 c4 : Nat}
theorem cc_acc.mem (Aa : cc_acc h AC accs b1 c1) {x : Nat} (hx : x ∈ accs) : cd_k h x = some (.inl 1) ∧ 114 ≤ x := by
  obtain ⟨k, hk2, e⟩ := List.getElem_of_mem hx
  have u3 := Aa.2.2.1
  have e2 : AC[k]? = some (AC[k]'(by omega)) := List.getElem?_eq_getElem (by omega)
  have := Aa.2.2.2.2 k x _ (by rw [List.getElem?_eq_getElem hk2, e]) e2
  exact ⟨this.2.1, this.1⟩
theorem cc_aut.acc {accs' : List Nat} (U : cc_aut h now accs AU auts b2 c2) (e : ∀ (i y : Nat), accs[i]? = some y → accs'[i]? = some y) : cc_aut h now accs' AU auts b2 c2 := by
  obtain ⟨u1, u2, u3, u4, u5⟩ := U
  refine ⟨u1, u2, u3, u4, fun i x u hx hu => ?_⟩
  obtain ⟨d1, ⟨z, d4, d5⟩, d6⟩ := u5 i x u hx hu
  exact ⟨d1, ⟨z, e _ _ d4, d5⟩, d6⟩
theorem cc_ord.acc {accs' : List Nat} (U : cc_ord h now accs auts OR ords b3 c3) (e : ∀ (i y : Nat), accs[i]? = some y → accs'[i]? = some y) : cc_ord h now accs' auts OR ords b3 c3 := by
  obtain ⟨u1, u2, u3, u4, u5⟩ := U
  refine ⟨u1, u2, u3, u4, fun i x u hx hu => ?_⟩
  obtain ⟨d1, ⟨z, d4, d5⟩, d6⟩ := u5 i x u hx hu
  exact ⟨d1, ⟨z, e _ _ d4, d5⟩, d6⟩
theorem cc_cer.acc {accs' : List Nat} (U : cc_cer h now accs AU OR CE cers b4 c4) (e : ∀ (i y : Nat), accs[i]? = some y → accs'[i]? = some y) : cc_cer h now accs' AU OR CE cers b4 c4 := by
  obtain ⟨u1, u2, u3, u4, u5⟩ := U
  refine ⟨u1, u2, u3, u4, fun i x u hx hu => ?_⟩
  obtain ⟨d1, ⟨o, y, d4, d5, d5b⟩, d6⟩ := u5 i x u hx hu
  exact ⟨d1, ⟨o, y, d4, e _ _ d5, d5b⟩, d6⟩
theorem sg_app {l l' : List Nat} : ∀ (i y : Nat), l[i]? = some y → (l ++ l')[i]? = some y := fun i y hy => by
  rw [List.getElem?_append_left (List.getElem?_eq_some_iff.mp hy).1]
  exact hy
theorem sg_push {l : List Nat} {y : Nat} (nd : l.Nodup) (hy : ¬ y ∈ l) : (l ++ [y]).Nodup := by
  rw [List.nodup_append]
  refine ⟨nd, by simp, fun a ha b hb => ?_⟩
  rw [List.mem_singleton] at hb
  exact fun z => hy (by rw [← hb, ← z]; exact ha)
theorem cc_acc.push (Aa : cc_acc h AC accs b1 c1) (hbd : cd_bd h) (hl : AC.length < 4) {b' cap' k : Nat} (hk : k < 4) (C : cd_ch A h h') (hA : ∀ x, A x → ¬ cd_k h x = some (.inl 1)) (L' : cc_lst h' 78 (accs ++ [cd_n h]) b' cap') (hn : 114 ≤ cd_n h) (k1 : cd_k h' (cd_n h) = some (.inl 1)) (k2 : cd_r h' (cd_n h) 0 = some (66 + k)) (k3 : cd_i h' (cd_n h) 1 = 0) : cc_acc h' (AC ++ [(k, false)]) (accs ++ [cd_n h]) b' cap' := by
  obtain ⟨u1, u2, u3, u4, u5⟩ := Aa
  have Aa : cc_acc h AC accs b1 c1 := ⟨u1, u2, u3, u4, u5⟩
  refine ⟨by rw [List.length_append, List.length_singleton]; omega, L', by rw [List.length_append, List.length_append, List.length_singleton, List.length_singleton]; omega, sg_push u4 (fun z => by have := hbd _ _ (Aa.mem z).1; omega), fun i x a hx ha => ?_⟩
  by_cases e : i < accs.length
  · rw [List.getElem?_append_left e] at hx
    rw [List.getElem?_append_left (by omega)] at ha
    obtain ⟨c1, c2, c3, c4, c5⟩ := u5 i x a hx ha
    have hx2 := hbd _ _ c2
    obtain ⟨p1, p2, p3⟩ := C.2.2 x hx2 (fun w => hA x w c2)
    exact ⟨c1, by rw [C.2.1 x hx2]; exact c2, by rw [p3]; exact c3, c4, by rw [p1]; exact c5⟩
  · have hi := (List.getElem?_eq_some_iff.mp hx).1
    rw [List.length_append, List.length_singleton] at hi
    have ei : i = accs.length := by omega
    rw [ei, List.getElem?_append_right (Nat.le_refl _), Nat.sub_self] at hx
    rw [ei, u3, List.getElem?_append_right (Nat.le_refl _), Nat.sub_self] at ha
    cases hx
    cases ha
    exact ⟨hn, k1, k2, hk, k3⟩
theorem sp_Desk_openAccount_9 (R : cc_R h T n life now NW AC AU OR CE accs auts ords cers b1 c1 b2 c2 b3 c3 b4 c4) (S : cc_sto h us ct) (N : cc_non h cr gv sp) (hcr : cr < 1000) {k : Nat} (hk : k < 4) (hnd : (AC.map Prod.fst).Nodup) (hq : cc_Q Q h T n life now NW cr gv sp (sg_open AC AU OR CE us ct none k)) : ∀ r j, r + j = AC.length → sg_fk AC 0 k = sg_fk (AC.drop j) j k → cd_W X m_Desk_openAccount (kc + 2) (ks + 42) 9 [some (.ref 64), some (.ref (66 + k)), none, some (.int (nI j)), none] [] h Q := by
  have F := R.1.1
  have Aa := R.2.1
  have hn := R.1.2.1
  have a1 := Aa.1
  have a3 := Aa.2.2.1
  have hfl := sg_fate_lt us ct 3
  have kk : ∀ q, q < 4 → cd_k h (66 + q) = some (.inl 4) := fun q hq => (R.1.2.2.2.2.1.kok (by omega : q < 5)).1
  intro r
  induction r with
  | zero =>
    intro j hj ef
    rw [List.drop_of_length_le (by omega), sg_fk] at ef
    have hl : AC.length ≤ 3 := by
      have := sg_pig hnd (fun x hx => by
        rw [List.mem_map] at hx
        obtain ⟨a, ha, rfl⟩ := hx
        obtain ⟨i, hi, rfl⟩ := List.getElem_of_mem ha
        exact (Aa.2.2.2.2 i _ _ (List.getElem?_eq_getElem (by omega : i < accs.length)) (List.getElem?_eq_getElem hi)).2.2.2.1) hk (sg_fk_none AC 0 k ef)
      rw [List.length_map] at this
      exact this
    refine g_Desk_openAccount_9b F (sp_AL_size Aa.2.1 ⟨_, rfl, F, ?_⟩)
    rw [nI_leI (by omega) (by omega)]
    refine ⟨fun _ => sp_AL_size Aa.2.1 ⟨_, rfl, F, ?_⟩, fun t => by omega⟩
    show cd_W X m_Desk_keep 0 0 0 [some (.ref 64), some (.int (nI 3)), none] [] h _
    refine sp_Desk_keepF R S N hcr (by decide) (fun h1 C1 en bd1 R1 S1 N1 kf e0 e1 => ⟨_, rfl, R1.1.1, kf, ?_⟩)
    have Cd : cd_ch cc_Dk h h1 := (cd_ch.rf cc_Dk h).old C1 (fun y _ hy => hy.dk R.2.2.1)
    generalize hf : sg_fate us ct 3 = f at *
    rw [e0]
    cases hc : sg_fc f with
    | false =>
      refine ⟨fun _ => sp_Fat_answer R1.1.1 kf e0 e1 ⟨_, rfl, R1.1.1, ?_⟩, fun z => absurd rfl z⟩
      have K := hq h1 Cd
      simp only [sg_open, ef, hf, hc] at K
      rw [a3]
      exact K ⟨_, _, _, _, _, _, _, _, _, _, _, _, R1⟩ S1 N1
    | true =>
      refine ⟨fun z => absurd z (by decide), fun _ => ⟨by omega, g_Acc_init ⟨by rw [cd_k_new, if_pos rfl], by omega, rfl, ?_⟩⟩⟩
      have C13 : cd_ch (fun _ => False) h1 (cd_sr (cd_si (cd_new h1 (.inl 1)) (cd_n h1) 1 0) (cd_n h1) 0 (some (66 + k))) := ((cd_ch.new (A := fun _ => False)).old (cd_ch.si (A := fun x => x = cd_n h1) rfl) (fun x hx z => by omega)).old (cd_ch.sr (A := fun x => x = cd_n h1) rfl) (fun x hx z => by omega)
      have n3 : cd_n (cd_sr (cd_si (cd_new h1 (.inl 1)) (cd_n h1) 1 0) (cd_n h1) 0 (some (66 + k))) = cd_n h1 + 1 := rfl
      have g1 : cd_k (cd_sr (cd_si (cd_new h1 (.inl 1)) (cd_n h1) 1 0) (cd_n h1) 0 (some (66 + k))) (cd_n h1) = some (.inl 1) := by
        show cd_k (cd_new h1 (.inl 1)) (cd_n h1) = _
        rw [cd_k_new, if_pos rfl]
      have g2 : cd_r (cd_sr (cd_si (cd_new h1 (.inl 1)) (cd_n h1) 1 0) (cd_n h1) 0 (some (66 + k))) (cd_n h1) 0 = some (66 + k) := by rw [cd_r_sr, if_pos ⟨rfl, rfl⟩]
      have g3 : cd_i (cd_sr (cd_si (cd_new h1 (.inl 1)) (cd_n h1) 1 0) (cd_n h1) 0 (some (66 + k))) (cd_n h1) 1 = 0 := by
        show cd_i (cd_si (cd_new h1 (.inl 1)) (cd_n h1) 1 0) (cd_n h1) 1 = 0
        rw [cd_i_si, if_pos ⟨rfl, rfl⟩]
      generalize hg : cd_sr (cd_si (cd_new h1 (.inl 1)) (cd_n h1) 1 0) (cd_n h1) 0 (some (66 + k)) = h3 at *
      have n1 : 114 ≤ cd_n h1 := R1.1.2.1
      have F3 := R1.1.1.ch C13 (fun _ _ z => z) (by omega)
      have Aa1 := R1.2.1
      have L3 : cc_lst h3 78 accs b1 c1 := Aa1.2.1.ch C13 (bd1 _ _ Aa1.2.1.2.1) (bd1 _ _ Aa1.2.1.2.2.2.2.1) (fun z => z) (fun z => z)
      refine ⟨F3, sp_AL_add (kc := 0) (ks := 0) L3 g1 cs_1 (by omega) (fun x hx => ⟨1, by rw [C13.2.1 x (bd1 _ _ (Aa1.mem hx).1)]; exact (Aa1.mem hx).1, cs_1⟩) (fun h4 b' cap' C4 L4 hb4 hn4 => ?_)⟩
      have C14 : cd_ch (fun x => x = 78 ∨ (x = b1 ∧ 64 ≤ b1)) h1 h4 := ((cd_ch.rf (fun x => x = 78 ∨ (x = b1 ∧ 64 ≤ b1)) h1).old C13 (fun x _ z => z.elim)).old C4 (fun x _ z => z)
      obtain ⟨B4, -, U4, O4, Ce4, Sp4⟩ := cc_R.ad R1 bd1 (a := 78) (Or.inl rfl) Aa1.2.1 C14 ⟨b', L4.2.2.2.1, by rcases hb4 with z | z; exact Or.inl z; exact Or.inr (by omega)⟩
      have nb : ¬ (cd_n h1 = 78 ∨ (cd_n h1 = b1 ∧ 64 ≤ b1)) := fun z => by
        have := bd1 _ _ Aa1.2.1.2.2.2.2.1
        omega
      obtain ⟨p1, p2, p3⟩ := C4.2.2 (cd_n h1) (by omega) nb
      have A4 : cc_acc h4 (AC ++ [(k, false)]) (accs ++ [cd_n h1]) b' cap' := Aa1.push bd1 (by omega) hk C14 (fun x hx hk1 => by
        rcases hx with rfl | ⟨rfl, hx⟩
        · rw [Aa1.2.1.2.1] at hk1; cases hk1
        · rw [Aa1.2.1.2.2.2.2.1] at hk1; cases hk1) L4 n1 (by rw [C4.2.1 _ (by omega)]; exact g1) (by rw [p3]; exact g2) (by rw [p1]; exact g3)
      have lo : ∀ x, x < 78 → ¬ (x = 78 ∨ (x = b1 ∧ 64 ≤ b1)) := fun x hx z => by
        rcases z with z | z
        · omega
        · have := R1.2.2.2.2.2.2 78 b1 (Or.inl rfl) Aa1.2.1.2.2.2.1 z.2
          omega
      have k4 : cd_k h4 f = some (.inl 10) := by rw [C14.2.1 f (by omega)]; exact kf
      have i4 : ∀ j, cd_i h4 f j = cd_i h1 f j := (C14.2.2 f (by omega) (lo f (by omega))).1
      refine ⟨_, rfl, B4.1, k4, sp_Fat_answer B4.1 k4 (by rw [i4]; exact e0) (by rw [i4]; exact e1) ⟨_, rfl, B4.1, ?_⟩⟩
      have Cd4 : cd_ch cc_Dk h h4 := Cd.old C14 (fun x hx z => by
        rcases z with rfl | ⟨rfl, z⟩
        · exact Or.inl (by decide)
        · exact Or.inr (R1.2.2.2.2.2.2 78 _ (Or.inl rfl) Aa1.2.1.2.2.2.1 z))
      have K := hq h4 Cd4
      simp only [sg_open, ef, hf, hc] at K
      rw [a3]
      exact K ⟨_, _, _, _, _, _, _, _, _, _, _, _, B4, A4, (U4 (by decide)).acc sg_app, (O4 (by decide)).acc sg_app, (Ce4 (by decide)).acc sg_app, Sp4⟩ (S1.ch C14 (by omega) (lo _ (by decide))) (N1.ch C14 (by omega) (lo _ (by decide)) (lo _ (by decide)))
  | succ r ih =>
    intro j hj ef
    have hlt : j < AC.length := by omega
    have ea : AC[j]? = some AC[j] := List.getElem?_eq_getElem hlt
    have ex : accs[j]? = some (accs[j]'(by omega)) := List.getElem?_eq_getElem (by omega)
    obtain ⟨d1, d2, d3, d4, d5⟩ := Aa.2.2.2.2 j _ _ ex ea
    rw [List.drop_eq_getElem_cons hlt, sg_fk] at ef
    have Kk := R.1.2.2.2.2.2.1
    refine g_Desk_openAccount_9b F (sp_AL_size Aa.2.1 ⟨_, rfl, F, ?_⟩)
    rw [nI_leI (by omega) (by omega)]
    refine ⟨fun t => by omega, fun _ => sp_AL_get Aa.2.1 ex ⟨some _, rfl, F, _, rfl, d2, _, d3, kk _ d4, kk _ hk, ?_⟩⟩
    rw [Kk _ d4, Kk _ hk, nI_eq (by omega) (by omega), d5, nI_1]
    refine ⟨fun t => ?_, fun t => ?_⟩
    · rw [if_neg t] at ef
      exact ih (j + 1) (by omega) ef
    · rw [if_pos t] at ef
      have K := hq h (cd_ch.rf _ _)
      simp only [sg_open, ef] at K
      have K2 := K ⟨_, _, _, _, _, _, _, _, _, _, _, _, R⟩ S N
      cases hc : (AC[j]).2 with
      | true =>
        rw [hc] at K2
        exact ⟨fun z => absurd z (by decide), fun _ => K2⟩
      | false =>
        rw [hc] at K2
        exact ⟨fun _ => K2, fun z => absurd rfl z⟩
theorem sp_Desk_openAccount (R : cc_R h T n life now NW AC AU OR CE accs auts ords cers b1 c1 b2 c2 b3 c3 b4 c4) (S : cc_sto h us ct) (N : cc_non h cr gv sp) (hcr : cr < 1000) {k : Nat} (hk : k < 4) (hnd : (AC.map Prod.fst).Nodup) {snd : Option Nat} (hs : ∀ i, snd = some i → i < AC.length) (hq : cc_Q Q h T n life now NW cr gv sp (sg_open AC AU OR CE us ct snd k)) : cd_W X m_Desk_openAccount (kc + 2) (ks + 42) 0 [some (.ref 64), some (.ref (66 + k)), some (va_rf (snd.bind (fun i => accs[i]?))), none, none] [] h Q := by
  have a3 := R.2.1.2.2.1
  cases hsn : snd with
  | none =>
    rw [hsn] at hq
    refine g_Desk_openAccount R.1.1 ⟨fun _ => ?_, fun b hb => by cases hb⟩
    exact sp_Desk_openAccount_9 R S N hcr hk hnd hq AC.length 0 (by omega) (by rw [List.drop_zero])
  | some i =>
    rw [hsn] at hq
    have hi := hs i hsn
    refine g_Desk_openAccount R.1.1 ⟨fun z => ?_, fun b hb => ?_⟩
    · have z : accs[i]? = none := z
      rw [List.getElem?_eq_getElem (by omega)] at z
      cases z
    · exact hq h (cd_ch.rf _ _) ⟨_, _, _, _, _, _, _, _, _, _, _, _, R⟩ S N
end VOP
