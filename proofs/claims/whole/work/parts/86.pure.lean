def sg_nq (AU : List sg_U) : Prop := ∀ u, u ∈ AU → ∀ j, j < sgu_len u → sgu_N u j ≠ 34 ∧ sgu_N u j ≠ 92
theorem sg_nq.cg {AU AU' : List sg_U} (H : sg_nq AU) (e : AU'.map sg_nm = AU.map sg_nm) : sg_nq AU' := fun u hu => by
  have h1 : sg_nm u ∈ AU'.map sg_nm := List.mem_map_of_mem hu
  rw [e] at h1
  obtain ⟨v, hv, ev⟩ := List.mem_map.mp h1
  have e1 : sgu_len v = sgu_len u := congrArg (fun q : Nat × (Nat → Nat) => q.1) ev
  have e2 : sgu_N v = sgu_N u := congrArg (fun q : Nat × (Nat → Nat) => q.2) ev
  have := H v hv
  rw [e1, e2] at this
  exact this
theorem sg_nq.mk {P : Nat → Option Nat} {T : Nat → Nat} {n i now : Nat} : ∀ (l : List Nat) (AU : List sg_U), sg_nq AU → (∀ q, q ∈ l → tx_nm T q (sg_sl T n q)) → sg_nq (sg_mk P T n i now l AU).1
  | [], AU, H, _ => H
  | q :: l, AU, H, hl => by
    have ih := fun AU' H' => sg_nq.mk (P := P) (T := T) (n := n) (i := i) (now := now) l AU' H' (fun q hq => hl q (List.mem_cons_of_mem _ hq))
    unfold sg_mk
    cases P q with
    | some a => exact ih AU H
    | none =>
      refine ih (AU ++ [sg_new T n i now q]) (fun u hu => ?_)
      rcases List.mem_append.mp hu with hu | hu
      · exact H u hu
      · cases List.mem_singleton.mp hu
        intro j hj
        have h1 := (hl q (List.mem_cons_self ..)).2.1 j hj
        show T (q + 1 + j) ≠ 34 ∧ T (q + 1 + j) ≠ 92
        unfold tx_nc at h1
        omega
theorem sg_cnt_app {o : sg_O} (e : sgo_cert o = none) : ∀ l : List sg_O, sg_cnt (l ++ [o]) = sg_cnt l
  | [] => by
    show sg_cnt [o] = 0
    rw [sg_cnt, e]
    rfl
  | p :: l => by rw [List.cons_append, sg_cnt, sg_cnt, sg_cnt_app e l]
theorem sg_fk_nin {k : Nat} : ∀ (l : List sg_A) (i : Nat), sg_fk l i k = none → ¬ k ∈ l.map Prod.fst
  | [], _, _ => fun z => by cases z
  | a :: l, i, h => by
    rw [sg_fk] at h
    by_cases c : a.1 = k
    · rw [if_pos c] at h
      cases h
    · rw [if_neg c] at h
      rw [List.map_cons]
      intro z
      rcases List.mem_cons.mp z with z | z
      · exact c z.symm
      · exact sg_fk_nin l (i + 1) h z
theorem sg_I.same {AC : List sg_A} {AU : List sg_U} {OR : List sg_O} {CE : List sg_C} {us : Nat} {ct : Option Nat} (I : sg_I AC AU OR CE) (r : Int32) : sg_I (sg_same0 r AC AU OR CE us ct).2.1 (sg_same0 r AC AU OR CE us ct).2.2.1 (sg_same0 r AC AU OR CE us ct).2.2.2.1 (sg_same0 r AC AU OR CE us ct).2.2.2.2.1 := I
def sg_IR (R : sg_Rs) : Prop := sg_I R.2.1 R.2.2.1 R.2.2.2.1 R.2.2.2.2.1
section WPU
variable {T : Nat → Nat} {n life now us : Nat} {ct snd : Option Nat} {AC : List sg_A} {AU AU' : List sg_U} {OR : List sg_O} {CE : List sg_C}
theorem sg_I.nm (I : sg_I AC AU OR CE) (e : AU'.map sg_nm = AU.map sg_nm) : sg_I AC AU' OR CE := ⟨I.1, sg_nq.cg (AU := AU) I.2.1 e, I.2.2⟩
theorem sg_I.opn (I : sg_I AC AU OR CE) (k : Nat) : sg_IR (sg_open AC AU OR CE us ct snd k) := by
  unfold sg_open
  cases snd with
  | some i => exact I
  | none =>
    cases e : sg_fk AC 0 k with
    | some p => exact I
    | none =>
      refine ⟨?_, sg_nq.cg (AU := AU) I.2.1 (sg_fa_nm _ _), I.2.2⟩
      show (List.map Prod.fst (if sg_fc (sg_fate us ct 3) then AC ++ [(k, false)] else AC)).Nodup
      split
      · rw [List.map_append]
        refine List.nodup_append.mpr ⟨I.1, ?_, fun a ha b hb => ?_⟩
        · exact List.nodup_cons.mpr ⟨(fun z => by cases z), List.nodup_nil⟩
        · cases List.mem_singleton.mp hb
          intro z
          rw [z] at ha
          exact sg_fk_nin AC 0 e ha
      · exact I.1
theorem sg_I.cls (I : sg_I AC AU OR CE) : sg_IR (sg_close AC AU OR CE us ct snd) := by
  unfold sg_close
  cases snd with
  | none => exact I
  | some i =>
    refine ⟨?_, sg_nq.cg (AU := AU) I.2.1 (sg_fa_nm _ _), I.2.2⟩
    show (List.map Prod.fst (if sg_fc (sg_fate us ct 3) then AC.set i (sg_ky AC i, true) else AC)).Nodup
    split
    · have e : (AC.set i (sg_ky AC i, true)).map Prod.fst = AC.map Prod.fst := by
        refine List.ext_getElem? (fun j => ?_)
        rw [List.getElem?_map, List.getElem?_map, List.getElem?_set]
        by_cases c : i = j
        · rw [if_pos c]
          by_cases d : i < AC.length
          · rw [if_pos d, ← c, List.getElem?_eq_getElem d]
            show some (sg_ky AC i) = some (AC[i]).1
            rw [sg_ky, List.getElem?_eq_getElem d]
          · rw [if_neg d, ← c, List.getElem?_eq_none (by omega)]
        · rw [if_neg c]
      rw [e]
      exact I.1
    · exact I.1
theorem sg_I.tri (I : sg_I AC AU OR CE) : sg_IR (sg_try T n life now AC AU OR CE us ct snd) := by
  unfold sg_try
  cases sg_nf T n [97, 117, 116, 104] (some 0) with
  | none => exact I
  | some a =>
    cases sg_nf T n [119, 97, 121] (some 0) with
    | none => exact I
    | some w =>
      simp only
      by_cases c : 1 < w
      · rw [if_pos c]
        exact I
      · rw [if_neg c]
        cases snd with
        | none => exact I
        | some i =>
          simp only
          cases e : AU[a]? with
          | none => exact I
          | some u =>
            simp only
            by_cases d : sgu_own u = i ∧ sg_st AC life now u = 0
            · rw [if_pos d]
              refine ⟨I.1, fun v hv => ?_, I.2.2⟩
              rcases List.mem_or_eq_of_mem_set hv with z | z
              · exact I.2.1 v z
              · rw [z]
                exact I.2.1 u (List.mem_of_getElem? e)
            · rw [if_neg d]
              exact I
theorem sg_I.rev (I : sg_I AC AU OR CE) : sg_IR (sg_rev T n AC AU OR CE us ct snd) := by
  unfold sg_rev
  cases sg_nf T n [115, 101, 114, 105, 97, 108] (some 0) with
  | none => exact I
  | some a =>
    cases sg_nf T n [119, 104, 121] (some 0) with
    | none => exact I
    | some w =>
      simp only
      cases snd with
      | none => exact I
      | some i =>
        simp only
        cases e : CE[a]? with
        | none => exact I
        | some c =>
          simp only
          by_cases d : (OR[sgc_ord c]?).map sgo_own = some i ∧ sgc_why c = none ∧ w ≤ 10 ∧ ¬ w = 7
          · rw [if_pos d]
            refine ⟨I.1, sg_nq.cg (AU := AU) I.2.1 (sg_fa_nm _ _), ?_⟩
            show (if sg_fc (sg_fate us ct 4) then CE.set a (sg_rvd w c) else CE).length = sg_cnt OR
            split
            · rw [List.length_set]
              exact I.2.2
            · exact I.2.2
          · rw [if_neg d]
            exact I
theorem sg_I.fin (I : sg_I AC AU OR CE) : sg_IR (sg_fin T n life now AC AU OR CE us ct snd) := by
  unfold sg_fin
  cases sg_nf T n [111, 114, 100, 101, 114] (some 0) with
  | none => exact I
  | some a =>
    cases sg_nf T n [107, 101, 121] (sg_fl T n [99, 115, 114] (some 0)) with
    | none => exact I
    | some key =>
      cases tx_z T n (sg_fl T n [110, 97, 109, 101, 115] (sg_fl T n [99, 115, 114] (some 0))) with
      | none => exact I
      | some l =>
        simp only
        cases snd with
        | none => exact I
        | some i =>
          simp only
          cases e : OR[a]? with
          | none => exact I
          | some o =>
            simp only
            by_cases d : sgo_own o = i ∧ sg_os AC life now AU o = 1 ∧ 3 ≤ key ∧ sg_amB T n (sg_nms AU OR a) l = true
            · rw [if_pos d]
              refine ⟨I.1, sg_nq.cg (AU := AU) I.2.1 (sg_fa_nm _ _), ?_⟩
              show (if sg_fc (sg_fate us ct 5) then CE ++ [(a, key, now, sg_sea (sg_nms AU OR a) CE.length now key, none)] else CE).length = sg_cnt (if sg_fc (sg_fate us ct 5) then OR.set a (sg_crd CE.length o) else OR)
              split
              · rw [sg_cnt_set OR a o _ e (sg_os1 d.2.1) rfl, List.length_append, I.2.2]
                rfl
              · exact I.2.2
            · rw [if_neg d]
              exact I
theorem sg_I.plc (I : sg_I AC AU OR CE) {ok : Bool} (hok : ∀ l, tx_z T n (sg_fl T n [110, 97, 109, 101, 115] (some 0)) = some l → (ok = true ↔ ((1 ≤ l.length ∧ l.length ≤ 3) ∧ sg_nok T n l))) : sg_IR (sg_plc T n life now ok AC AU OR CE us ct snd) := by
  unfold sg_plc
  cases e : tx_z T n (sg_fl T n [110, 97, 109, 101, 115] (some 0)) with
  | none => exact I
  | some l =>
    simp only
    by_cases c : ok = false
    · rw [if_pos c]
      exact I
    · rw [if_neg c]
      have hk := (hok l e).mp (by cases ok with | true => rfl | false => exact absurd rfl c)
      cases snd with
      | none => exact I
      | some i =>
        simp only
        by_cases d : 12 ≤ OR.length ∨ 24 < AU.length + sg_frs (sg_pp T n life now AC AU i) l
        · rw [if_pos d]
          exact I
        · rw [if_neg d]
          generalize sg_fate us ct (5 + sg_wds (sg_pp T n life now AC AU i) T n l) = f
          have N0 : sg_nq (sg_fa f AU) := sg_nq.cg (AU := AU) I.2.1 (sg_fa_nm _ _)
          have N1 : sg_nq (sg_mk (sg_pp T n life now AC AU i) T n i now l (sg_fa f AU)).1 := sg_nq.mk l _ N0 (fun q hq => by
            obtain ⟨k, hk2, e2⟩ := List.getElem_of_mem hq
            exact hk.2.1 k q (by rw [List.getElem?_eq_getElem hk2, e2]))
          cases sg_fc f with
          | true => exact ⟨I.1, N1, by show CE.length = sg_cnt (OR ++ [_]); rw [sg_cnt_app rfl]; exact I.2.2⟩
          | false => exact ⟨I.1, N0, I.2.2⟩
theorem sg_I.prm (I : sg_I AC AU OR CE) {ob ok : Bool} {k : Nat} (hok : ∀ l, tx_z T n (sg_fl T n [110, 97, 109, 101, 115] (some 0)) = some l → (ok = true ↔ ((1 ≤ l.length ∧ l.length ≤ 3) ∧ sg_nok T n l))) : sg_IR (sg_prm T n life now ob ok AC AU OR CE us ct snd k) := by
  unfold sg_prm
  split
  · exact I
  · split
    · exact I.opn k
    · split
      · exact I.plc hok
      · split
        · exact I.tri
        · split
          · exact I.fin
          · split
            · exact I.rev
            · split
              · exact I.cls
              · exact I
end WPU
