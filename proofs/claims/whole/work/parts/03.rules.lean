abbrev cd_H : Type := Nat × (Nat → Option (Nat ⊕ (Nat × Nat))) × (Nat → Nat → Int32) × (Nat → Nat → Int64) × (Nat → Nat → Option Nat)
def cd_n (h : cd_H) : Nat := h.1
def cd_k (h : cd_H) : Nat → Option (Nat ⊕ (Nat × Nat)) := h.2.1
def cd_i (h : cd_H) : Nat → Nat → Int32 := h.2.2.1
def cd_l (h : cd_H) : Nat → Nat → Int64 := h.2.2.2.1
def cd_r (h : cd_H) : Nat → Nat → Option Nat := h.2.2.2.2
def cd_si (h : cd_H) (a k : Nat) (x : Int32) : cd_H := (cd_n h, cd_k h, fun b j => if b = a ∧ j = k then x else cd_i h b j, cd_l h, cd_r h)
def cd_sl (h : cd_H) (a k : Nat) (x : Int64) : cd_H := (cd_n h, cd_k h, cd_i h, fun b j => if b = a ∧ j = k then x else cd_l h b j, cd_r h)
def cd_sr (h : cd_H) (a k : Nat) (x : Option Nat) : cd_H := (cd_n h, cd_k h, cd_i h, cd_l h, fun b j => if b = a ∧ j = k then x else cd_r h b j)
def cd_new (h : cd_H) (c : Nat ⊕ (Nat × Nat)) : cd_H := (cd_n h + 1, fun b => if b = cd_n h then some c else cd_k h b, fun b j => if b = cd_n h then 0 else cd_i h b j, fun b j => if b = cd_n h then 0 else cd_l h b j, fun b j => if b = cd_n h then none else cd_r h b j)
theorem cd_n_si (h : cd_H) (a k : Nat) (x : Int32) : cd_n (cd_si h a k x) = cd_n h := rfl
theorem cd_n_sl (h : cd_H) (a k : Nat) (x : Int64) : cd_n (cd_sl h a k x) = cd_n h := rfl
theorem cd_n_sr (h : cd_H) (a k : Nat) (x : Option Nat) : cd_n (cd_sr h a k x) = cd_n h := rfl
theorem cd_n_new (h : cd_H) (c : Nat ⊕ (Nat × Nat)) : cd_n (cd_new h c) = cd_n h + 1 := rfl
theorem cd_k_si (h : cd_H) (a k : Nat) (x : Int32) : cd_k (cd_si h a k x) = cd_k h := rfl
theorem cd_k_sl (h : cd_H) (a k : Nat) (x : Int64) : cd_k (cd_sl h a k x) = cd_k h := rfl
theorem cd_k_sr (h : cd_H) (a k : Nat) (x : Option Nat) : cd_k (cd_sr h a k x) = cd_k h := rfl
theorem cd_k_new (h : cd_H) (c : Nat ⊕ (Nat × Nat)) (b : Nat) : cd_k (cd_new h c) b = if b = cd_n h then some c else cd_k h b := rfl
theorem cd_i_si (h : cd_H) (a k : Nat) (x : Int32) (b j : Nat) : cd_i (cd_si h a k x) b j = if b = a ∧ j = k then x else cd_i h b j := rfl
theorem cd_i_sl (h : cd_H) (a k : Nat) (x : Int64) : cd_i (cd_sl h a k x) = cd_i h := rfl
theorem cd_i_sr (h : cd_H) (a k : Nat) (x : Option Nat) : cd_i (cd_sr h a k x) = cd_i h := rfl
theorem cd_i_new (h : cd_H) (c : Nat ⊕ (Nat × Nat)) (b j : Nat) : cd_i (cd_new h c) b j = if b = cd_n h then 0 else cd_i h b j := rfl
theorem cd_l_si (h : cd_H) (a k : Nat) (x : Int32) : cd_l (cd_si h a k x) = cd_l h := rfl
theorem cd_l_sl (h : cd_H) (a k : Nat) (x : Int64) (b j : Nat) : cd_l (cd_sl h a k x) b j = if b = a ∧ j = k then x else cd_l h b j := rfl
theorem cd_l_sr (h : cd_H) (a k : Nat) (x : Option Nat) : cd_l (cd_sr h a k x) = cd_l h := rfl
theorem cd_l_new (h : cd_H) (c : Nat ⊕ (Nat × Nat)) (b j : Nat) : cd_l (cd_new h c) b j = if b = cd_n h then 0 else cd_l h b j := rfl
theorem cd_r_si (h : cd_H) (a k : Nat) (x : Int32) : cd_r (cd_si h a k x) = cd_r h := rfl
theorem cd_r_sl (h : cd_H) (a k : Nat) (x : Int64) : cd_r (cd_sl h a k x) = cd_r h := rfl
theorem cd_r_sr (h : cd_H) (a k : Nat) (x : Option Nat) (b j : Nat) : cd_r (cd_sr h a k x) b j = if b = a ∧ j = k then x else cd_r h b j := rfl
theorem cd_r_new (h : cd_H) (c : Nat ⊕ (Nat × Nat)) (b j : Nat) : cd_r (cd_new h c) b j = if b = cd_n h then none else cd_r h b j := rfl
abbrev cd_E : Type := Launch × va_G × List (ClassId × FieldType) × (Nat → Nat) × Nat × Heap × Nat
abbrev cd_la (X : cd_E) : Launch := X.1
abbrev cd_D (X : cd_E) : va_G := X.2.1
abbrev cd_ty (X : cd_E) : List (ClassId × FieldType) := X.2.2.1
abbrev cd_al (X : cd_E) : Nat → Nat := X.2.2.2.1
abbrev cd_B (X : cd_E) : Nat := X.2.2.2.2.1
abbrev cd_O (X : cd_E) : Heap := X.2.2.2.2.2.1
abbrev cd_mi (X : cd_E) : Nat := X.2.2.2.2.2.2
def cd_v (X : cd_E) (v : Value) : Value := match v with
  | .ref i => .ref (cd_al X i)
  | w => w
theorem cd_v_cat (X : cd_E) (v : Value) : (cd_v X v).category = v.category := by cases v <;> rfl
theorem cd_v_rf (X : cd_E) (r : Option Nat) : cd_v X (va_rf r) = va_rf (r.map (cd_al X)) := by cases r <;> rfl
def cd_rd (X : cd_E) (h : cd_H) (a : Nat) (t : FieldType) (j : Nat) : Value := match t with
  | .long => .long (cd_l h a j)
  | .object _ => va_rf ((cd_r h a j).map (cd_al X))
  | .array _ => va_rf ((cd_r h a j).map (cd_al X))
  | _ => .int (cd_i h a j)
def cd_ob (X : cd_E) (h : cd_H) (a c N : Nat) (cell : Cell) : Prop := cell.cls = (cd_D X).1 c ∧ cell.vm ≠ .unknown ∧ cell.vm.isStatics = false ∧ (64 ≤ a → cell.vm = .none) ∧ ∀ k, k < N → cell.slots[(cd_D X).2 c k]? = some (cd_rd X h a (cd_tc c k) k)
def cd_sz (a n z : Nat) : Prop := (n ≤ z ∧ z.toInt32 = nI n) ∧ (64 ≤ a → z = n)
theorem cd_sz.of {a n z : Nat} (h : z = n) : cd_sz a n z := ⟨⟨by omega, by rw [h]; rfl⟩, fun _ => h⟩
theorem cd_vin {j : Int32} {n z : Nat} (h : vp_in j n) (hz : n ≤ z) : vp_in j z := fun q => h (q.imp id (fun r => Nat.le_trans hz r))
def cd_av (X : cd_E) (h : cd_H) (a n : Nat) (t : ClassId × FieldType) (cell : Cell) : Prop := cell.vm ≠ .unknown ∧ cell.vm.isStatics = false ∧ (64 ≤ a → cell.cls = t.1 ∧ cell.vm = .none) ∧ cd_sz a n cell.slots.size ∧ ∀ j : Nat, j < n → cell.slots[j]? = some (cd_rd X h a t.2 j)
def cd_cell (X : cd_E) (h : cd_H) (H : Heap) (a : Nat) (q : Nat ⊕ (Nat × Nat)) : Prop := match q with
  | .inl c => ∃ (r : vw_C) (cell : Cell), vwCl[c]? = some r ∧ H[cd_al X a]? = some cell ∧ cd_ob X h a c r.2.2 cell
  | .inr z => ∃ (t : ClassId × FieldType) (cell : Cell), (cd_ty X)[z.1]? = some t ∧ H[cd_al X a]? = some cell ∧ cd_av X h a z.2 t cell
def cd_R (X : cd_E) (h : cd_H) (H : Heap) : Prop := 64 ≤ cd_n h ∧ H.size = cd_B X + (cd_n h - 64) ∧ (∀ i, cd_n h ≤ i → cd_k h i = none) ∧ (∀ a q, cd_k h a = some q → cd_cell X h H a q) ∧ (∀ q : Nat, q < cd_B X → H[q]? = (cd_O X)[q]?) ∧ ∀ a, a < 64 → cd_k h a = cd_k0 a
def cd_ok (X : cd_E) : Prop := (∀ i, i < 64 → cd_al X i < cd_B X) ∧ (∀ i, 64 ≤ i → cd_al X i = cd_B X + (i - 64)) ∧ ∀ (z : Nat) (t : FieldType), cd_aT[z]? = some t → ∃ cA : ClassId, (cd_ty X)[z]? = some (cA, t)
def cd_SI (s : State) (C f d : String) (i : Nat) : Prop := ∃ cf kf fi fd, s.fieldFound? C f d = some (cf, kf, fi, fd) ∧ fd.slot = i ∧ fd.isStatic = false
theorem cd_SI.moved {u E : State} {C f d : String} {i : Nat} (hvm : u.vm.Alike E.vm) (h : cd_SI u C f d i) : cd_SI E C f d i := by
  obtain ⟨cf, kf, fi, fd, hi, hs⟩ := h
  obtain ⟨kf', hi', -⟩ := State.fieldFound?_setVm (s := u) hvm hi
  exact ⟨cf, kf', fi, fd, by simpa only [State.fieldFound?, State.vm_setVm] using hi', hs⟩
def cd_K (X : cd_E) (s : State) : Prop := (∀ (c : Nat) (q : vw_C), vwCl[c]? = some q → (∀ k, k < q.2.2 → cd_SI s (q.2.1 k).1 (q.2.1 k).2.1 (q.2.1 k).2.2.1 ((cd_D X).2 c k)) ∧ s.vm.findClass q.1 = some ((cd_D X).1 c) ∧ ∃ kC : Class, s.vm.classes[(cd_D X).1 c]? = some kC) ∧ (∀ (k : Nat) (q : ClassId × FieldType), (cd_ty X)[k]? = some q → ArrOfT s q.1 q.2 ∧ va_RA s q.1 q.2) ∧
  ∀ (a z n : Nat) (t : ClassId × FieldType) (cell : Cell), a < 64 → cd_k0 a = some (.inr (z, n)) → (cd_ty X)[z]? = some t → (cd_O X)[cd_al X a]? = some cell → s.isArrayOf cell t.2
theorem cd_K.moved {X : cd_E} {s U : State} (hvm : s.vm.Alike U.vm) (h : cd_K X s) : cd_K X U := by
  refine ⟨fun c q hq => ?_, fun k q hq => ⟨arrOfT_moved hvm (h.2.1 k q hq).1, (h.2.1 k q hq).2.moved hvm⟩, fun a z n t cell h1 h2 h3 h4 => State.isArrayOf_alike hvm (h.2.2 a z n t cell h1 h2 h3 h4)⟩
  obtain ⟨h1, h2, kC, h3⟩ := h.1 c q hq
  obtain ⟨k', hk', -⟩ := hvm.2.2 _ _ h3
  exact ⟨fun k hk => cd_SI.moved hvm (h1 k hk), by rw [hvm.findClass]; exact h2, k', hk'⟩
def cd_G2 (X : cd_E) (s : State) : Prop := va_Mi "[Ljava/lang/Object;" (cd_mi X) s ∧ va_Dc s ∧ (cd_mi X < cd_B X → cd_al X 34 = cd_mi X) ∧ (∃ o : Option Nat, va_Z "jdk/internal/util/Preconditions" "SIOOBE_FORMATTER" "Ljava/util/function/BiFunction;" (va_rf (o.map (cd_al X))) (fun a => cd_B X ≤ a) s (cd_O X)) ∧ ∃ (L : Nat) (xs : Nat → Int32), va_X (cd_al X 35) L xs s (cd_O X)
def cd_G (X : cd_E) (s : State) : Prop := cd_K X s ∧ (∀ w ∈ cd_nest, va_Nw w s) ∧ (∀ q ∈ cd_strs, vk_R q.1 q.2.1 q.2.2.1 (cd_al X q.2.2.2) s) ∧ (∀ q ∈ cd_stats, va_Z q.1 q.2.1 q.2.2.1 (cd_v X q.2.2.2) (fun a => cd_B X ≤ a) s (cd_O X)) ∧ (∀ C ∈ cd_over, va_AO C s) ∧ cd_G2 X s
theorem cd_G_warm {X : cd_E} {s U : State} (hG : cd_G X s) (hW : s.WarmedH U.vm) : cd_G X U :=
  ⟨cd_K.moved hW.alike hG.1, fun w hw => cd_nest_warm hW w hw (hG.2.1 w hw), fun q hq => vk_R.warm hW (hG.2.2.1 q hq), fun q hq => va_Z.moved hW.alike (hG.2.2.2.1 q hq), fun C hC => va_AO.moved hW.alike (hG.2.2.2.2.1 C hC), hG.2.2.2.2.2.1.moved hW.alike, hG.2.2.2.2.2.2.1.moved hW.alike, hG.2.2.2.2.2.2.2.1, hG.2.2.2.2.2.2.2.2.1.imp fun _ h => va_Z.moved hW.alike h, hG.2.2.2.2.2.2.2.2.2.imp fun _ h => h.imp fun _ h => va_X.moved hW.alike h⟩
theorem cd_G_same {X : cd_E} {s U : State} (hG : cd_G X s) (hv : s.vm = U.vm) : cd_G X U :=
  ⟨cd_K.moved (by rw [hv]; exact Vm.Alike.refl _) hG.1, fun w hw => va_Nw.same (cd_nest_tab w hw) hv (hG.2.1 w hw), fun q hq => vk_R.same hv.symm (hG.2.2.1 q hq), fun q hq => va_Z.moved (by rw [hv]; exact Vm.Alike.refl _) (hG.2.2.2.1 q hq), fun C hC => va_AO.moved (by rw [hv]; exact Vm.Alike.refl _) (hG.2.2.2.2.1 C hC), hG.2.2.2.2.2.1.moved (by rw [hv]; exact Vm.Alike.refl _), hG.2.2.2.2.2.2.1.moved (by rw [hv]; exact Vm.Alike.refl _), hG.2.2.2.2.2.2.2.1, hG.2.2.2.2.2.2.2.2.1.imp fun _ h => va_Z.moved (by rw [hv]; exact Vm.Alike.refl _) h, hG.2.2.2.2.2.2.2.2.2.imp fun _ h => h.imp fun _ h => va_X.moved (by rw [hv]; exact Vm.Alike.refl _) h⟩
theorem cd_al_ne {X : cd_E} (ok : cd_ok X) {a b : Nat} (ha : 64 ≤ a) (hb : b ≠ a) : cd_al X b ≠ cd_al X a := by
  have e1 := ok.2.1 a ha
  by_cases h : b < 64
  · have e2 := ok.1 b h
    omega
  · have e2 := ok.2.1 b (by omega)
    omega
theorem cd_al_ge {X : cd_E} (ok : cd_ok X) {a : Nat} (ha : 64 ≤ a) : cd_B X ≤ cd_al X a := by
  have e1 := ok.2.1 a ha
  omega
theorem cd_R.lt {X : cd_E} {h : cd_H} {H : Heap} (hR : cd_R X h H) {a : Nat} {q : Nat ⊕ (Nat × Nat)} (hq : cd_k h a = some q) : a < cd_n h := by
  by_cases hl : a < cd_n h
  · exact hl
  · have e := hR.2.2.1 a (by omega)
    rw [e] at hq
    cases hq
theorem cd_cell.kept {X : cd_E} {h h' : cd_H} {H H' : Heap} {a : Nat} {q : Nat ⊕ (Nat × Nat)} (hc : cd_cell X h H a q) (hH : H'[cd_al X a]? = H[cd_al X a]?) (hr : ∀ (t : FieldType) (j : Nat), cd_rd X h' a t j = cd_rd X h a t j) : cd_cell X h' H' a q := by
  cases q with
  | inl c =>
    obtain ⟨r, cell, h1, h2, h3, h4, h5, h6, h7⟩ := hc
    exact ⟨r, cell, h1, hH.trans h2, h3, h4, h5, h6, fun k hk => by rw [hr]; exact h7 k hk⟩
  | inr z =>
    obtain ⟨t, cell, h1, h2, h3, h4, h5, h6, h7⟩ := hc
    exact ⟨t, cell, h1, hH.trans h2, h3, h4, h5, h6, fun k hk => by rw [hr]; exact h7 k hk⟩
theorem cd_rd_of {X : cd_E} {h h' : cd_H} {b : Nat} (e1 : ∀ j, cd_i h' b j = cd_i h b j) (e2 : ∀ j, cd_l h' b j = cd_l h b j) (e3 : ∀ j, cd_r h' b j = cd_r h b j) (t : FieldType) (j : Nat) : cd_rd X h' b t j = cd_rd X h b t j := by
  cases t <;> simp [cd_rd, e1, e2, e3]
theorem cd_R.put {X : cd_E} (ok : cd_ok X) {h h' : cd_H} {H H' : Heap} {a : Nat} {q : Nat ⊕ (Nat × Nat)} (hR : cd_R X h H) (ha : 64 ≤ a) (hq : cd_k h a = some q) (z : H'.size = H.size) (oq : ∀ b : Nat, b ≠ cd_al X a → H'[b]? = H[b]?) (en : cd_n h' = cd_n h) (ek : cd_k h' = cd_k h)
    (ei : ∀ b, b ≠ a → ∀ (t : FieldType) (j : Nat), cd_rd X h' b t j = cd_rd X h b t j) (hc : cd_cell X h' H' a q) : cd_R X h' H' := by
  refine ⟨by rw [en]; exact hR.1, by rw [z, en]; exact hR.2.1, fun i hi => by rw [ek]; exact hR.2.2.1 i (by rw [← en]; exact hi), fun b q' hb => ?_, fun b hb => ?_, fun b hb => by rw [ek]; exact hR.2.2.2.2.2 b hb⟩
  · rw [ek] at hb
    by_cases e : b = a
    · subst e
      cases hq.symm.trans hb
      exact hc
    · exact (hR.2.2.2.1 b q' hb).kept (oq _ (cd_al_ne ok ha e)) (ei b e)
  · rw [oq b (fun e => by have := cd_al_ge ok ha; omega)]
    exact hR.2.2.2.2.1 b hb
theorem cd_R.push {X : cd_E} (ok : cd_ok X) {h : cd_H} {H H' : Heap} {q : Nat ⊕ (Nat × Nat)} (hR : cd_R X h H) (z : H'.size = H.size + 1) (oq : ∀ b : Nat, b < H.size → H'[b]? = H[b]?) (hc : cd_cell X (cd_new h q) H' (cd_n h) q) : cd_R X (cd_new h q) H' := by
  have hn := hR.1
  have hz := hR.2.1
  refine ⟨by rw [cd_n_new]; omega, by rw [cd_n_new]; omega, fun i hi => ?_, fun b q' hb => ?_, fun b hb => ?_, fun b hb => by rw [cd_k_new, if_neg (by omega)]; exact hR.2.2.2.2.2 b hb⟩
  · rw [cd_n_new] at hi
    rw [cd_k_new, if_neg (by omega)]
    exact hR.2.2.1 i (by omega)
  · rw [cd_k_new] at hb
    by_cases e : b = cd_n h
    · rw [if_pos e] at hb
      subst e
      cases hb
      exact hc
    · rw [if_neg e] at hb
      have hl := hR.lt hb
      have hlt : cd_al X b < H.size := by
        by_cases h6 : b < 64
        · have := ok.1 b h6
          omega
        · have := ok.2.1 b (by omega)
          omega
      exact (hR.2.2.2.1 b q' hb).kept (oq _ hlt) (cd_rd_of (fun j => by rw [cd_i_new, if_neg e]) (fun j => by rw [cd_l_new, if_neg e]) (fun j => by rw [cd_r_new, if_neg e]))
  · rw [oq b (by omega)]
    exact hR.2.2.2.2.1 b hb
theorem cd_al_n {X : cd_E} (ok : cd_ok X) {h : cd_H} {H : Heap} (hR : cd_R X h H) : cd_al X (cd_n h) = H.size := by
  have e1 := ok.2.1 (cd_n h) hR.1
  have e2 := hR.2.1
  omega
def cd_as (X : cd_E) : List (Option Value) → Nat → List (Nat × Value)
  | [], _ => []
  | none :: L, i => cd_as X L (i + 1)
  | some v :: L, i => (i, cd_v X v) :: cd_as X L (i + 1)
def cd_kl (o : Option Value) : Option Value := match o with
  | some (.long _) => none
  | some (.double _) => none
  | w => w
def cd_st : List (Option Value) → Nat → Value → List (Option Value)
  | [], _, _ => []
  | _ :: L, 0, v => some v :: L
  | o :: L, 1, v => cd_kl o :: cd_st L 0 v
  | o :: L, i + 2, v => o :: cd_st L (i + 1) v
def cd_st2 : List (Option Value) → Nat → Value → List (Option Value)
  | [], _, _ => []
  | [_], 0, v => [some v]
  | _ :: _ :: L, 0, v => some v :: none :: L
  | o :: L, 1, v => cd_kl o :: cd_st2 L 0 v
  | o :: L, i + 2, v => o :: cd_st2 L (i + 1) v
theorem cd_as_mem (X : cd_E) : ∀ (L : List (Option Value)) (i k : Nat) (v : Value), L[i]? = some (some v) → (k + i, cd_v X v) ∈ cd_as X L k := by
  intro L
  induction L with
  | nil => intro i k v h; simp at h
  | cons o L ih =>
    intro i k v h
    cases i with
    | zero =>
      simp at h
      subst h
      simp [cd_as]
    | succ i =>
      simp at h
      have h2 := ih i (k + 1) v h
      have e : k + 1 + i = k + (i + 1) := by omega
      rw [e] at h2
      cases o with
      | none => exact h2
      | some w => exact List.mem_cons_of_mem _ h2
theorem cd_as_ge (X : cd_E) : ∀ (L : List (Option Value)) (k : Nat) (q : Nat × Value), q ∈ cd_as X L k → k ≤ q.1 := by
  intro L
  induction L with
  | nil => intro k q h; simp [cd_as] at h
  | cons o L ih =>
    intro k q h
    cases o with
    | none =>
      have := ih (k + 1) q h
      omega
    | some w =>
      rcases List.mem_cons.mp h with rfl | h
      · exact Nat.le_refl _
      · have := ih (k + 1) q h
        omega
theorem cd_at {X : cd_E} {ls : Array Slot} {nL : Nat} {L : List (Option Value)} (h : lv_has ls nL (cd_as X L 0)) {i : Nat} {v : Value} (hi : L[i]? = some (some v)) : ls[i]? = some (.val (cd_v X v)) := by
  have e := cd_as_mem X L i 0 v hi
  rw [Nat.zero_add] at e
  exact h.2.2 _ e
theorem cd_kl_cat {o : Option Value} {w : Value} (h : cd_kl o = some w) : o = some w ∧ ¬ w.category = 2 := by
  cases o with
  | none => cases h
  | some z => cases z <;> simp_all [cd_kl, Value.category] <;> (try (subst h; simp [Value.category]))
theorem cd_as_tail (X : cd_E) (o : Option Value) (L : List (Option Value)) (k : Nat) (q : Nat × Value) (h : q ∈ cd_as X L (k + 1)) : q ∈ cd_as X (o :: L) k := by
  cases o with
  | none => exact h
  | some w => exact List.mem_cons_of_mem _ h
theorem cd_st_sub (X : cd_E) (v : Value) : ∀ (L : List (Option Value)) (i k : Nat) (q : Nat × Value), q ∈ cd_as X (cd_st L i v) k → (q = (k + i, cd_v X v)) ∨ (q ∈ cd_as X L k ∧ ¬ q.1 = k + i ∧ ¬ (q.1 + 1 = k + i ∧ q.2.category = 2)) := by
  intro L
  induction L with
  | nil => intro i k q h; simp [cd_st, cd_as] at h
  | cons o L ih =>
    intro i k q h
    match i, h with
    | 0, h =>
      simp only [cd_st, cd_as] at h
      rcases List.mem_cons.mp h with h | h
      · exact Or.inl (by simpa using h)
      · have hg := cd_as_ge X L (k + 1) q h
        exact Or.inr ⟨cd_as_tail X o L k q h, by omega, by omega⟩
    | 1, h =>
      have rest : q ∈ cd_as X (cd_st L 0 v) (k + 1) → (q = (k + 1, cd_v X v)) ∨ (q ∈ cd_as X (o :: L) k ∧ ¬ q.1 = k + 1 ∧ ¬ (q.1 + 1 = k + 1 ∧ q.2.category = 2)) := by
        intro h
        rcases ih 0 (k + 1) q h with h1 | ⟨h1, h2, h3⟩
        · exact Or.inl h1
        · have hg := cd_as_ge X L (k + 1) q h1
          exact Or.inr ⟨cd_as_tail X o L k q h1, h2, by omega⟩
      simp only [cd_st] at h
      cases hk : cd_kl o with
      | none =>
        rw [hk] at h
        exact rest h
      | some w =>
        rw [hk] at h
        obtain ⟨ho, hc⟩ := cd_kl_cat hk
        simp only [cd_as] at h
        rcases List.mem_cons.mp h with h | h
        · subst h
          refine Or.inr ⟨?_, by simp, fun z => hc ?_⟩
          · rw [ho]
            simp [cd_as]
          · rw [← cd_v_cat X w]; exact z.2
        · exact rest h
    | i + 2, h =>
      have rest : q ∈ cd_as X (cd_st L (i + 1) v) (k + 1) → (q = (k + (i + 2), cd_v X v)) ∨ (q ∈ cd_as X (o :: L) k ∧ ¬ q.1 = k + (i + 2) ∧ ¬ (q.1 + 1 = k + (i + 2) ∧ q.2.category = 2)) := by
        intro h
        have e : k + 1 + (i + 1) = k + (i + 2) := by omega
        have h0 := ih (i + 1) (k + 1) q h
        rw [e] at h0
        rcases h0 with h1 | ⟨h1, h2, h3⟩
        · exact Or.inl h1
        · exact Or.inr ⟨cd_as_tail X o L k q h1, h2, h3⟩
      simp only [cd_st] at h
      cases o with
      | none => exact rest h
      | some w =>
        simp only [cd_as] at h
        rcases List.mem_cons.mp h with h | h
        · subst h
          refine Or.inr ⟨by simp [cd_as], ?_, ?_⟩
          · show ¬ k = k + (i + 2)
            omega
          · show ¬ (k + 1 = k + (i + 2) ∧ _)
            omega
        · exact rest h
theorem cd_st2_sub (X : cd_E) (v : Value) : ∀ (L : List (Option Value)) (i k : Nat) (q : Nat × Value), i + 1 < L.length → q ∈ cd_as X (cd_st2 L i v) k → (q = (k + i, cd_v X v)) ∨ (q ∈ cd_as X L k ∧ ¬ q.1 = k + i ∧ ¬ q.1 = k + i + 1 ∧ ¬ (q.1 + 1 = k + i ∧ q.2.category = 2)) := by
  intro L
  induction L with
  | nil => intro i k q hl h; simp at hl
  | cons o L ih =>
    intro i k q hl h
    match i, hl, h with
    | 0, hl, h =>
      match L, hl, h with
      | [], hl, h => simp at hl
      | o2 :: L2, hl, h =>
        simp only [cd_st2, cd_as] at h
        rcases List.mem_cons.mp h with h | h
        · exact Or.inl (by simpa using h)
        · have hg := cd_as_ge X L2 (k + 1 + 1) q h
          exact Or.inr ⟨cd_as_tail X o _ k q (cd_as_tail X o2 L2 (k + 1) q h), by omega, by omega, by omega⟩
    | 1, hl, h =>
      have rest : q ∈ cd_as X (cd_st2 L 0 v) (k + 1) → (q = (k + 1, cd_v X v)) ∨ (q ∈ cd_as X (o :: L) k ∧ ¬ q.1 = k + 1 ∧ ¬ q.1 = k + 1 + 1 ∧ ¬ (q.1 + 1 = k + 1 ∧ q.2.category = 2)) := by
        intro h
        rcases ih 0 (k + 1) q (by simp at hl; omega) h with h1 | ⟨h1, h2, h3, h4⟩
        · exact Or.inl h1
        · have hg := cd_as_ge X L (k + 1) q h1
          exact Or.inr ⟨cd_as_tail X o L k q h1, h2, h3, by omega⟩
      simp only [cd_st2] at h
      cases hk : cd_kl o with
      | none =>
        rw [hk] at h
        exact rest h
      | some w =>
        rw [hk] at h
        obtain ⟨ho, hc⟩ := cd_kl_cat hk
        simp only [cd_as] at h
        rcases List.mem_cons.mp h with h | h
        · subst h
          refine Or.inr ⟨?_, by simp, ?_, fun z => hc ?_⟩
          · rw [ho]
            simp [cd_as]
          · show ¬ k = k + 1 + 1
            omega
          · rw [← cd_v_cat X w]; exact z.2
        · exact rest h
    | i + 2, hl, h =>
      have rest : q ∈ cd_as X (cd_st2 L (i + 1) v) (k + 1) → (q = (k + (i + 2), cd_v X v)) ∨ (q ∈ cd_as X (o :: L) k ∧ ¬ q.1 = k + (i + 2) ∧ ¬ q.1 = k + (i + 2) + 1 ∧ ¬ (q.1 + 1 = k + (i + 2) ∧ q.2.category = 2)) := by
        intro h
        have e : k + 1 + (i + 1) = k + (i + 2) := by omega
        have h0 := ih (i + 1) (k + 1) q (by simp at hl; omega) h
        rw [e] at h0
        rcases h0 with h1 | ⟨h1, h2, h3, h4⟩
        · exact Or.inl h1
        · exact Or.inr ⟨cd_as_tail X o L k q h1, h2, h3, h4⟩
      simp only [cd_st2] at h
      cases o with
      | none => exact rest h
      | some w =>
        simp only [cd_as] at h
        rcases List.mem_cons.mp h with h | h
        · subst h
          refine Or.inr ⟨by simp [cd_as], ?_, ?_, ?_⟩
          · show ¬ k = k + (i + 2)
            omega
          · show ¬ k = k + (i + 2) + 1
            omega
          · show ¬ (k + 1 = k + (i + 2) ∧ _)
            omega
        · exact rest h
theorem cd_has_sub {ls : Array Slot} {nL : Nat} {l l' : List (Nat × Value)} (h : lv_has ls nL l) (hs : ∀ q ∈ l', q ∈ l) : lv_has ls nL l' := ⟨h.1, h.2.1, fun q hq => h.2.2 q (hs q hq)⟩
theorem cd_st_has {X : cd_E} {ls : Array Slot} {nL i : Nat} {L : List (Option Value)} {v : Value} (h : lv_has ls nL ((i, cd_v X v) :: (cd_as X L 0).filter (fun q => !(q.1 == i) && !(q.1 + 1 == i && q.2.category == 2)))) : lv_has ls nL (cd_as X (cd_st L i v) 0) := by
  refine cd_has_sub h fun q hq => ?_
  rcases cd_st_sub X v L i 0 q hq with h1 | ⟨h1, h2, h3⟩
  · rw [h1, Nat.zero_add]; exact List.mem_cons_self
  · rw [Nat.zero_add] at h2 h3
    refine List.mem_cons_of_mem _ (List.mem_filter.mpr ⟨h1, ?_⟩)
    by_cases hc : q.2.category = 2
    · have h4 : ¬ q.1 + 1 = i := fun z => h3 ⟨z, hc⟩
      simp [h2, h4]
    · simp [h2, hc]
theorem cd_st2_has {X : cd_E} {ls : Array Slot} {nL i : Nat} {L : List (Option Value)} {v : Value} (hl : i + 1 < L.length) (h : lv_has ls nL ((i, cd_v X v) :: (cd_as X L 0).filter (fun q => !(q.1 == i) && (!(q.1 == i + 1) && !(q.1 + 1 == i && q.2.category == 2))))) : lv_has ls nL (cd_as X (cd_st2 L i v) 0) := by
  refine cd_has_sub h fun q hq => ?_
  rcases cd_st2_sub X v L i 0 q hl hq with h1 | ⟨h1, h2, h3, h4⟩
  · rw [h1, Nat.zero_add]; exact List.mem_cons_self
  · rw [Nat.zero_add] at h2 h3 h4
    refine List.mem_cons_of_mem _ (List.mem_filter.mpr ⟨h1, ?_⟩)
    by_cases hc : q.2.category = 2
    · have h5 : ¬ q.1 + 1 = i := fun z => h4 ⟨z, hc⟩
      simp [h2, h3, h5]
    · simp [h2, h3, hc]
def cd_args : List Value → List (Option Value)
  | [] => []
  | .long x :: vs => some (.long x) :: none :: cd_args vs
  | .double x :: vs => some (.double x) :: none :: cd_args vs
  | v :: vs => some v :: cd_args vs
theorem cd_args_sub (X : cd_E) : ∀ (vs : List Value) (n k : Nat) (q : Nat × Value), q ∈ cd_as X (cd_args vs ++ List.replicate n none) k → q ∈ lv_args k (vs.map (cd_v X)) := by
  have hz : ∀ (n k : Nat) (q : Nat × Value), ¬ q ∈ cd_as X (List.replicate n none) k := by
    intro n
    induction n with
    | zero => intro k q h; simp [cd_as] at h
    | succ n ih => intro k q h; exact ih (k + 1) q (by simpa [List.replicate_succ, cd_as] using h)
  intro vs
  induction vs with
  | nil => intro n k q h; exact absurd h (hz n k q)
  | cons v vs ih =>
    intro n k q h
    cases v <;> simp only [cd_args, List.cons_append, cd_as] at h <;> simp only [List.map_cons, lv_args] <;> rcases List.mem_cons.mp h with h | h <;> first | (rw [h]; exact List.mem_cons_self) | (refine List.mem_cons_of_mem _ ?_; exact ih n _ q h)
abbrev cd_M : Type := MethodName × ByteArray × Nat × Option FieldType × Nat × Nat
abbrev cd_y (M : cd_M) : MethodName := M.1
abbrev cd_cc (M : cd_M) : ByteArray := M.2.1
abbrev cd_nL (M : cd_M) : Nat := M.2.2.1
abbrev cd_rt (M : cd_M) : Option FieldType := M.2.2.2.1
abbrev cd_fr (M : cd_M) : Nat := M.2.2.2.2.1
abbrev cd_lo (M : cd_M) : Nat := M.2.2.2.2.2
def cd_isR (ty : FieldType) : Prop := (∃ n, ty = .object n) ∨ ∃ t, ty = .array t
def cd_ret (M : cd_M) (pc : Nat) (r : Option Value) : Prop := match r with
  | none => decode (cd_cc M) pc = .ok (.return_, 1) ∧ cd_rt M = none
  | some (.int v) => decode (cd_cc M) pc = .ok (.ireturn, 1) ∧ ∃ ty, cd_rt M = some ty ∧ narrow ty (.int v) = .int v
  | some (.long _) => decode (cd_cc M) pc = .ok (.lreturn, 1) ∧ cd_rt M = some .long
  | some .null => decode (cd_cc M) pc = .ok (.areturn, 1) ∧ ∃ ty, cd_rt M = some ty ∧ cd_isR ty
  | some (.ref _) => decode (cd_cc M) pc = .ok (.areturn, 1) ∧ ∃ ty, cd_rt M = some ty ∧ cd_isR ty
  | _ => False
def cd_F (X : cd_E) (M : cd_M) (p : Program) (R : Room) (s : State) (m : MethodId) (args : Array Value) (meth : Method) (c : Code) : Prop :=
  cd_ok X ∧ p.tables.exec = Jvm.exec ∧ c.code = cd_cc M ∧ c.maxLocals = cd_nL M ∧ s.vm.findClass (cd_y M).cls = some m.cls ∧ (∀ w ∈ cd_tbl, w.before args s = true) ∧ meth.sig.returnType = cd_rt M ∧ meth.locks = false ∧ meth.name = (cd_y M).name ∧ cd_G X s ∧ cd_fr M ≤ R.frames ∧ cd_lo M ≤ R.locals
def cd_W (X : cd_E) (M : cd_M) (kc ks pc : Nat) (L : List (Option Value)) (S : List Value) (h : cd_H) (Q : Option Value → cd_H → Prop) : Prop :=
  ∀ (p : Program) (e : Env) (R : Room) (s : State) (m : MethodId) (args : Array Value) (below : List Frame) (meth : Method) (c : Code) (H : Heap) (locs : List Loc) (cells slots : Nat) (ls : Array Slot) (Qf : State → Prop),
    cd_F X M p R s m args meth c → cells + kc ≤ R.cells → slots + ks ≤ R.slots → cd_R X h H → (∀ q ∈ locs, cd_B X ≤ q.base) → lv_has ls (cd_nL M) (cd_as X L 0) → L.length = cd_nL M →
    (∀ (pc' : Nat) (ls' : Array Slot) (H' : Heap) (locs' : List Loc) (r : Option Value) (h' : cd_H), Q r h' → cd_R X h' H' → (∀ q ∈ locs', cd_B X ≤ q.base) → cd_ret M pc' r → W p (cd_la X) e R s m args below meth c H' locs' R.cells R.slots Qf (F0 m pc' ls' (r.toList.map (cd_v X)))) →
    W p (cd_la X) e R s m args below meth c H locs cells slots Qf (F0 m pc ls (S.map (cd_v X)))
theorem cd_st_len : ∀ (L : List (Option Value)) (i : Nat) (v : Value), (cd_st L i v).length = L.length := by
  intro L
  induction L with
  | nil => intro i v; cases i <;> rfl
  | cons o L ih =>
    intro i v
    match i with
    | 0 => rfl
    | 1 => simp [cd_st, ih]
    | i + 2 => simp [cd_st, ih]
theorem cd_st2_len : ∀ (L : List (Option Value)) (i : Nat) (v : Value), (cd_st2 L i v).length = L.length := by
  intro L
  induction L with
  | nil => intro i v; cases i <;> rfl
  | cons o L ih =>
    intro i v
    match i with
    | 0 => cases L <;> rfl
    | 1 => simp [cd_st2, ih]
    | i + 2 => simp [cd_st2, ih]
def cd_isr (v : Value) : Prop := v = .null ∨ ∃ a, v = .ref a
theorem cd_isr_rf (o : Option Nat) : cd_isr (va_rf o) := by cases o <;> simp [cd_isr, va_rf]
theorem cd_isr_ref (a : Nat) : cd_isr (.ref a) := Or.inr ⟨a, rfl⟩
theorem cd_isr_null : cd_isr .null := Or.inl rfl
theorem cd_cat_rf (o : Option Nat) : (va_rf o).category = 1 := by cases o <;> rfl
section CDR
variable {X : cd_E} {M : cd_M} {kc ks pc : Nat} {L : List (Option Value)} {S : List Value} {h : cd_H} {Q : Option Value → cd_H → Prop}
theorem cd_W.mono {Q' : Option Value → cd_H → Prop} (hQ : ∀ r h', Q r h' → Q' r h') (k : cd_W X M kc ks pc L S h Q) : cd_W X M kc ks pc L S h Q' := by
  intro p e R s m args below meth c H locs cells slots ls Qf F a1 a2 hR hs hl hn ret
  exact k p e R s m args below meth c H locs cells slots ls Qf F a1 a2 hR hs hl hn (fun pc' ls' H' locs' r h' q => ret pc' ls' H' locs' r h' (hQ r h' q))
theorem cd_W.budget {kc' ks' : Nat} (h1 : kc ≤ kc') (h2 : ks ≤ ks') (k : cd_W X M kc ks pc L S h Q) : cd_W X M kc' ks' pc L S h Q := by
  intro p e R s m args below meth c H locs cells slots ls Qf F a1 a2 hR hs hl hn ret
  exact k p e R s m args below meth c H locs cells slots ls Qf F (by omega) (by omega) hR hs hl hn ret
theorem cd_W.locs {L' : List (Option Value)} (hlen : L'.length = L.length) (hs' : ∀ q ∈ cd_as X L' 0, q ∈ cd_as X L 0) (k : cd_W X M kc ks pc L' S h Q) : cd_W X M kc ks pc L S h Q := by
  intro p e R s m args below meth c H locs cells slots ls Qf F a1 a2 hR hs hl hn ret
  exact k p e R s m args below meth c H locs cells slots ls Qf F a1 a2 hR hs (cd_has_sub hl hs') (hlen.trans hn) ret
theorem cd_W.drop {i : Nat} (k : cd_W X M kc ks pc (L.set i none) S h Q) : cd_W X M kc ks pc L S h Q := by
  refine cd_W.locs (by simp) ?_ k
  have key : ∀ (L : List (Option Value)) (i k : Nat) (q : Nat × Value), q ∈ cd_as X (L.set i none) k → q ∈ cd_as X L k := by
    intro L
    induction L with
    | nil => intro i k q h; simpa using h
    | cons o L ih =>
      intro i k q h
      cases i with
      | zero => exact cd_as_tail X o L k q h
      | succ i =>
        cases o with
        | none => exact ih i (k + 1) q h
        | some w =>
          rcases List.mem_cons.mp h with h | h
          · rw [h]; exact List.mem_cons_self
          · exact List.mem_cons_of_mem _ (ih i (k + 1) q h)
  exact fun q hq => key L i 0 q hq
theorem cd_iconst {n : Int} {v : Int32} (hd : decode (cd_cc M) pc = .ok (.iconst n, 1)) (hv : Int32.ofInt n = v) (k : cd_W X M kc ks (pc + 1) L (.int v :: S) h Q) : cd_W X M kc ks pc L (S) h Q := by
  intro p e R s m args below meth c H locs cells slots ls Qf F a1 a2 hR hs hl hn ret
  exact lv_iconst F.2.1 F.2.2.1 hd hv (k p e R s m args below meth c H locs cells slots ls Qf F a1 a2 hR hs hl hn ret)
theorem cd_bipush {n : Int} {v : Int32} (hd : decode (cd_cc M) pc = .ok (.bipush n, 2)) (hv : (Int8.ofInt n).toInt32 = v) (k : cd_W X M kc ks (pc + 2) L (.int v :: S) h Q) : cd_W X M kc ks pc L (S) h Q := by
  intro p e R s m args below meth c H locs cells slots ls Qf F a1 a2 hR hs hl hn ret
  exact lv_bipush F.2.1 F.2.2.1 hd hv (k p e R s m args below meth c H locs cells slots ls Qf F a1 a2 hR hs hl hn ret)
theorem cd_sipush {n : Int} {v : Int32} (hd : decode (cd_cc M) pc = .ok (.sipush n, 3)) (hv : (Int16.ofInt n).toInt32 = v) (k : cd_W X M kc ks (pc + 3) L (.int v :: S) h Q) : cd_W X M kc ks pc L (S) h Q := by
  intro p e R s m args below meth c H locs cells slots ls Qf F a1 a2 hR hs hl hn ret
  exact lv_sipush F.2.1 F.2.2.1 hd hv (k p e R s m args below meth c H locs cells slots ls Qf F a1 a2 hR hs hl hn ret)
theorem cd_lconst {n : Fin 2} {v : Int64} (hd : decode (cd_cc M) pc = .ok (.lconst n, 1)) (hv : Int64.ofNat (n : Nat) = v) (k : cd_W X M kc ks (pc + 1) L (.long v :: S) h Q) : cd_W X M kc ks pc L (S) h Q := by
  intro p e R s m args below meth c H locs cells slots ls Qf F a1 a2 hR hs hl hn ret
  exact lv_lconst F.2.1 F.2.2.1 hd hv (k p e R s m args below meth c H locs cells slots ls Qf F a1 a2 hR hs hl hn ret)
theorem cd_iload_n {n : Fin 4} {i : Nat} {x : Int32} (hd : decode (cd_cc M) pc = .ok (.iload_n n, 1)) (hi : (n : Nat) = i) (hv : L[i]? = some (some (.int x))) (k : cd_W X M kc ks (pc + 1) L (.int x :: S) h Q) : cd_W X M kc ks pc L (S) h Q := by
  intro p e R s m args below meth c H locs cells slots ls Qf F a1 a2 hR hs hl hn ret
  exact lv_iload_n F.2.1 F.2.2.1 hd hi (cd_at hl hv) (k p e R s m args below meth c H locs cells slots ls Qf F a1 a2 hR hs hl hn ret)
theorem cd_iload {i : Nat} {x : Int32} (hd : decode (cd_cc M) pc = .ok (.iload i, 2)) (hv : L[i]? = some (some (.int x))) (k : cd_W X M kc ks (pc + 2) L (.int x :: S) h Q) : cd_W X M kc ks pc L (S) h Q := by
  intro p e R s m args below meth c H locs cells slots ls Qf F a1 a2 hR hs hl hn ret
  exact lv_iload F.2.1 F.2.2.1 hd (cd_at hl hv) (k p e R s m args below meth c H locs cells slots ls Qf F a1 a2 hR hs hl hn ret)
theorem cd_lload_n {n : Fin 4} {i : Nat} {x : Int64} (hd : decode (cd_cc M) pc = .ok (.lload_n n, 1)) (hi : (n : Nat) = i) (hv : L[i]? = some (some (.long x))) (k : cd_W X M kc ks (pc + 1) L (.long x :: S) h Q) : cd_W X M kc ks pc L (S) h Q := by
  intro p e R s m args below meth c H locs cells slots ls Qf F a1 a2 hR hs hl hn ret
  exact lv_lload_n F.2.1 F.2.2.1 hd hi (cd_at hl hv) (k p e R s m args below meth c H locs cells slots ls Qf F a1 a2 hR hs hl hn ret)
theorem cd_lload {i : Nat} {x : Int64} (hd : decode (cd_cc M) pc = .ok (.lload i, 2)) (hv : L[i]? = some (some (.long x))) (k : cd_W X M kc ks (pc + 2) L (.long x :: S) h Q) : cd_W X M kc ks pc L (S) h Q := by
  intro p e R s m args below meth c H locs cells slots ls Qf F a1 a2 hR hs hl hn ret
  exact lv_lload F.2.1 F.2.2.1 hd (cd_at hl hv) (k p e R s m args below meth c H locs cells slots ls Qf F a1 a2 hR hs hl hn ret)
theorem cd_aload_n {n : Fin 4} {i : Nat} {v : Value} (hd : decode (cd_cc M) pc = .ok (.aload_n n, 1)) (hi : (n : Nat) = i) (hv : L[i]? = some (some v)) (hr : cd_isr v) (k : cd_W X M kc ks (pc + 1) L (v :: S) h Q) : cd_W X M kc ks pc L S h Q := by
  intro p e R s m args below meth c H locs cells slots ls Qf F a1 a2 hR hs hl hn ret
  have kk := (k p e R s m args below meth c H locs cells slots ls Qf F a1 a2 hR hs hl hn ret)
  rcases hr with rfl | ⟨a, rfl⟩
  · exact lv_aload_nN F.2.1 F.2.2.1 hd hi (cd_at hl hv) kk
  · exact lv_aload_n F.2.1 F.2.2.1 hd hi (cd_at hl hv) kk
theorem cd_aload {i : Nat} {v : Value} (hd : decode (cd_cc M) pc = .ok (.aload i, 2)) (hv : L[i]? = some (some v)) (hr : cd_isr v) (k : cd_W X M kc ks (pc + 2) L (v :: S) h Q) : cd_W X M kc ks pc L S h Q := by
  intro p e R s m args below meth c H locs cells slots ls Qf F a1 a2 hR hs hl hn ret
  have kk := (k p e R s m args below meth c H locs cells slots ls Qf F a1 a2 hR hs hl hn ret)
  rcases hr with rfl | ⟨a, rfl⟩
  · exact lv_aloadN F.2.1 F.2.2.1 hd (cd_at hl hv) kk
  · exact lv_aload F.2.1 F.2.2.1 hd (cd_at hl hv) kk
theorem cd_istore_n {n : Fin 4} {i : Nat} {x : Int32} (hd : decode (cd_cc M) pc = .ok (.istore_n n, 1)) (hi : (n : Nat) = i) (hb : i < cd_nL M) (k : cd_W X M kc ks (pc + 1) (cd_st L i (.int x)) S h Q) : cd_W X M kc ks pc L (.int x :: S) h Q := by
  intro p e R s m args below meth c H locs cells slots ls Qf F a1 a2 hR hs hl hn ret
  exact lv_istore_n F.2.1 F.2.2.1 hd hi hl hb rfl (fun ls' hl' => k p e R s m args below meth c H locs cells slots ls' Qf F a1 a2 hR hs (cd_st_has hl') ((cd_st_len L i _).trans hn) ret)
theorem cd_istore {i : Nat} {x : Int32} (hd : decode (cd_cc M) pc = .ok (.istore i, 2)) (hb : i < cd_nL M) (k : cd_W X M kc ks (pc + 2) (cd_st L i (.int x)) S h Q) : cd_W X M kc ks pc L (.int x :: S) h Q := by
  intro p e R s m args below meth c H locs cells slots ls Qf F a1 a2 hR hs hl hn ret
  exact lv_istore F.2.1 F.2.2.1 hd hl hb rfl (fun ls' hl' => k p e R s m args below meth c H locs cells slots ls' Qf F a1 a2 hR hs (cd_st_has hl') ((cd_st_len L i _).trans hn) ret)
theorem cd_lstore_n {n : Fin 4} {i : Nat} {x : Int64} (hd : decode (cd_cc M) pc = .ok (.lstore_n n, 1)) (hi : (n : Nat) = i) (hb : i + 1 < cd_nL M) (k : cd_W X M kc ks (pc + 1) (cd_st2 L i (.long x)) S h Q) : cd_W X M kc ks pc L (.long x :: S) h Q := by
  intro p e R s m args below meth c H locs cells slots ls Qf F a1 a2 hR hs hl hn ret
  exact lv_lstore_n F.2.1 F.2.2.1 hd hi hl hb rfl (fun ls' hl' => k p e R s m args below meth c H locs cells slots ls' Qf F a1 a2 hR hs (cd_st2_has (by rw [hn]; exact hb) hl') ((cd_st2_len L i _).trans hn) ret)
theorem cd_lstore {i : Nat} {x : Int64} (hd : decode (cd_cc M) pc = .ok (.lstore i, 2)) (hb : i + 1 < cd_nL M) (k : cd_W X M kc ks (pc + 2) (cd_st2 L i (.long x)) S h Q) : cd_W X M kc ks pc L (.long x :: S) h Q := by
  intro p e R s m args below meth c H locs cells slots ls Qf F a1 a2 hR hs hl hn ret
  exact lv_lstore F.2.1 F.2.2.1 hd hl hb rfl (fun ls' hl' => k p e R s m args below meth c H locs cells slots ls' Qf F a1 a2 hR hs (cd_st2_has (by rw [hn]; exact hb) hl') ((cd_st2_len L i _).trans hn) ret)
theorem cd_astore_n {n : Fin 4} {i : Nat} {v : Value} (hd : decode (cd_cc M) pc = .ok (.astore_n n, 1)) (hi : (n : Nat) = i) (hb : i < cd_nL M) (hr : cd_isr v) (k : cd_W X M kc ks (pc + 1) (cd_st L i v) S h Q) : cd_W X M kc ks pc L (v :: S) h Q := by
  intro p e R s m args below meth c H locs cells slots ls Qf F a1 a2 hR hs hl hn ret
  have kk := fun (ls' : Array Slot) (hl' : lv_has ls' (cd_nL M) ((i, cd_v X v) :: (cd_as X L 0).filter (fun q => !(q.1 == i) && !(q.1 + 1 == i && q.2.category == 2)))) => k p e R s m args below meth c H locs cells slots ls' Qf F a1 a2 hR hs (cd_st_has hl') ((cd_st_len L i _).trans hn) ret
  rcases hr with rfl | ⟨a, rfl⟩
  · exact lv_astore_nN F.2.1 F.2.2.1 hd hi hl hb rfl kk
  · exact lv_astore_n F.2.1 F.2.2.1 hd hi hl hb rfl kk
theorem cd_astore {i : Nat} {v : Value} (hd : decode (cd_cc M) pc = .ok (.astore i, 2)) (hb : i < cd_nL M) (hr : cd_isr v) (k : cd_W X M kc ks (pc + 2) (cd_st L i v) S h Q) : cd_W X M kc ks pc L (v :: S) h Q := by
  intro p e R s m args below meth c H locs cells slots ls Qf F a1 a2 hR hs hl hn ret
  have kk := fun (ls' : Array Slot) (hl' : lv_has ls' (cd_nL M) ((i, cd_v X v) :: (cd_as X L 0).filter (fun q => !(q.1 == i) && !(q.1 + 1 == i && q.2.category == 2)))) => k p e R s m args below meth c H locs cells slots ls' Qf F a1 a2 hR hs (cd_st_has hl') ((cd_st_len L i _).trans hn) ret
  rcases hr with rfl | ⟨a, rfl⟩
  · exact lv_astoreN F.2.1 F.2.2.1 hd hl hb rfl kk
  · exact lv_astore F.2.1 F.2.2.1 hd hl hb rfl kk
theorem cd_iinc {i : Nat} {n : Int} {x v : Int32} (hd : decode (cd_cc M) pc = .ok (.iinc i n, 3)) (hv : L[i]? = some (some (.int x))) (he : x + Int32.ofInt n = v) (hb : i < cd_nL M) (k : cd_W X M kc ks (pc + 3) (cd_st L i (.int v)) S h Q) : cd_W X M kc ks pc L S h Q := by
  intro p e R s m args below meth c H locs cells slots ls Qf F a1 a2 hR hs hl hn ret
  have hm := cd_as_mem X L i 0 _ hv
  rw [Nat.zero_add] at hm
  obtain ⟨j, hj⟩ := List.getElem?_of_mem hm
  exact lv_iinc (k := j) (x := x) F.2.1 F.2.2.1 hd hl hj he hb rfl (fun ls' hl' => k p e R s m args below meth c H locs cells slots ls' Qf F a1 a2 hR hs (cd_st_has hl') ((cd_st_len L i _).trans hn) ret)
theorem cd_iadd {x y : Int32} (hd : decode (cd_cc M) pc = .ok (.iadd, 1)) (k : cd_W X M kc ks (pc + 1) L (.int (x + y) :: S) h Q) : cd_W X M kc ks pc L (.int y :: .int x :: S) h Q := by
  intro p e R s m args below meth c H locs cells slots ls Qf F a1 a2 hR hs hl hn ret
  exact lv_iadd F.2.1 F.2.2.1 hd (k p e R s m args below meth c H locs cells slots ls Qf F a1 a2 hR hs hl hn ret)
theorem cd_isub {x y : Int32} (hd : decode (cd_cc M) pc = .ok (.isub, 1)) (k : cd_W X M kc ks (pc + 1) L (.int (x - y) :: S) h Q) : cd_W X M kc ks pc L (.int y :: .int x :: S) h Q := by
  intro p e R s m args below meth c H locs cells slots ls Qf F a1 a2 hR hs hl hn ret
  exact lv_isub F.2.1 F.2.2.1 hd (k p e R s m args below meth c H locs cells slots ls Qf F a1 a2 hR hs hl hn ret)
theorem cd_imul {x y : Int32} (hd : decode (cd_cc M) pc = .ok (.imul, 1)) (k : cd_W X M kc ks (pc + 1) L (.int (x * y) :: S) h Q) : cd_W X M kc ks pc L (.int y :: .int x :: S) h Q := by
  intro p e R s m args below meth c H locs cells slots ls Qf F a1 a2 hR hs hl hn ret
  exact lv_imul F.2.1 F.2.2.1 hd (k p e R s m args below meth c H locs cells slots ls Qf F a1 a2 hR hs hl hn ret)
theorem cd_iand {x y : Int32} (hd : decode (cd_cc M) pc = .ok (.iand, 1)) (k : cd_W X M kc ks (pc + 1) L (.int (x &&& y) :: S) h Q) : cd_W X M kc ks pc L (.int y :: .int x :: S) h Q := by
  intro p e R s m args below meth c H locs cells slots ls Qf F a1 a2 hR hs hl hn ret
  exact lv_iand F.2.1 F.2.2.1 hd (k p e R s m args below meth c H locs cells slots ls Qf F a1 a2 hR hs hl hn ret)
theorem cd_ior {x y : Int32} (hd : decode (cd_cc M) pc = .ok (.ior, 1)) (k : cd_W X M kc ks (pc + 1) L (.int (x ||| y) :: S) h Q) : cd_W X M kc ks pc L (.int y :: .int x :: S) h Q := by
  intro p e R s m args below meth c H locs cells slots ls Qf F a1 a2 hR hs hl hn ret
  exact lv_ior F.2.1 F.2.2.1 hd (k p e R s m args below meth c H locs cells slots ls Qf F a1 a2 hR hs hl hn ret)
theorem cd_ixor {x y : Int32} (hd : decode (cd_cc M) pc = .ok (.ixor, 1)) (k : cd_W X M kc ks (pc + 1) L (.int (x ^^^ y) :: S) h Q) : cd_W X M kc ks pc L (.int y :: .int x :: S) h Q := by
  intro p e R s m args below meth c H locs cells slots ls Qf F a1 a2 hR hs hl hn ret
  exact lv_ixor F.2.1 F.2.2.1 hd (k p e R s m args below meth c H locs cells slots ls Qf F a1 a2 hR hs hl hn ret)
theorem cd_ishl {x y : Int32} (hd : decode (cd_cc M) pc = .ok (.ishl, 1)) (k : cd_W X M kc ks (pc + 1) L (.int (x <<< (y &&& 31)) :: S) h Q) : cd_W X M kc ks pc L (.int y :: .int x :: S) h Q := by
  intro p e R s m args below meth c H locs cells slots ls Qf F a1 a2 hR hs hl hn ret
  exact lv_ishl F.2.1 F.2.2.1 hd (k p e R s m args below meth c H locs cells slots ls Qf F a1 a2 hR hs hl hn ret)
theorem cd_ishr {x y : Int32} (hd : decode (cd_cc M) pc = .ok (.ishr, 1)) (k : cd_W X M kc ks (pc + 1) L (.int (x >>> (y &&& 31)) :: S) h Q) : cd_W X M kc ks pc L (.int y :: .int x :: S) h Q := by
  intro p e R s m args below meth c H locs cells slots ls Qf F a1 a2 hR hs hl hn ret
  exact lv_ishr F.2.1 F.2.2.1 hd (k p e R s m args below meth c H locs cells slots ls Qf F a1 a2 hR hs hl hn ret)
theorem cd_idiv {x y : Int32} (hd : decode (cd_cc M) pc = .ok (.idiv, 1)) (hne : ¬ y = 0) (k : cd_W X M kc ks (pc + 1) L (.int (x / y) :: S) h Q) : cd_W X M kc ks pc L (.int y :: .int x :: S) h Q := by
  intro p e R s m args below meth c H locs cells slots ls Qf F a1 a2 hR hs hl hn ret
  exact lv_idiv F.2.1 F.2.2.1 hd hne (k p e R s m args below meth c H locs cells slots ls Qf F a1 a2 hR hs hl hn ret)
theorem cd_irem {x y : Int32} (hd : decode (cd_cc M) pc = .ok (.irem, 1)) (hne : ¬ y = 0) (k : cd_W X M kc ks (pc + 1) L (.int (x - x / y * y) :: S) h Q) : cd_W X M kc ks pc L (.int y :: .int x :: S) h Q := by
  intro p e R s m args below meth c H locs cells slots ls Qf F a1 a2 hR hs hl hn ret
  exact lv_irem F.2.1 F.2.2.1 hd hne (k p e R s m args below meth c H locs cells slots ls Qf F a1 a2 hR hs hl hn ret)
theorem cd_ineg {x : Int32} (hd : decode (cd_cc M) pc = .ok (.ineg, 1)) (k : cd_W X M kc ks (pc + 1) L (.int (-x) :: S) h Q) : cd_W X M kc ks pc L (.int x :: S) h Q := by
  intro p e R s m args below meth c H locs cells slots ls Qf F a1 a2 hR hs hl hn ret
  exact lv_ineg F.2.1 F.2.2.1 hd (k p e R s m args below meth c H locs cells slots ls Qf F a1 a2 hR hs hl hn ret)
theorem cd_ladd {x y : Int64} (hd : decode (cd_cc M) pc = .ok (.ladd, 1)) (k : cd_W X M kc ks (pc + 1) L (.long (x + y) :: S) h Q) : cd_W X M kc ks pc L (.long y :: .long x :: S) h Q := by
  intro p e R s m args below meth c H locs cells slots ls Qf F a1 a2 hR hs hl hn ret
  exact lv_ladd F.2.1 F.2.2.1 hd (k p e R s m args below meth c H locs cells slots ls Qf F a1 a2 hR hs hl hn ret)
theorem cd_lsub {x y : Int64} (hd : decode (cd_cc M) pc = .ok (.lsub, 1)) (k : cd_W X M kc ks (pc + 1) L (.long (x - y) :: S) h Q) : cd_W X M kc ks pc L (.long y :: .long x :: S) h Q := by
  intro p e R s m args below meth c H locs cells slots ls Qf F a1 a2 hR hs hl hn ret
  exact lv_lsub F.2.1 F.2.2.1 hd (k p e R s m args below meth c H locs cells slots ls Qf F a1 a2 hR hs hl hn ret)
theorem cd_lmul {x y : Int64} (hd : decode (cd_cc M) pc = .ok (.lmul, 1)) (k : cd_W X M kc ks (pc + 1) L (.long (x * y) :: S) h Q) : cd_W X M kc ks pc L (.long y :: .long x :: S) h Q := by
  intro p e R s m args below meth c H locs cells slots ls Qf F a1 a2 hR hs hl hn ret
  exact lv_lmul F.2.1 F.2.2.1 hd (k p e R s m args below meth c H locs cells slots ls Qf F a1 a2 hR hs hl hn ret)
theorem cd_land {x y : Int64} (hd : decode (cd_cc M) pc = .ok (.land, 1)) (k : cd_W X M kc ks (pc + 1) L (.long (x &&& y) :: S) h Q) : cd_W X M kc ks pc L (.long y :: .long x :: S) h Q := by
  intro p e R s m args below meth c H locs cells slots ls Qf F a1 a2 hR hs hl hn ret
  exact lv_land F.2.1 F.2.2.1 hd (k p e R s m args below meth c H locs cells slots ls Qf F a1 a2 hR hs hl hn ret)
theorem cd_ldiv {x y : Int64} (hd : decode (cd_cc M) pc = .ok (.ldiv, 1)) (hne : ¬ y = 0) (k : cd_W X M kc ks (pc + 1) L (.long (x / y) :: S) h Q) : cd_W X M kc ks pc L (.long y :: .long x :: S) h Q := by
  intro p e R s m args below meth c H locs cells slots ls Qf F a1 a2 hR hs hl hn ret
  exact lv_ldiv F.2.1 F.2.2.1 hd hne (k p e R s m args below meth c H locs cells slots ls Qf F a1 a2 hR hs hl hn ret)
theorem cd_lrem {x y : Int64} (hd : decode (cd_cc M) pc = .ok (.lrem, 1)) (hne : ¬ y = 0) (k : cd_W X M kc ks (pc + 1) L (.long (x - x / y * y) :: S) h Q) : cd_W X M kc ks pc L (.long y :: .long x :: S) h Q := by
  intro p e R s m args below meth c H locs cells slots ls Qf F a1 a2 hR hs hl hn ret
  exact lv_lrem F.2.1 F.2.2.1 hd hne (k p e R s m args below meth c H locs cells slots ls Qf F a1 a2 hR hs hl hn ret)
theorem cd_lneg {x : Int64} (hd : decode (cd_cc M) pc = .ok (.lneg, 1)) (k : cd_W X M kc ks (pc + 1) L (.long (-x) :: S) h Q) : cd_W X M kc ks pc L (.long x :: S) h Q := by
  intro p e R s m args below meth c H locs cells slots ls Qf F a1 a2 hR hs hl hn ret
  exact lv_lneg F.2.1 F.2.2.1 hd (k p e R s m args below meth c H locs cells slots ls Qf F a1 a2 hR hs hl hn ret)
theorem cd_iushr {x y v : Int32} (hd : decode (cd_cc M) pc = .ok (.iushr, 1)) (hv : (x.toUInt32 >>> (y.toUInt32 &&& Int32.toUInt32 31)).toInt32 = v) (k : cd_W X M kc ks (pc + 1) L (.int v :: S) h Q) : cd_W X M kc ks pc L (.int y :: .int x :: S) h Q := by
  intro p e R s m args below meth c H locs cells slots ls Qf F a1 a2 hR hs hl hn ret
  exact lv_iushr F.2.1 F.2.2.1 hd hv (k p e R s m args below meth c H locs cells slots ls Qf F a1 a2 hR hs hl hn ret)
theorem cd_lshl {x v : Int64} {y : Int32} (hd : decode (cd_cc M) pc = .ok (.lshl, 1)) (hv : x <<< (y.toInt64 &&& 63) = v) (k : cd_W X M kc ks (pc + 1) L (.long v :: S) h Q) : cd_W X M kc ks pc L (.int y :: .long x :: S) h Q := by
  intro p e R s m args below meth c H locs cells slots ls Qf F a1 a2 hR hs hl hn ret
  exact lv_lshl F.2.1 F.2.2.1 hd hv (k p e R s m args below meth c H locs cells slots ls Qf F a1 a2 hR hs hl hn ret)
theorem cd_lshr {x v : Int64} {y : Int32} (hd : decode (cd_cc M) pc = .ok (.lshr, 1)) (hv : x >>> (y.toInt64 &&& 63) = v) (k : cd_W X M kc ks (pc + 1) L (.long v :: S) h Q) : cd_W X M kc ks pc L (.int y :: .long x :: S) h Q := by
  intro p e R s m args below meth c H locs cells slots ls Qf F a1 a2 hR hs hl hn ret
  exact lv_lshr F.2.1 F.2.2.1 hd hv (k p e R s m args below meth c H locs cells slots ls Qf F a1 a2 hR hs hl hn ret)
theorem cd_i2l {x : Int32} (hd : decode (cd_cc M) pc = .ok (.i2l, 1)) (k : cd_W X M kc ks (pc + 1) L (.long x.toInt64 :: S) h Q) : cd_W X M kc ks pc L (.int x :: S) h Q := by
  intro p e R s m args below meth c H locs cells slots ls Qf F a1 a2 hR hs hl hn ret
  exact lv_i2l F.2.1 F.2.2.1 hd rfl (k p e R s m args below meth c H locs cells slots ls Qf F a1 a2 hR hs hl hn ret)
theorem cd_l2i {x : Int64} (hd : decode (cd_cc M) pc = .ok (.l2i, 1)) (k : cd_W X M kc ks (pc + 1) L (.int x.toInt32 :: S) h Q) : cd_W X M kc ks pc L (.long x :: S) h Q := by
  intro p e R s m args below meth c H locs cells slots ls Qf F a1 a2 hR hs hl hn ret
  exact lv_l2i F.2.1 F.2.2.1 hd rfl (k p e R s m args below meth c H locs cells slots ls Qf F a1 a2 hR hs hl hn ret)
theorem cd_i2b {x : Int32} (hd : decode (cd_cc M) pc = .ok (.i2b, 1)) (k : cd_W X M kc ks (pc + 1) L (.int x.toInt8.toInt32 :: S) h Q) : cd_W X M kc ks pc L (.int x :: S) h Q := by
  intro p e R s m args below meth c H locs cells slots ls Qf F a1 a2 hR hs hl hn ret
  exact lv_i2b F.2.1 F.2.2.1 hd rfl (k p e R s m args below meth c H locs cells slots ls Qf F a1 a2 hR hs hl hn ret)
theorem cd_i2c {x : Int32} (hd : decode (cd_cc M) pc = .ok (.i2c, 1)) (k : cd_W X M kc ks (pc + 1) L (.int (x.toUInt32 % 65536).toInt32 :: S) h Q) : cd_W X M kc ks pc L (.int x :: S) h Q := by
  intro p e R s m args below meth c H locs cells slots ls Qf F a1 a2 hR hs hl hn ret
  exact lv_i2c F.2.1 F.2.2.1 hd rfl (k p e R s m args below meth c H locs cells slots ls Qf F a1 a2 hR hs hl hn ret)
theorem cd_lcmp {x y : Int64} (hd : decode (cd_cc M) pc = .ok (.lcmp, 1)) (k : cd_W X M kc ks (pc + 1) L (.int (lg_cmp x y) :: S) h Q) : cd_W X M kc ks pc L (.long y :: .long x :: S) h Q := by
  intro p e R s m args below meth c H locs cells slots ls Qf F a1 a2 hR hs hl hn ret
  exact W.lcmp F.2.1 F.2.2.1 hd (k p e R s m args below meth c H locs cells slots ls Qf F a1 a2 hR hs hl hn ret)
theorem cd_null (hd : decode (cd_cc M) pc = .ok (.aconst_null, 1)) (k : cd_W X M kc ks (pc + 1) L (.null :: S) h Q) : cd_W X M kc ks pc L (S) h Q := by
  intro p e R s m args below meth c H locs cells slots ls Qf F a1 a2 hR hs hl hn ret
  exact lv_null F.2.1 F.2.2.1 hd (k p e R s m args below meth c H locs cells slots ls Qf F a1 a2 hR hs hl hn ret)
theorem cd_dup {v : Value} (hd : decode (cd_cc M) pc = .ok (.dup, 1)) (hc : v.category = 1) (k : cd_W X M kc ks (pc + 1) L (v :: v :: S) h Q) : cd_W X M kc ks pc L (v :: S) h Q := by
  intro p e R s m args below meth c H locs cells slots ls Qf F a1 a2 hR hs hl hn ret
  exact lv_dup F.2.1 F.2.2.1 hd ((cd_v_cat X v).trans hc) (k p e R s m args below meth c H locs cells slots ls Qf F a1 a2 hR hs hl hn ret)
theorem cd_dup_x1 {v w : Value} (hd : decode (cd_cc M) pc = .ok (.dup_x1, 1)) (hc : v.category = 1) (hc2 : w.category = 1) (k : cd_W X M kc ks (pc + 1) L (v :: w :: v :: S) h Q) : cd_W X M kc ks pc L (v :: w :: S) h Q := by
  intro p e R s m args below meth c H locs cells slots ls Qf F a1 a2 hR hs hl hn ret
  exact lv_dup_x1 F.2.1 F.2.2.1 hd ((cd_v_cat X v).trans hc) ((cd_v_cat X w).trans hc2) (k p e R s m args below meth c H locs cells slots ls Qf F a1 a2 hR hs hl hn ret)
theorem cd_pop {v : Value} (hd : decode (cd_cc M) pc = .ok (.pop, 1)) (hc : v.category = 1) (k : cd_W X M kc ks (pc + 1) L (S) h Q) : cd_W X M kc ks pc L (v :: S) h Q := by
  intro p e R s m args below meth c H locs cells slots ls Qf F a1 a2 hR hs hl hn ret
  exact lv_pop F.2.1 F.2.2.1 hd ((cd_v_cat X v).trans hc) (k p e R s m args below meth c H locs cells slots ls Qf F a1 a2 hR hs hl hn ret)
theorem cd_if_eq {x : Int32} {off : Int} {tgt : Nat} (hd : decode (cd_cc M) pc = .ok (.ifCond .eq off, 3)) (ht : (pc : Int) + off = (tgt : Int)) (kt : x = 0 → cd_W X M kc ks tgt L S h Q) (kf : ¬ x = 0 → cd_W X M kc ks (pc + 3) L S h Q) : cd_W X M kc ks pc L (.int x :: S) h Q := by
  intro p e R s m args below meth c H locs cells slots ls Qf F a1 a2 hR hs hl hn ret
  exact lv_if_eq F.2.1 F.2.2.1 hd ht (fun hc => kt hc p e R s m args below meth c H locs cells slots ls Qf F a1 a2 hR hs hl hn ret) (fun hc => kf hc p e R s m args below meth c H locs cells slots ls Qf F a1 a2 hR hs hl hn ret)
theorem cd_if_ne {x : Int32} {off : Int} {tgt : Nat} (hd : decode (cd_cc M) pc = .ok (.ifCond .ne off, 3)) (ht : (pc : Int) + off = (tgt : Int)) (kt : ¬ x = 0 → cd_W X M kc ks tgt L S h Q) (kf : x = 0 → cd_W X M kc ks (pc + 3) L S h Q) : cd_W X M kc ks pc L (.int x :: S) h Q := by
  intro p e R s m args below meth c H locs cells slots ls Qf F a1 a2 hR hs hl hn ret
  exact lv_if_ne F.2.1 F.2.2.1 hd ht (fun hc => kt hc p e R s m args below meth c H locs cells slots ls Qf F a1 a2 hR hs hl hn ret) (fun hc => kf hc p e R s m args below meth c H locs cells slots ls Qf F a1 a2 hR hs hl hn ret)
theorem cd_if_lt {x : Int32} {off : Int} {tgt : Nat} (hd : decode (cd_cc M) pc = .ok (.ifCond .lt off, 3)) (ht : (pc : Int) + off = (tgt : Int)) (kt : x < 0 → cd_W X M kc ks tgt L S h Q) (kf : ¬ x < 0 → cd_W X M kc ks (pc + 3) L S h Q) : cd_W X M kc ks pc L (.int x :: S) h Q := by
  intro p e R s m args below meth c H locs cells slots ls Qf F a1 a2 hR hs hl hn ret
  exact lv_if_lt F.2.1 F.2.2.1 hd ht (fun hc => kt hc p e R s m args below meth c H locs cells slots ls Qf F a1 a2 hR hs hl hn ret) (fun hc => kf hc p e R s m args below meth c H locs cells slots ls Qf F a1 a2 hR hs hl hn ret)
theorem cd_if_ge {x : Int32} {off : Int} {tgt : Nat} (hd : decode (cd_cc M) pc = .ok (.ifCond .ge off, 3)) (ht : (pc : Int) + off = (tgt : Int)) (kt : 0 ≤ x → cd_W X M kc ks tgt L S h Q) (kf : ¬ 0 ≤ x → cd_W X M kc ks (pc + 3) L S h Q) : cd_W X M kc ks pc L (.int x :: S) h Q := by
  intro p e R s m args below meth c H locs cells slots ls Qf F a1 a2 hR hs hl hn ret
  exact lv_if_ge F.2.1 F.2.2.1 hd ht (fun hc => kt hc p e R s m args below meth c H locs cells slots ls Qf F a1 a2 hR hs hl hn ret) (fun hc => kf hc p e R s m args below meth c H locs cells slots ls Qf F a1 a2 hR hs hl hn ret)
theorem cd_if_gt {x : Int32} {off : Int} {tgt : Nat} (hd : decode (cd_cc M) pc = .ok (.ifCond .gt off, 3)) (ht : (pc : Int) + off = (tgt : Int)) (kt : 0 < x → cd_W X M kc ks tgt L S h Q) (kf : ¬ 0 < x → cd_W X M kc ks (pc + 3) L S h Q) : cd_W X M kc ks pc L (.int x :: S) h Q := by
  intro p e R s m args below meth c H locs cells slots ls Qf F a1 a2 hR hs hl hn ret
  exact lv_if_gt F.2.1 F.2.2.1 hd ht (fun hc => kt hc p e R s m args below meth c H locs cells slots ls Qf F a1 a2 hR hs hl hn ret) (fun hc => kf hc p e R s m args below meth c H locs cells slots ls Qf F a1 a2 hR hs hl hn ret)
theorem cd_if_le {x : Int32} {off : Int} {tgt : Nat} (hd : decode (cd_cc M) pc = .ok (.ifCond .le off, 3)) (ht : (pc : Int) + off = (tgt : Int)) (kt : x ≤ 0 → cd_W X M kc ks tgt L S h Q) (kf : ¬ x ≤ 0 → cd_W X M kc ks (pc + 3) L S h Q) : cd_W X M kc ks pc L (.int x :: S) h Q := by
  intro p e R s m args below meth c H locs cells slots ls Qf F a1 a2 hR hs hl hn ret
  exact lv_if_le F.2.1 F.2.2.1 hd ht (fun hc => kt hc p e R s m args below meth c H locs cells slots ls Qf F a1 a2 hR hs hl hn ret) (fun hc => kf hc p e R s m args below meth c H locs cells slots ls Qf F a1 a2 hR hs hl hn ret)
theorem cd_icmp_eq {x y : Int32} {off : Int} {tgt : Nat} (hd : decode (cd_cc M) pc = .ok (.if_icmp .eq off, 3)) (ht : (pc : Int) + off = (tgt : Int)) (kt : x = y → cd_W X M kc ks tgt L S h Q) (kf : ¬ x = y → cd_W X M kc ks (pc + 3) L S h Q) : cd_W X M kc ks pc L (.int y :: .int x :: S) h Q := by
  intro p e R s m args below meth c H locs cells slots ls Qf F a1 a2 hR hs hl hn ret
  exact lv_icmp_eq F.2.1 F.2.2.1 hd ht (fun hc => kt hc p e R s m args below meth c H locs cells slots ls Qf F a1 a2 hR hs hl hn ret) (fun hc => kf hc p e R s m args below meth c H locs cells slots ls Qf F a1 a2 hR hs hl hn ret)
theorem cd_icmp_ne {x y : Int32} {off : Int} {tgt : Nat} (hd : decode (cd_cc M) pc = .ok (.if_icmp .ne off, 3)) (ht : (pc : Int) + off = (tgt : Int)) (kt : ¬ x = y → cd_W X M kc ks tgt L S h Q) (kf : x = y → cd_W X M kc ks (pc + 3) L S h Q) : cd_W X M kc ks pc L (.int y :: .int x :: S) h Q := by
  intro p e R s m args below meth c H locs cells slots ls Qf F a1 a2 hR hs hl hn ret
  exact lv_icmp_ne F.2.1 F.2.2.1 hd ht (fun hc => kt hc p e R s m args below meth c H locs cells slots ls Qf F a1 a2 hR hs hl hn ret) (fun hc => kf hc p e R s m args below meth c H locs cells slots ls Qf F a1 a2 hR hs hl hn ret)
theorem cd_icmp_lt {x y : Int32} {off : Int} {tgt : Nat} (hd : decode (cd_cc M) pc = .ok (.if_icmp .lt off, 3)) (ht : (pc : Int) + off = (tgt : Int)) (kt : x < y → cd_W X M kc ks tgt L S h Q) (kf : ¬ x < y → cd_W X M kc ks (pc + 3) L S h Q) : cd_W X M kc ks pc L (.int y :: .int x :: S) h Q := by
  intro p e R s m args below meth c H locs cells slots ls Qf F a1 a2 hR hs hl hn ret
  exact lv_icmp_lt F.2.1 F.2.2.1 hd ht (fun hc => kt hc p e R s m args below meth c H locs cells slots ls Qf F a1 a2 hR hs hl hn ret) (fun hc => kf hc p e R s m args below meth c H locs cells slots ls Qf F a1 a2 hR hs hl hn ret)
theorem cd_icmp_ge {x y : Int32} {off : Int} {tgt : Nat} (hd : decode (cd_cc M) pc = .ok (.if_icmp .ge off, 3)) (ht : (pc : Int) + off = (tgt : Int)) (kt : y ≤ x → cd_W X M kc ks tgt L S h Q) (kf : ¬ y ≤ x → cd_W X M kc ks (pc + 3) L S h Q) : cd_W X M kc ks pc L (.int y :: .int x :: S) h Q := by
  intro p e R s m args below meth c H locs cells slots ls Qf F a1 a2 hR hs hl hn ret
  exact lv_icmp_ge F.2.1 F.2.2.1 hd ht (fun hc => kt hc p e R s m args below meth c H locs cells slots ls Qf F a1 a2 hR hs hl hn ret) (fun hc => kf hc p e R s m args below meth c H locs cells slots ls Qf F a1 a2 hR hs hl hn ret)
theorem cd_icmp_gt {x y : Int32} {off : Int} {tgt : Nat} (hd : decode (cd_cc M) pc = .ok (.if_icmp .gt off, 3)) (ht : (pc : Int) + off = (tgt : Int)) (kt : y < x → cd_W X M kc ks tgt L S h Q) (kf : ¬ y < x → cd_W X M kc ks (pc + 3) L S h Q) : cd_W X M kc ks pc L (.int y :: .int x :: S) h Q := by
  intro p e R s m args below meth c H locs cells slots ls Qf F a1 a2 hR hs hl hn ret
  exact lv_icmp_gt F.2.1 F.2.2.1 hd ht (fun hc => kt hc p e R s m args below meth c H locs cells slots ls Qf F a1 a2 hR hs hl hn ret) (fun hc => kf hc p e R s m args below meth c H locs cells slots ls Qf F a1 a2 hR hs hl hn ret)
theorem cd_icmp_le {x y : Int32} {off : Int} {tgt : Nat} (hd : decode (cd_cc M) pc = .ok (.if_icmp .le off, 3)) (ht : (pc : Int) + off = (tgt : Int)) (kt : x ≤ y → cd_W X M kc ks tgt L S h Q) (kf : ¬ x ≤ y → cd_W X M kc ks (pc + 3) L S h Q) : cd_W X M kc ks pc L (.int y :: .int x :: S) h Q := by
  intro p e R s m args below meth c H locs cells slots ls Qf F a1 a2 hR hs hl hn ret
  exact lv_icmp_le F.2.1 F.2.2.1 hd ht (fun hc => kt hc p e R s m args below meth c H locs cells slots ls Qf F a1 a2 hR hs hl hn ret) (fun hc => kf hc p e R s m args below meth c H locs cells slots ls Qf F a1 a2 hR hs hl hn ret)
theorem cd_goto {off : Int} {tgt : Nat} (hd : decode (cd_cc M) pc = .ok (.goto off, 3)) (ht : (pc : Int) + off = (tgt : Int)) (k : cd_W X M kc ks tgt L S h Q) : cd_W X M kc ks pc L S h Q := by
  intro p e R s m args below meth c H locs cells slots ls Qf F a1 a2 hR hs hl hn ret
  exact lv_goto F.2.1 F.2.2.1 hd ht (k p e R s m args below meth c H locs cells slots ls Qf F a1 a2 hR hs hl hn ret)
theorem cd_ifnull {r : Option Nat} {off : Int} {tgt : Nat} (hd : decode (cd_cc M) pc = .ok (.ifnull off, 3)) (ht : (pc : Int) + off = (tgt : Int)) (kt : r = none → cd_W X M kc ks tgt L S h Q) (kf : ∀ a, r = some a → cd_W X M kc ks (pc + 3) L S h Q) : cd_W X M kc ks pc L (va_rf r :: S) h Q := by
  intro p e R s m args below meth c H locs cells slots ls Qf F a1 a2 hR hs hl hn ret
  cases r with
  | none => exact lv_ifnullN F.2.1 F.2.2.1 hd ht (kt rfl p e R s m args below meth c H locs cells slots ls Qf F a1 a2 hR hs hl hn ret)
  | some a => exact lv_ifnull (x := cd_al X a) F.2.1 F.2.2.1 hd (kf a rfl p e R s m args below meth c H locs cells slots ls Qf F a1 a2 hR hs hl hn ret)
theorem cd_ifnonnull {r : Option Nat} {off : Int} {tgt : Nat} (hd : decode (cd_cc M) pc = .ok (.ifnonnull off, 3)) (ht : (pc : Int) + off = (tgt : Int)) (kt : ∀ a, r = some a → cd_W X M kc ks tgt L S h Q) (kf : r = none → cd_W X M kc ks (pc + 3) L S h Q) : cd_W X M kc ks pc L (va_rf r :: S) h Q := by
  intro p e R s m args below meth c H locs cells slots ls Qf F a1 a2 hR hs hl hn ret
  cases r with
  | none => exact lv_ifnonnullN F.2.1 F.2.2.1 hd (kf rfl p e R s m args below meth c H locs cells slots ls Qf F a1 a2 hR hs hl hn ret)
  | some a => exact lv_ifnonnull (x := cd_al X a) F.2.1 F.2.2.1 hd ht (kt a rfl p e R s m args below meth c H locs cells slots ls Qf F a1 a2 hR hs hl hn ret)
def cd_apart (x y : Option Nat) : Prop := ∀ a b, x = some a → y = some b → a = b ∨ 64 ≤ a ∨ 64 ≤ b
theorem cd_apart_eq (ok : cd_ok X) {x y : Option Nat} (hp : cd_apart x y) : x.map (cd_al X) = y.map (cd_al X) ↔ x = y := by
  constructor
  · intro e
    cases x with
    | none => cases y with
      | none => rfl
      | some b => simp at e
    | some a => cases y with
      | none => simp at e
      | some b =>
        simp only [Option.map_some, Option.some.injEq] at e
        by_cases hab : a = b
        · rw [hab]
        · exfalso
          rcases hp a b rfl rfl with h1 | h1 | h1
          · exact hab h1
          · exact cd_al_ne ok h1 (fun z => hab z.symm) e.symm
          · exact cd_al_ne ok h1 hab e
  · intro e; rw [e]
theorem cd_acmp_eq {rx ry : Option Nat} {off : Int} {tgt : Nat} (hd : decode (cd_cc M) pc = .ok (.if_acmp .eq off, 3)) (ht : (pc : Int) + off = (tgt : Int)) (hp : cd_apart rx ry) (kt : rx = ry → cd_W X M kc ks tgt L S h Q) (kf : ¬ rx = ry → cd_W X M kc ks (pc + 3) L S h Q) : cd_W X M kc ks pc L (va_rf ry :: va_rf rx :: S) h Q := by
  intro p e R s m args below meth c H locs cells slots ls Qf F a1 a2 hR hs hl hn ret
  have e1 : List.map (cd_v X) (va_rf ry :: va_rf rx :: S) = va_rf (ry.map (cd_al X)) :: va_rf (rx.map (cd_al X)) :: S.map (cd_v X) := by rw [List.map_cons, List.map_cons, cd_v_rf, cd_v_rf]
  rw [e1]
  have e2 := cd_apart_eq F.1 hp
  exact lv_acmp_eq F.2.1 F.2.2.1 hd ht (fun hc => kt (e2.mp hc) p e R s m args below meth c H locs cells slots ls Qf F a1 a2 hR hs hl hn ret) (fun hc => kf (fun z => hc (e2.mpr z)) p e R s m args below meth c H locs cells slots ls Qf F a1 a2 hR hs hl hn ret)
theorem cd_acmp_ne {rx ry : Option Nat} {off : Int} {tgt : Nat} (hd : decode (cd_cc M) pc = .ok (.if_acmp .ne off, 3)) (ht : (pc : Int) + off = (tgt : Int)) (hp : cd_apart rx ry) (kt : ¬ rx = ry → cd_W X M kc ks tgt L S h Q) (kf : rx = ry → cd_W X M kc ks (pc + 3) L S h Q) : cd_W X M kc ks pc L (va_rf ry :: va_rf rx :: S) h Q := by
  intro p e R s m args below meth c H locs cells slots ls Qf F a1 a2 hR hs hl hn ret
  have e1 : List.map (cd_v X) (va_rf ry :: va_rf rx :: S) = va_rf (ry.map (cd_al X)) :: va_rf (rx.map (cd_al X)) :: S.map (cd_v X) := by rw [List.map_cons, List.map_cons, cd_v_rf, cd_v_rf]
  rw [e1]
  have e2 := cd_apart_eq F.1 hp
  exact lv_acmp_ne F.2.1 F.2.2.1 hd ht (fun hc => kt (fun z => hc (e2.mpr z)) p e R s m args below meth c H locs cells slots ls Qf F a1 a2 hR hs hl hn ret) (fun hc => kf (e2.mp hc) p e R s m args below meth c H locs cells slots ls Qf F a1 a2 hR hs hl hn ret)
theorem cd_iret {x : Int32} {ty : FieldType} (hd : decode (cd_cc M) pc = .ok (.ireturn, 1)) (ht : cd_rt M = some ty) (hv : narrow ty (.int x) = .int x) (hq : Q (some (.int x)) h) : cd_W X M kc ks pc L [.int x] h Q := by
  intro p e R s m args below meth c H locs cells slots ls Qf F a1 a2 hR hs hl hn ret
  exact W.widen (by omega) (by omega) (ret pc ls H locs (some (.int x)) h hq hR hs ⟨hd, ty, ht, hv⟩)
theorem cd_lret {x : Int64} (hd : decode (cd_cc M) pc = .ok (.lreturn, 1)) (ht : cd_rt M = some .long) (hq : Q (some (.long x)) h) : cd_W X M kc ks pc L [.long x] h Q := by
  intro p e R s m args below meth c H locs cells slots ls Qf F a1 a2 hR hs hl hn ret
  exact W.widen (by omega) (by omega) (ret pc ls H locs (some (.long x)) h hq hR hs ⟨hd, ht⟩)
theorem cd_vret (hd : decode (cd_cc M) pc = .ok (.return_, 1)) (ht : cd_rt M = none) (hq : Q none h) : cd_W X M kc ks pc L [] h Q := by
  intro p e R s m args below meth c H locs cells slots ls Qf F a1 a2 hR hs hl hn ret
  exact W.widen (by omega) (by omega) (ret pc ls H locs none h hq hR hs ⟨hd, ht⟩)
theorem cd_aret {v : Value} {ty : FieldType} (hd : decode (cd_cc M) pc = .ok (.areturn, 1)) (ht : cd_rt M = some ty) (hty : cd_isR ty) (hr : cd_isr v) (hq : Q (some v) h) : cd_W X M kc ks pc L [v] h Q := by
  intro p e R s m args below meth c H locs cells slots ls Qf F a1 a2 hR hs hl hn ret
  rcases hr with rfl | ⟨a, rfl⟩
  · exact W.widen (by omega) (by omega) (ret pc ls H locs (some .null) h hq hR hs ⟨hd, ty, ht, hty⟩)
  · exact W.widen (by omega) (by omega) (ret pc ls H locs (some (.ref a)) h hq hR hs ⟨hd, ty, ht, hty⟩)
end CDR
