theorem cd_swN {x : Int32} (H : ∀ c, c < 19 → ¬ x = nI c) : x.toInt < 0 ∨ 18 < x.toInt := by
  by_cases t : x < 0
  · exact Or.inl (Int32.lt_iff_toInt_lt.mp t)
  · obtain ⟨k, hk, rfl⟩ := nI_of t
    have h19 : 19 ≤ k := Nat.not_lt.mp (fun z => H k z rfl)
    have : (18 : Int32) < nI k := by
      rw [show (18 : Int32) = nI 18 by decide, nI_ltI (by decide) hk]
      omega
    exact Or.inr (Int32.lt_iff_toInt_lt.mp this)
theorem cd_sw {x : Int32} (h0 : ¬ x = 0) (h1 : ¬ x = 1) (h2 : ¬ x = 2) (h3 : ¬ x = 3) (h4 : ¬ x = 4) (h5 : ¬ x = 5) (h6 : ¬ x = 6) (h7 : ¬ x = 7) (h8 : ¬ x = 8) (h9 : ¬ x = 9) (h10 : ¬ x = 10) (h11 : ¬ x = 11) (h12 : ¬ x = 12) (h13 : ¬ x = 13) (h14 : ¬ x = 14) (h15 : ¬ x = 15) (h16 : ¬ x = 16) (h17 : ¬ x = 17) (h18 : ¬ x = 18) : x.toInt < 0 ∨ 18 < x.toInt := by
  refine cd_swN (fun c hc => ?_)
  have : c = 0 ∨ c = 1 ∨ c = 2 ∨ c = 3 ∨ c = 4 ∨ c = 5 ∨ c = 6 ∨ c = 7 ∨ c = 8 ∨ c = 9 ∨ c = 10 ∨ c = 11 ∨ c = 12 ∨ c = 13 ∨ c = 14 ∨ c = 15 ∨ c = 16 ∨ c = 17 ∨ c = 18 := by omega
  rcases this with rfl | rfl | rfl | rfl | rfl | rfl | rfl | rfl | rfl | rfl | rfl | rfl | rfl | rfl | rfl | rfl | rfl | rfl | rfl <;> assumption
