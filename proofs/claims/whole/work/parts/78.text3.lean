/-! texts are read: a draft, the class -/
theorem dgt9 {b : Int32} (h : ¬ dgt 1 9 b) : b - 48 < 1 ∨ ¬ b - 48 ≤ 9 := by
  rcases ixc (b - 48) (n := 10) (by omega) with q | ⟨q, q'⟩ | ⟨k, hk, he⟩
  · refine Or.inl ?_
    rw [i32_lt] at q ⊢
    have h0 : (0 : Int32).toInt = 0 := rfl
    have h1 : (1 : Int32).toInt = 1 := rfl
    omega
  · refine Or.inr ?_
    rw [i32_le] at q' ⊢
    have h9 : (9 : Int32).toInt = 9 := rfl
    rw [nI_toInt (by omega)] at q'
    omega
  · by_cases k0 : k = 0
    · refine Or.inl ?_
      rw [he, k0]
      decide
    · refine absurd ⟨k, by omega, by omega, ?_⟩ h
      rw [← nI_add, ← he]
      show b = (48 : Int32) + (b - 48)
      grind
theorem draft_X {F k n x np nd : Nat} (hF : FB ≤ F) {M : Mem} {kn : Nat → Int32} {dr : Nat → Nat → Int32} {by' : Nat → Int32} (hx : VX M 38 np nd kn dr) (ht : TX M k n by') (hxn : x < n) (hnp2 : 2 ≤ np) (hnp6 : np ≤ 6) (hnd : nd < 12) : (∀ f, DrF by' x n np f → R_readDraft F M k (nI x) 38 = some (nI f, M)) ∧ ∀ a b c e, DrM by' x n np a b c e → R_readDraft F M k (nI x) 38 = (V_addDraft F M 38 (nI a) (nI b) (nI c) (nI e)).bind fun c15 => some (-9, c15) := by
  have hn := ht.1
  have c2 : (nI np < (2 : Int32)) = False := by rw [show (2 : Int32) = nI 2 from rfl, nI_ltI (by omega) (by omega)]; simp; omega
  have c12 : (nI nd < (12 : Int32)) = True := by rw [show (12 : Int32) = nI 12 from rfl, nI_ltI (by omega) (by omega)]; simp; omega
  have dn : (-1000 : Int32) - 48 < 0 := by decide
  have hs := fun j (hj : j ≤ 4) => sign_X (F := F) (x := x + j) ht (by omega)
  have go : R_readDraft F M k (nI x) 38 = (R_signAt F M k (nI (x + 1))).bind fun c3 => (V_hasPerson F M 38 (c3 - 48)).bind fun c4 => (if c4 = 0 then some (nI (x + 1), M) else (R_signAt F M k (nI (x + 2))).bind fun c6 => (V_hasTwo F M 38 (c3 - 48) (c6 - 48)).bind fun c7 => (if c7 = 0 then some (nI (x + 2), M) else (R_signAt F M k (nI (x + 3))).bind fun c9 => (R_numberOf F M c9 80).bind fun c10 => (if 0 ≤ c10 then (R_signAt F M k (nI (x + 4))).bind fun c12 => (if (c12 - 48) < 1 then some (nI (x + 4), M) else (if (c12 - 48) ≤ 9 then (V_addDraft F M 38 (c3 - 48) (c6 - 48) c10 (c12 - 48)).bind fun c15 => some ((-9), c15) else some (nI (x + 4), M))) else some (nI (x + 3), M)))) := by
    unfold R_readDraft
    simp only [hx.2.2.1, hx.2.2.2.1, c2, c12, ↓reduceIte, nI_1, p2, p3, p4]
  have hin : ∀ a, a < np → (nI a < (0 : Int32) ∨ nI np ≤ nI a) = False := fun a ha => by
    rw [nI_leI (by omega) (by omega)]
    simp [nI_nlt0 (n := a) (by omega)]
    omega
  have one : ∀ a, a < np → x + 1 < n → by' (x + 1) = nI (48 + a) → R_readDraft F M k (nI x) 38 = (R_signAt F M k (nI (x + 2))).bind fun c6 => (V_hasTwo F M 38 (nI a) (c6 - 48)).bind fun c7 => (if c7 = 0 then some (nI (x + 2), M) else (R_signAt F M k (nI (x + 3))).bind fun c9 => (R_numberOf F M c9 80).bind fun c10 => (if 0 ≤ c10 then (R_signAt F M k (nI (x + 4))).bind fun c12 => (if (c12 - 48) < 1 then some (nI (x + 4), M) else (if (c12 - 48) ≤ 9 then (V_addDraft F M 38 (nI a) (c6 - 48) c10 (c12 - 48)).bind fun c15 => some ((-9), c15) else some (nI (x + 4), M))) else some (nI (x + 3), M))) := by
    intro a ha h1 hb
    rw [go, hs 1 (by omega), if_pos h1, ob_some, hb, sub48, hasPerson_eq hx, ob_some]
    simp only [hin a ha, ↓reduceIte, i10]
  have two : ∀ a b, a < np → b < np → a ≠ b → x + 2 < n → by' (x + 1) = nI (48 + a) → by' (x + 2) = nI (48 + b) → R_readDraft F M k (nI x) 38 = (R_signAt F M k (nI (x + 3))).bind fun c9 => (R_numberOf F M c9 80).bind fun c10 => (if 0 ≤ c10 then (R_signAt F M k (nI (x + 4))).bind fun c12 => (if (c12 - 48) < 1 then some (nI (x + 4), M) else (if (c12 - 48) ≤ 9 then (V_addDraft F M 38 (nI a) (nI b) c10 (c12 - 48)).bind fun c15 => some ((-9), c15) else some (nI (x + 4), M))) else some (nI (x + 3), M)) := by
    intro a b ha hb hab h1 h2 h3
    have e : (nI a = nI b) = False := by rw [nI_eq (by omega) (by omega)]; simp [hab]
    rw [one a ha (by omega) h2, hs 2 (by omega), if_pos h1, ob_some, h3, sub48, hasTwo_eq hx, ob_some]
    simp only [hin a ha, hin b hb, e, or_self, ↓reduceIte, i10]
  have three : ∀ a b c, a < np → b < np → a ≠ b → c < 3 → x + 3 < n → by' (x + 1) = nI (48 + a) → by' (x + 2) = nI (48 + b) → (by' (x + 3) = if c = 0 then 104 else if c = 1 then 99 else 116) → R_readDraft F M k (nI x) 38 = (R_signAt F M k (nI (x + 4))).bind fun c12 => (if (c12 - 48) < 1 then some (nI (x + 4), M) else (if (c12 - 48) ≤ 9 then (V_addDraft F M 38 (nI a) (nI b) (nI c) (c12 - 48)).bind fun c15 => some ((-9), c15) else some (nI (x + 4), M))) := by
    intro a b c ha hb hab hc h1 h2 h3 h4
    rw [two a b ha hb hab (by omega) h2 h3, hs 3 (by omega), if_pos h1, ob_some, sort_X hF, ob_some, h4]
    rcases (show c = 0 ∨ c = 1 ∨ c = 2 by omega) with rfl | rfl | rfl
    · rfl
    · rfl
    · rfl
  constructor
  · rintro f (⟨rfl, h1⟩ | ⟨rfl, a, ha, h1, h2, h3⟩ | ⟨rfl, a, b, ha, hb, hab, h1, h2, h3, h4⟩ | ⟨rfl, a, b, c, ha, hb, hab, hc, h1, h2, h3, h4, h5⟩)
    · have : ((if x + 1 < n then by' (x + 1) else -1000) - 48 < 0 ∨ nI np ≤ (if x + 1 < n then by' (x + 1) else -1000) - 48) := by
        rcases h1 with h1 | h1
        · rw [if_neg (by omega)]
          exact Or.inl dn
        · by_cases q : x + 1 < n
          · rw [if_pos q]
            exact (dgt_X (by omega) hnp6).mpr h1
          · rw [if_neg q]
            exact Or.inl dn
      rw [go, hs 1 (by omega), ob_some, hasPerson_eq hx, ob_some, if_pos (by rw [if_pos this])]
    · have : (nI a < (0 : Int32) ∨ nI np ≤ nI a) ∨ ((if x + 2 < n then by' (x + 2) else -1000) - 48 < 0 ∨ nI np ≤ (if x + 2 < n then by' (x + 2) else -1000) - 48) ∨ nI a = (if x + 2 < n then by' (x + 2) else -1000) - 48 := by
        by_cases q : x + 2 < n
        · rw [if_pos q]
          rcases h3 with h3 | h3 | h3
          · omega
          · exact Or.inr (Or.inl ((dgt_X (by omega) hnp6).mpr h3))
          · exact Or.inr (Or.inr h3.symm)
        · rw [if_neg q]
          exact Or.inr (Or.inl (Or.inl dn))
      rw [one a ha h1 h2, hs 2 (by omega), ob_some, hasTwo_eq hx, ob_some, if_pos (by rw [if_pos this])]
    · rw [two a b ha hb hab h1 h2 h3, hs 3 (by omega), ob_some, sort_X hF, ob_some]
      have m1 : ((0 : Int32) ≤ -1) = False := by decide
      by_cases q : x + 3 < n
      · rcases h4 with h4 | ⟨g1, g2, g3⟩
        · omega
        · simp only [q, g1, g2, g3, m1, ↓reduceIte]
      · have e1 : ((-1000 : Int32) = 104) = False := by decide
        have e2 : ((-1000 : Int32) = 99) = False := by decide
        have e3 : ((-1000 : Int32) = 116) = False := by decide
        simp only [q, e1, e2, e3, m1, ↓reduceIte]
    · rw [three a b c ha hb hab hc h1 h2 h3 h4, hs 4 (by omega), ob_some]
      by_cases q : x + 4 < n
      · rcases h5 with h5 | h5
        · omega
        · rw [if_pos q]
          rcases dgt9 h5 with g | g
          · rw [if_pos g]
          · by_cases g' : by' (x + 4) - 48 < 1
            · rw [if_pos g']
            · rw [if_neg g', if_neg g]
      · rw [if_neg q, if_pos (by decide)]
  · rintro a b c e ⟨h1, ha, hb, hab, hc, he1, he9, h2, h3, h4, h5⟩
    have g1 : ¬ nI e < (1 : Int32) := by rw [show (1 : Int32) = nI 1 from rfl, nI_ltI (by omega) (by omega)]; omega
    have g2 : nI e ≤ (9 : Int32) := by rw [show (9 : Int32) = nI 9 from rfl, nI_leI (by omega) (by omega)]; omega
    rw [three a b c ha hb hab hc (by omega) h2 h3 h4, hs 4 (by omega), if_pos (by omega), ob_some, h5, sub48, if_neg g1, if_pos g2]
