/-! drafts changed on both sides; endorse, week -/
def sd (dr : Nat → Nat → Int32) (z j : Nat) (x : Int32) : Nat → Nat → Int32 := fun i q => if i = z ∧ q = j then x else dr i q
theorem sd_same {dr : Nat → Nat → Int32} {z j : Nat} {x : Int32} : sd dr z j x z j = x := by simp [sd]
theorem sd_ne {dr : Nat → Nat → Int32} {z j i q : Nat} {x : Int32} (h : i ≠ z ∨ q ≠ j) : sd dr z j x i q = dr i q := by
  unfold sd
  rw [if_neg (by omega)]
theorem sd_row {dr : Nat → Nat → Int32} {z j i : Nat} {x : Int32} (h : i ≠ z) : sd dr z j x i = dr i := by
  funext q
  exact sd_ne (Or.inl h)
theorem VX_set {M : Mem} {v np nd : Nat} {kn : Nat → Int32} {dr : Nat → Nat → Int32} (h : VX M v np nd kn dr) (z j : Nat) (x : Int32) : VX (up M (v + 2 + 1 + z) j x) v np nd kn (sd dr z j x) := by
  obtain ⟨h1, h2, h3, h4, h5, h6, h7, h8⟩ := h
  refine ⟨h1, h2, by rw [up_cell (by omega), h3], by rw [up_cell (by omega), h4], h5, h6, fun p hp => by rw [up_cell (by omega), h7 p hp], fun i hi q hq => ?_⟩
  unfold up sd
  by_cases e : i = z ∧ q = j
  · rw [if_pos ⟨by omega, e.2⟩, if_pos e]
  · rw [if_neg (by omega), if_neg e]; exact h8 i hi q hq
theorem VM_set {M : Mem} {np nd : Nat} {kn : Nat → Int32} {dr : Nat → Nat → Int32} (h : VM M np nd kn dr) (z : Nat) {j : Nat} (hj : j < 6) (x : Int32) : VM (up M 101 (2 + 6 * z + j) x) np nd kn (sd dr z j x) := by
  obtain ⟨h3, h4, h5, h6, h7, h8⟩ := h
  refine ⟨by rw [up_cell (by omega), h3], by rw [up_ne (by omega), h4], h5, h6, fun p hp => by rw [up_cell (by omega), h7 p hp], fun i hi q hq => ?_⟩
  unfold up sd
  by_cases e : i = z ∧ q = j
  · rw [if_pos ⟨rfl, by omega⟩, if_pos e]
  · rw [if_neg (by omega), if_neg e]; exact h8 i hi q hq
theorem RelN_views {M1 M2 : Mem} {np nd D : Nat} {kn : Nat → Int32} {dr : Nat → Nat → Int32} (hx : VX M1 23 np nd kn dr) (hm : VM M2 np nd kn dr) (hg : ∀ i, i < nd → GoodD np D (dr i)) : RelN M1 M2 np nd D := by
  have e : ∀ i, i < nd → ∀ j, j < 6 → drM M2 1 i j = dr i j := fun i hi j hj => by
    unfold drM
    rw [← hm.2.2.2.2.2 i hi j hj, show 1 + 1 + 6 * i + j = 2 + 6 * i + j by omega]
  refine ⟨hx.2.2.2.2.2.1, hx.2.2.2.1, hm.2.1, fun i hi => ⟨GoodD_congr (hg i hi) (e i hi), fun j hj => ?_⟩⟩
  rw [e i hi j hj]
  exact hx.2.2.2.2.2.2.2 i hi j hj
theorem RelC_views {M1 M2 P1 P2 : Mem} {np nd nd' D : Nat} {kn : Nat → Int32} {dr : Nat → Nat → Int32} (h : RelC M1 M2 np nd D) (f1 : ∀ k, k = 24 ∨ (53 ≤ k ∧ k ≤ 65) → P1 k = M1 k) (g1 : ∀ a, a ≠ 101 → P2 a = M2 a) (g2 : ∀ b, b = 0 ∨ 74 ≤ b → P2 101 b = M2 101 b) (hx : VX P1 23 np nd' kn dr) (hm : VM P2 np nd' kn dr) (hg : ∀ i, i < nd' → GoodD np D (dr i)) : RelC P1 P2 np nd' D :=
  RelC_now h f1 (by rw [hx.2.2.1, h.1.2.2.1]) (by rw [g1 _ (by omega)]) (g1 _ (by omega)) g2 (RelN_views hx hm hg)
theorem Rel_of_C {M1 M2 P1 P2 : Mem} {np nd D : Nat} (hR : Rel M1 M2) (f1 : ∀ a, a < 23 ∨ 65 < a → P1 a = M1 a) (g1 : ∀ a, a ≠ 101 → P2 a = M2 a) (hc : RelC P1 P2 np nd D) : Rel P1 P2 := by
  obtain ⟨ra, rr, rt, -⟩ := hR
  refine ⟨?_, RelR_of rr (fun a h1 h2 => f1 a (by omega)) (g1 _ (by omega)) (g1 _ (by omega)), RelT_of rt (fun a h1 h2 => f1 a (by omega)) (g1 _ (by omega)) (g1 _ (by omega)), np, nd, D, hc⟩
  unfold RelA
  rw [f1 0 (by omega), f1 76 (by omega), g1 100 (by omega), g1 107 (by omega)]
  exact ra
theorem full_X {F : Nat} {M : Mem} {D : Nat} (hD : D ≤ 40) (h : M 53 0 = nI D) : H_isFullFor F M 53 1 = some (if D = 40 then 1 else 0) := by
  unfold H_isFullFor
  rw [h, nI_1, lit 40]
  have : (nI (D + 1) ≤ nI 40) = (D + 1 ≤ 40) := by rw [nI_leI (by omega) (by omega)]
  simp only [this]
  by_cases c : D = 40
  · rw [if_neg (by omega), if_pos c]
  · rw [if_pos (by omega), if_neg c]
theorem full_M {F : Nat} {M : Mem} {D : Nat} (hD : D ≤ 40) (h : M 101 0 = nI D) : M_isFull F M = some (if D = 40 then 1 else 0) := by
  unfold M_isFull
  rw [h, lit 40]
  have : (nI D = nI 40) = (D = 40) := by rw [nI_eq (by omega) (by omega)]
  simp only [this]
  split <;> rfl
theorem GV_dr {np nd w : Nat} {kn : Nat → Int32} {dr : Nat → Nat → Int32} (h : GV np nd w kn dr) {i : Nat} (hi : i < nd) : GoodD np w (dr i) := h.2.2.2.1 i hi
theorem op_endorse {F : Nat} (hF : FB ≤ F) (M1 M2 : Mem) (a0 : Int32) (a1 : Int32) (hR : Rel M1 M2) : ∃ (r : Int32) (M1' : Mem) (M2' : Mem), K_endorse F M1 a0 a1 = some (r, M1') ∧ M_endorse F M2 a0 a1 = some (r, M2') ∧ Rel M1' M2' := by
  obtain ⟨np, nd, D, hc⟩ := hR.2.2.2
  obtain ⟨kn, dr, hx, hm, hg, ekn, edr⟩ := hc.views
  have hnp := hg.2.1
  have hnd := hg.2.2.1
  have hl : ln 101 = 11976 := by decide
  unfold K_endorse M_endorse
  rw [hasDraft_eq hx, isDraft_eq hm]
  rcases one_cases a0 (n := nd) (by omega) with h | ⟨h, z, hz, rfl⟩
  · simp only [h, Option.bind_some, ↓reduceIte]
    exact ⟨_, _, _, rfl, rfl, hR⟩
  · simp only [h, Option.bind_some, ↓reduceIte, i10]
    rw [hasPerson_eq hx, isPerson_eq hm]
    rcases one_cases a1 (n := np) (by omega) with h' | ⟨h', q, hq, rfl⟩
    · simp only [h', Option.bind_some, ↓reduceIte]
      exact ⟨_, _, _, rfl, rfl, hR⟩
    · have e := fun j hj => hx.2.2.2.2.2.2.2 z hz j hj
      obtain ⟨a, b, c, k, v, t, g0, g1, g2, g3, g4, g5, ha, hb, hab, hcc, hk, hv, ht⟩ := hg.2.2.2.1 z hz
      have e0 : M1 (25 + 1 + z) 0 = dr z 0 := e 0 (by omega)
      have e1 : M1 (25 + 1 + z) 1 = dr z 1 := e 1 (by omega)
      have e3 : M1 (25 + 1 + z) 3 = dr z 3 := e 3 (by omega)
      have e5 : M1 (25 + 1 + z) 5 = dr z 5 := e 5 (by omega)
      have c5 : (2 ≤ dr z 5) = (dr z 5 = 2) := by
        rw [g5, lit 2, nI_leI (by omega) (by omega), nI_eq (by omega) (by omega)]
        simp only [eq_iff_iff]
        omega
      have m0 : M_of F M2 (nI z) 0 = some (dr z 0) := M_of_eq hm hz (j := 0) (by omega)
      have m1 : M_of F M2 (nI z) 1 = some (dr z 1) := M_of_eq hm hz (j := 1) (by omega)
      have m5 : M_of F M2 (nI z) 5 = some (dr z 5) := M_of_eq hm hz (j := 5) (by omega)
      simp only [h', Option.bind_some, ↓reduceIte, i10, idx_nI (k := z) (n := 12) (by omega) (by omega), e0, e1, e5, m0, m1, m5, D_isOpen_eq, e3, M_isOpen_eq hm hz, i01, c5, full_X hc.2.2.1.1 hc.2.2.1.2.1, full_M hc.2.2.1.1 hc.2.2.1.2.2.1, i10c]
      by_cases k1 : dr z 0 = nI q
      · simp only [k1, ↓reduceIte]; exact ⟨_, _, _, rfl, rfl, hR⟩
      by_cases k2 : dr z 3 ≤ 0
      · simp only [k1, k2, ↓reduceIte]; exact ⟨_, _, _, rfl, rfl, hR⟩
      by_cases k3 : dr z 5 = 2
      · simp only [k1, k2, k3, ↓reduceIte]; exact ⟨_, _, _, rfl, rfl, hR⟩
      by_cases k4 : dr z 1 = nI q
      · simp only [k1, k2, k3, k4, ↓reduceIte]; exact ⟨_, _, _, rfl, rfl, hR⟩
      by_cases k5 : D = 40
      · simp only [k1, k2, k3, k4, k5, ↓reduceIte, not_true_eq_false]; exact ⟨_, _, _, rfl, rfl, hR⟩
      have hD := hc.2.2.1.1
      obtain ⟨N1, N2, b1, b2, b3, b4, b5, b6, b7⟩ := begin_rel hF hc (by omega)
      obtain ⟨kn', dr', hx', hm', hg', ekn', edr'⟩ := b3.views
      have ed : ∀ j, j < 6 → dr' z j = dr z j := fun j hj => by
        rw [edr', edr]
        unfold drM
        have := b7 (1 + 6 * z + j) (by omega)
        rw [show 1 + 1 + 6 * z + j = 1 + (1 + 6 * z + j) by omega, this]
      have x1 := VX_set hx' z 1 (nI q)
      have x2 := VX_set x1 z 5 (dr z 5 + 1)
      have y1 := VM_set hm' z (j := 1) (by omega) (nI q)
      have y2 := VM_set y1 z (j := 5) (by omega) (dr z 5 + 1)
      have q5 : up N1 (25 + 1 + z) 1 (nI q) (25 + 1 + z) 5 = dr z 5 := by
        have := x1.2.2.2.2.2.2.2 z hz 5 (by omega)
        rw [sd_ne (by omega), ed 5 (by omega)] at this
        exact this
      have q6 : up (up N1 (25 + 1 + z) 1 (nI q)) (25 + 1 + z) 5 (dr z 5 + 1) (25 + 1 + z) 5 = dr z 5 + 1 := up_same _ _ _ _
      have w1 : awr N2 101 (2 + 6 * nI z + 1) (nI q) = some (up N2 101 (2 + 6 * z + 1) (nI q)) := by
        rw [show (1 : Int32) = nI 1 from rfl, ix6, awr_nI (by rw [hl]; omega)]
      have w2 : ard (up N2 101 (2 + 6 * z + 1) (nI q)) 101 (2 + 6 * nI z + 5) = some (dr z 5) := by
        rw [show (5 : Int32) = nI 5 from rfl, ix6, ard_nI (by rw [hl]; omega)]
        have := y1.2.2.2.2.2 z hz 5 (by omega)
        rw [sd_ne (by omega), ed 5 (by omega)] at this
        rw [this]
      have w3 : awr (up N2 101 (2 + 6 * z + 1) (nI q)) 101 (2 + 6 * nI z + 5) (dr z 5 + 1) = some (up (up N2 101 (2 + 6 * z + 1) (nI q)) 101 (2 + 6 * z + 5) (dr z 5 + 1)) := by
        rw [show (5 : Int32) = nI 5 from rfl, ix6, awr_nI (by rw [hl]; omega)]
      have w4 : M_of F (up (up N2 101 (2 + 6 * z + 1) (nI q)) 101 (2 + 6 * z + 5) (dr z 5 + 1)) (nI z) 5 = some (dr z 5 + 1) := by
        have := M_of_eq (F := F) y2 hz (j := 5) (by omega)
        rw [sd_same] at this
        exact this
      simp only [k1, k2, k3, k4, k5, ↓reduceIte, not_false_eq_true, b1, b2, Option.bind_some, w1, w2, w3, w4, q5, q6]
      refine ⟨_, _, _, rfl, rfl, ?_⟩
      refine Rel_of_C hR (fun p hp => ?_) (fun p hp => ?_) (RelC_views b3 (fun p hp => ?_) (fun p hp => ?_) (fun p hp => ?_) x2 y2 (fun i hi => ?_))
      · rw [up_cell (by omega), up_cell (by omega), b5 p (by omega)]
      · rw [up_cell (by omega), up_cell (by omega), b6 p hp]
      · rw [up_cell (by omega), up_cell (by omega)]
      · rw [up_cell (by omega), up_cell (by omega)]
      · rw [up_ne (by omega), up_ne (by omega)]
      · by_cases ei : i = z
        · subst ei
          refine ⟨a, q, c, k, v, t + 1, ?_, ?_, ?_, ?_, ?_, ?_, ha, hq, ?_, hcc, hk, by omega, ?_⟩
          · rw [sd_ne (by omega), sd_ne (by omega), ed 0 (by omega), g0]
          · rw [sd_ne (by omega), sd_same]
          · rw [sd_ne (by omega), sd_ne (by omega), ed 2 (by omega), g2]
          · rw [sd_ne (by omega), sd_ne (by omega), ed 3 (by omega), g3]
          · rw [sd_ne (by omega), sd_ne (by omega), ed 4 (by omega), g4]
          · rw [sd_same, g5, nI_1]
          · intro e; rw [g0, e] at k1; exact k1 rfl
          · rcases Nat.lt_or_ge t 2 with h | h
            · omega
            · exact absurd (by rw [g5, show t = 2 by omega]; rfl) k3
        · rw [sd_row ei, sd_row ei]
          exact hg'.2.2.2.1 i hi
