/-! mark, but for the rings through a bishop -/
theorem in_15 {F : Nat} {M : Mem} {x : Int32} : M_in F M x.toInt64 1 5 = some (if x ≤ 0 ∨ ¬ x < 6 then 0 else 1) := by
  rw [in32 _ _ _ _ _ (by decide)]
  have e1 : (1 : Int64).toInt = 1 := rfl
  have e9 : (5 : Int64).toInt = 5 := rfl
  have f1 : (0 : Int32).toInt = 0 := rfl
  have f9 : (6 : Int32).toInt = 6 := rfl
  rw [e1, e9]
  simp only [i32_lt, i32_le, f1, f9]
  by_cases c1 : x.toInt < 1
  · have : x.toInt ≤ 0 := by omega
    simp only [c1, this, true_or, ↓reduceIte]
  · have c1' : ¬ x.toInt ≤ 0 := by omega
    by_cases c2 : 5 < x.toInt
    · have : ¬ x.toInt < 6 := by omega
      simp only [c1, c1', c2, this, not_false_eq_true, or_true, ↓reduceIte]
    · have : x.toInt < 6 := by omega
      simp only [c1, c1', c2, this, not_true_eq_false, or_self, ↓reduceIte]
theorem op_mark_of {F : Nat} (hF : FB ≤ F) (M1 M2 : Mem) (a0 : Int32) (a1 : Int32) (hR : Rel M1 M2) (hring : ∀ (np p : Nat), M1 23 0 = nI np → np ≤ 6 → p < np → ∃ r P1 P2 r0 r1 Q2, K_ringsThrough F M1 (nI p) = some (r, P1) ∧ M_ringsOf F M2 (nI p) 0 = some (r0, Q2) ∧ M_ringsOf F Q2 (nI p) 1 = some (r1, P2) ∧ r = r0 + r1 ∧ Rel P1 P2) : ∃ (r : Int32) (M1' : Mem) (M2' : Mem), K_mark F M1 a0 a1 = some (r, M1') ∧ M_mark F M2 a0 a1 = some (r, M2') ∧ Rel M1' M2' := by
  obtain ⟨np, nd, D, hc⟩ := hR.2.2.2
  obtain ⟨kn, dr, hx, hm, hg, -, -⟩ := hc.views
  have hnp := hg.2.1
  unfold K_mark M_mark
  rw [hasPerson_eq hx, isPerson_eq hm, in_15]
  rcases one_cases a0 (n := np) (by omega) with h | ⟨h, p, hp, rfl⟩
  · simp only [h, ob_some, ↓reduceIte]
    exact ⟨_, _, _, rfl, rfl, hR⟩
  simp only [h, ob_some, ↓reduceIte, i10]
  by_cases c1 : a1 ≤ 0
  · simp only [c1, true_or, ↓reduceIte]
    exact ⟨_, _, _, rfl, rfl, hR⟩
  by_cases c2' : ¬ a1 < 6
  · have c2 : (a1 < 6) = False := eq_false c2'
    simp only [c1, c2, not_false_eq_true, or_true, ↓reduceIte]
    exact ⟨_, _, _, rfl, rfl, hR⟩
  have c2 : a1 < 6 := Decidable.not_not.mp c2'
  simp only [c1, c2, not_true_eq_false, or_self, ↓reduceIte]
  obtain ⟨q, hq, rfl⟩ := nn_nI (x := a1) (fun e => c1 (Int32.le_of_lt e))
  have q6 : q < 6 := by rw [lit 6, nI_ltI (by omega) (by omega)] at c2; exact c2
  have q1 : 1 ≤ q := by
    rcases Nat.eq_zero_or_pos q with e | e
    · subst e; exact absurd (by decide : nI 0 ≤ 0) c1
    · exact e
  obtain ⟨k, hk, ek⟩ := hg.2.2.2.2 p hp
  obtain ⟨k', hk', ek', er, hr⟩ := hg.rs hp
  simp only [isOfKind_X hF hx hp hk q6 ek, isOf_M hm hp hk q1 q6 ek, ob_some, i10c]
  by_cases ok : isK k q = true
  · simp only [ok, not_true_eq_false, ↓reduceIte]
    simp only [V_openOwedTo_eq hF hx, M_openTo_eq hF hm, growth_X hx hp hk ek, growth_M hm hp hk ek, V_openOn_eq hF hx, M_openOn_eq hF hm, V_owed_eq hF hx hg.bn, M_owed_eq hF hm hg.bn, reserve_X hx hp hk ek, reserve_M hm hp hk ek, V_owing_eq hF hx, M_owing_eq hF hm, souring_X hF hx, souring_M hF hm hg hc.2.2.1.1, ob_some]
    by_cases k1 : nI q = 1
    · simp only [k1, ↓reduceIte]; exact ⟨_, _, _, rfl, rfl, hR⟩
    by_cases k2 : nI q = 2
    · simp only [k1, k2, ↓reduceIte]; exact ⟨_, _, _, rfl, rfl, hR⟩
    by_cases k3 : nI q = 3
    · simp only [k1, k2, k3, ↓reduceIte]
      by_cases k0 : owedS nd dr (nI p) 0 + resK k - owingS nd dr (nI p) ≤ 0
      · have : ¬ 0 < owedS nd dr (nI p) 0 + resK k - owingS nd dr (nI p) := Int32.not_lt.mpr k0
        simp only [k0, this, ↓reduceIte]
        exact ⟨_, _, _, rfl, rfl, hR⟩
      · have : 0 < owedS nd dr (nI p) 0 + resK k - owingS nd dr (nI p) := Int32.not_le.mp k0
        simp only [k0, this, ↓reduceIte]
        exact ⟨_, _, _, rfl, rfl, hR⟩
    by_cases k4 : nI q = 4
    · simp only [k1, k2, k3, k4, ↓reduceIte]; exact ⟨_, _, _, rfl, rfl, hR⟩
    obtain ⟨r, P1, P2, r0, r1, Q2, g1, g2, g3, g4, g5⟩ := hring np p hx.2.2.1 hx.2.2.2.2.1 hp
    simp only [k1, k2, k3, k4, ↓reduceIte, g1, g2, g3, ob_some]
    subst g4
    exact ⟨_, _, _, rfl, rfl, g5⟩
  · simp only [ok, not_false_eq_true, ↓reduceIte, ref3, fin3, ob_some, Bool.false_eq_true]
    exact ⟨_, _, _, rfl, rfl, refuse_rel hR (by omega) (by omega)⟩
