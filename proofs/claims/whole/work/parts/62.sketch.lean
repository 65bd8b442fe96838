/-! the sketch; what one pair leaves of the others -/
theorem likeD_eq {F : Nat} {M : Mem} {a b : Nat} (h : a ≠ b) : ∃ N, D_becomeLike F M a b = some N ∧ (∀ c, c ≠ a → N c = M c) ∧ ∀ j, j < 6 → N a j = M b j := by
  unfold D_becomeLike D_become
  simp only [ob_some]
  refine ⟨_, rfl, fun c hc => ?_, fun j hj => ?_⟩
  · simp only [up_cell hc]
  · have hb : ∀ k, k ≠ a → True := fun _ _ => trivial
    rcases (show j = 0 ∨ j = 1 ∨ j = 2 ∨ j = 3 ∨ j = 4 ∨ j = 5 by omega) with rfl | rfl | rfl | rfl | rfl | rfl <;> simp [up_eqn, Ne.symm h, h]
theorem like_eq {F : Nat} (hF : FB ≤ F) {M : Mem} {np nd : Nat} {kn : Nat → Int32} {dr : Nat → Nat → Int32} (h : VX M 23 np nd kn dr) : ∃ N, V_becomeLike F M 38 23 = some N ∧ VX N 38 np nd kn dr ∧ ∀ a, ¬ (38 ≤ a ∧ a ≤ 52) → N a = M a := by
  have hF' := FBL hF
  obtain ⟨h1, h2, h3, h4, h5, h6, h7, h8⟩ := h
  unfold V_becomeLike
  have e1 : up M 38 0 (M 23 0) 23 1 = M 23 1 := by rw [up_cell (by omega)]
  rw [e1, h3, h4]
  obtain ⟨A, a1, a2, a3, a4, a5⟩ := lpE (fun m i (N : Mem) => L_V_becomeLike_18 F 38 23 m N (nI i)) (fun i N => (∀ a, ¬ (38 ≤ a ∧ a ≤ 52) → N a = M a) ∧ N 38 0 = nI np ∧ N 38 1 = nI nd ∧ ∀ p, p < i → N 39 p = kn p) (fun N => some N) np
    (fun m i N hi hI => by
      obtain ⟨i1, i2, i3, i4⟩ := hI
      have hc : (nI np ≤ nI i) = False := by rw [nI_leI (by omega) (by omega)]; simp; omega
      have l1 : ard N (23 + 1) (nI i) = some (kn i) := by rw [ard_nI (by show i < 6; omega), i1 _ (by omega), h7 i hi]
      have l2 : awr N (38 + 1) (nI i) (kn i) = some (up N 39 i (kn i)) := awr_nI (by show i < 6; omega)
      refine ⟨up N 39 i (kn i), ?_, fun a ha => by rw [up_cell (by omega), i1 a ha], by rw [up_cell (by omega), i2], by rw [up_cell (by omega), i3], fun p hp => ?_⟩
      · show B_V_becomeLike_18 F 38 23 _ N (nI i) = _
        unfold B_V_becomeLike_18
        simp only [i2, hc, ↓reduceIte, l1, l2, ob_some, nI_1]
      · by_cases e : p = i
        · subst e; exact up_same _ _ _ _
        · rw [up_ne (by omega)]; exact i4 p (by omega))
    (fun m N hI => by
      show B_V_becomeLike_18 F 38 23 _ N (nI np) = _
      unfold B_V_becomeLike_18
      rw [hI.2.1, if_pos (by rw [nI_leI (by omega) (by omega)]; omega)])
    np 0 F (up (up M 38 0 (nI np)) 38 1 (nI nd)) (by omega) (by omega)
    ⟨fun a ha => by rw [up_cell (by omega), up_cell (by omega)], by rw [up_ne (by omega), up_same], up_same _ _ _ _, fun p hp => absurd hp (by omega)⟩
  obtain ⟨B, b1, b2, b3, b4, b5, b6⟩ := lpE (fun m i (N : Mem) => L_V_becomeLike_46 F 38 23 m N (nI i)) (fun i N => (∀ a, ¬ (38 ≤ a ∧ a ≤ 52) → N a = M a) ∧ N 38 0 = nI np ∧ N 38 1 = nI nd ∧ (∀ p, p < np → N 39 p = kn p) ∧ ∀ d, d < i → ∀ j, j < 6 → N (38 + 2 + 1 + d) j = dr d j) (fun N => some N) nd
    (fun m i N hi hI => by
      obtain ⟨i1, i2, i3, i4, i5⟩ := hI
      have hc : (nI nd ≤ nI i) = False := by rw [nI_leI (by omega) (by omega)]; simp; omega
      have x1 : idx (nI i) (ln (38 + 2)) = some i := idx_nI (k := i) (n := 12) (by omega) (by omega)
      have x2 : idx (nI i) (ln (23 + 2)) = some i := idx_nI (k := i) (n := 12) (by omega) (by omega)
      obtain ⟨P, p1, p2, p3⟩ := likeD_eq (F := F) (M := N) (a := 38 + 2 + 1 + i) (b := 23 + 2 + 1 + i) (by omega)
      refine ⟨P, ?_, fun a ha => by rw [p2 a (by omega), i1 a ha], by rw [p2 38 (by omega), i2], by rw [p2 38 (by omega), i3], fun p hp => by rw [p2 39 (by omega), i4 p hp], fun d hd j hj => ?_⟩
      · show B_V_becomeLike_46 F 38 23 _ N (nI i) = _
        unfold B_V_becomeLike_46
        simp only [i3, hc, ↓reduceIte, x1, x2, p1, ob_some, nI_1]
      · by_cases e : d = i
        · subst e; rw [p3 j hj, i1 _ (by omega), h8 d hi j hj]
        · rw [p2 _ (by omega)]; exact i5 d (by omega) j hj)
    (fun m N hI => by
      show B_V_becomeLike_46 F 38 23 _ N (nI nd) = _
      unfold B_V_becomeLike_46
      rw [hI.2.2.1, if_pos (by rw [nI_leI (by omega) (by omega)]; omega)])
    nd 0 F A (by omega) (by omega) ⟨a2, a3, a4, a5, fun d hd => absurd hd (by omega)⟩
  rw [nI_0] at a1 b1
  refine ⟨B, by rw [a1, ob_some, b1, ob_some], ⟨by decide, by decide, b3, b4, h5, h6, b5, b6⟩, b2⟩
theorem pay_other {kn : Nat → Int32} {d : Nat → Nat → Int32} {p q x y t : Int32} (h1 : ¬ (x = p ∧ y = q)) (h2 : ¬ (x = q ∧ y = p)) : ∀ n, betwN (payD kn d p q) x y t n = betwN d x y t n := by
  intro n
  induction n with
  | zero => simp [betwN, fo]
  | succ n ih =>
    have em : mt (payD kn d p q) x y t n = mt d x y t n := by
      unfold mt payD
      simp
    rw [betwN_succ, betwN_succ, em, ih]
    by_cases c : mt d x y t n = true
    · have c2 : ¬ payC kn d p q n = true := fun e => by
        have e1 := mt_iff.mp c
        simp only [payC, Bool.and_eq_true, Bool.or_eq_true, decide_eq_true_eq] at e
        rcases e.1 with g | g
        · exact h1 ⟨e1.1.symm.trans g.1, e1.2.1.symm.trans g.2⟩
        · exact h2 ⟨e1.1.symm.trans g.1, e1.2.1.symm.trans g.2⟩
      have ek : kN (payD kn d p q) n = kN d n := by unfold kN payD; rw [if_neg (fun z => c2 z.2)]
      rw [if_pos c, if_pos c, ek]
    · rw [if_neg c, if_neg c]
theorem nst_other {nd : Nat} {d : Nat → Nat → Int32} (h : KN nd d) {p q x y t : Int32} (h1 : ¬ (x = p ∧ y = q)) (h2 : ¬ (x = q ∧ y = p)) : ∀ s, betwN (nst nd d p q s) x y t nd = betwN d x y t nd := by
  intro s
  induction s with
  | zero => rfl
  | succ s ih =>
    have k := nst_KN h p q s
    show betwN (lsD (lsD (nst nd d p q s) p q (nI s) _) q p (nI s) _) x y t nd = _
    rw [ls_other (lsD_KN k _ _ _ _) q p (nI s) _ (fun e => h2 ⟨e.1, e.2.1⟩) nd (Nat.le_refl _), ls_other k p q (nI s) _ (fun e => h1 ⟨e.1, e.2.1⟩) nd (Nat.le_refl _), ih]
