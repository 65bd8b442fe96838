/-! undo, keep, on -/
theorem copyVillage_eq {F : Nat} (hF : FB ≤ F) {M : Mem} {s t : Nat} (hs : s + 2994 ≤ 11976) (ht : t + 2994 ≤ 11976) (hd : s + 2994 ≤ t ∨ t + 2994 ≤ s) : ∃ M', M_copyVillage F M (nI s) (nI t) = some M' ∧ (∀ a, a ≠ 101 → M' a = M a) ∧ (∀ x, x < 2994 → M' 101 (t + x) = M 101 (s + x)) ∧ ∀ b, b < t ∨ t + 2994 ≤ b → M' 101 b = M 101 b := by
  have hF' := FBL hF
  have hl : ln 101 = 11976 := by decide
  unfold M_copyVillage
  obtain ⟨M', h1, k1, k2, k3⟩ := lpE (fun m i (N : Mem) => L_M_copyVillage_2 F (nI s) (nI t) m N (nI i)) (fun i N => (∀ a, a ≠ 101 → N a = M a) ∧ (∀ x, x < i → N 101 (t + x) = M 101 (s + x)) ∧ ∀ b, b < t ∨ t + i ≤ b → N 101 b = M 101 b) (fun N => some N) 2994
    (fun m i N hi hI => by
      obtain ⟨i1, i2, i3⟩ := hI
      have hc : (2994 ≤ nI i) = False := by rw [lit 2994, nI_leI (by omega) (by omega)]; simp; omega
      refine ⟨up N 101 (t + i) (M 101 (s + i)), ?_, ?_, ?_, ?_⟩
      · show B_M_copyVillage_2 F (nI s) (nI t) _ N (nI i) = _
        unfold B_M_copyVillage_2
        simp only [hc, ↓reduceIte, nI_add, ard_nI (M := N) (a := 101) (k := s + i) (by rw [hl]; omega), i3 (s + i) (by omega), Option.bind_some, awr_nI (M := N) (a := 101) (k := t + i) (v := M 101 (s + i)) (by rw [hl]; omega), nI_1]
      · intro a ha; rw [up_cell ha]; exact i1 a ha
      · intro x hx
        by_cases e : x = i
        · subst e; exact up_same _ _ _ _
        · rw [up_ne (by omega)]; exact i2 x (by omega)
      · intro b hb; rw [up_ne (by omega)]; exact i3 b (by omega))
    (fun m N hI => by
      show B_M_copyVillage_2 F (nI s) (nI t) _ N (nI 2994) = _
      unfold B_M_copyVillage_2
      rw [if_pos (by decide)])
    2994 0 F M (by omega) (by omega) ⟨fun _ _ => rfl, fun x hx => absurd hx (by omega), fun _ _ => rfl⟩
  rw [nI_0] at h1
  exact ⟨M', by rw [h1]; rfl, k1, k2, k3⟩
theorem becomeLike_eq {F : Nat} {M : Mem} {h g D : Nat} (hd : h + 3 ≤ g ∨ g + 3 ≤ h) (l1 : ln (h + 1) = 41) (l2 : ln (h + 2) = 492) (l3 : ln (g + 1) = 41) (l4 : ln (g + 2) = 492) (hD : D ≤ 40) (hM : M g 0 = nI D) : ∃ M', H_becomeLike F M h g = some M' ∧ (∀ a, a ≠ h → a ≠ h + 1 → a ≠ h + 2 → M' a = M a) ∧ M' h 0 = nI D ∧ (∀ n, n ≤ D → M' (h + 1) n = M (g + 1) n) ∧ ∀ b, b < 12 * (D + 1) → M' (h + 2) b = M (g + 2) b := by
  unfold H_becomeLike
  have e1 : up M h 0 (nI D) h 0 + 1 = nI (D + 1) := by rw [up_same, nI_1]
  have a1 := acp_eq (M := up M h 0 (nI D)) (a := g + 1) (b := h + 1) (i := 0) (j := 0) (n := D + 1) (by omega) (by omega)
  rw [nI_0] at a1
  rw [hM, e1, a1, Option.bind_some]
  generalize hN : upR (up M h 0 (nI D)) (h + 1) (va_cpy (up M h 0 (nI D) (g + 1)) (up M h 0 (nI D) (h + 1)) 0 0 (D + 1)) = N
  have n1 : ∀ a, a ≠ h → a ≠ h + 1 → N a = M a := fun a b1 b2 => by rw [← hN]; unfold upR; rw [if_neg b2, up_cell b1]
  have n2 : N h 0 = nI D := by rw [← hN]; unfold upR; rw [if_neg (by omega), up_same]
  have n3 : ∀ n, n ≤ D → N (h + 1) n = M (g + 1) n := fun n hn => by
    rw [← hN]; unfold upR; rw [if_pos rfl, pk_cpy_in (by omega) (by omega), up_cell (by omega)]
    congr 1
    omega
  have e2 : (N h 0 + 1) * 12 = nI (12 * (D + 1)) := by rw [n2, nI_1, lit 12, pk_mul, Nat.mul_comm]
  have a2 := acp_eq (M := N) (a := g + 2) (b := h + 2) (i := 0) (j := 0) (n := 12 * (D + 1)) (by omega) (by omega)
  rw [nI_0] at a2
  rw [e2, a2, Option.bind_some]
  refine ⟨_, rfl, fun a b1 b2 b3 => ?_, ?_, fun n hn => ?_, fun b hb => ?_⟩
  · unfold upR; rw [if_neg b3]; exact n1 a b1 b2
  · unfold upR; rw [if_neg (by omega)]; exact n2
  · unfold upR; rw [if_neg (by omega)]; exact n3 n hn
  · unfold upR; rw [if_pos rfl, pk_cpy_in (by omega) (by omega), n1 _ (by omega) (by omega)]
    congr 1
    omega
theorem op_undo {F : Nat} (hF : FB ≤ F) (M1 M2 : Mem) (a0 : Int32) (hR : Rel M1 M2) : ∃ (r : Int32) (M1' : Mem) (M2' : Mem), K_undo F M1 a0 = some (r, M1') ∧ M_undo F M2 a0 = some (r, M2') ∧ Rel M1' M2' := by
  have hF' := FBL hF
  have hl : ln 101 = 11976 := by decide
  obtain ⟨ra, rr, rt, np, nd, D, hc⟩ := id hR
  obtain ⟨kn, dr, hx, hm, hg, ekn, edr⟩ := hc.views
  have hc' := hc
  obtain ⟨⟨p1, p2, p3, p4, p5⟩, ⟨n1, n2, n3, n4⟩, ⟨d0, d1, d2, d3⟩, hk⟩ := hc'
  unfold K_undo M_undo
  rw [d1, d2, in_02 (n := D) (by rw [i64_wide, tI (by omega)]) (by omega)]
  rcases one_cases a0 (n := D + 1) (by omega) with h | ⟨h, n, hn, rfl⟩
  · simp only [h, Option.bind_some, ↓reduceIte]
    by_cases c0 : a0 < 0
    · simp only [c0, ↓reduceIte]; exact ⟨_, _, _, rfl, rfl, hR⟩
    · have c1 : (a0 ≤ nI D) = False := by
        rcases h with h | h
        · exact absurd h c0
        · rw [i32_le, tI (by omega)] at h
          simp only [i32_le, tI (show D < 2147483648 by omega), eq_iff_iff, iff_false]
          omega
      simp only [c0, c1, ↓reduceIte]; exact ⟨_, _, _, rfl, rfl, hR⟩
  · have c0 : (nI n < 0) = False := by simp [nI_nlt0 (n := n) (by omega)]
    have c1 : (nI n ≤ nI D) = True := by rw [nI_leI (by omega) (by omega)]; simp; omega
    have c2 : (nI D - nI n ≤ 0) = (D ≤ n) := by
      rw [i32_le, pk_sub_toInt (by omega) (by omega)]
      have : (0 : Int32).toInt = 0 := rfl
      simp only [this, eq_iff_iff]
      omega
    have c4 : (nI (D + 1) ≤ nI n) = False := by rw [nI_leI (by omega) (by omega)]; simp; omega
    simp only [Option.bind_some, ↓reduceIte, c0, c1, c2, c4, or_self, i10]
    by_cases c3 : D ≤ n
    · have e : n = D := by omega
      subst e
      have hL : L_M_undo_29 F (nI n) (nI n - nI n) F M2 0 = some M2 := by
        obtain ⟨m, rfl⟩ : ∃ m, F = m + 1 := ⟨F - 1, by omega⟩
        show B_M_undo_29 (m + 1) (nI n) (nI n - nI n) _ M2 0 = _
        unfold B_M_undo_29
        simp only [c2, c3, ↓reduceIte]
        split <;> rfl
      have ea : awr M2 101 0 (nI n) = some M2 := by
        have := awr_nI (M := M2) (a := 101) (k := 0) (v := nI n) (by rw [hl]; omega)
        rw [nI_0] at this
        rw [this]
        congr 1
        funext a b
        unfold up
        split
        · next q => rw [q.1, q.2, d2]
        · rfl
      simp only [c3, ↓reduceIte, hL, Option.bind_some, ea]
      exact ⟨_, _, _, rfl, rfl, hR⟩
    · obtain ⟨nd', q1, q2, q3, q4⟩ := d3 n (by omega)
      obtain ⟨N1, g1, g2, g3, g4, g5, g6, g7⟩ := goBack_eq hF (np := np) (n := n) (w := n) (dr := drM M2 (0 + 74 + 73 * n)) d0 (by omega) d1 p2 (by omega) q1 q2 q4
      obtain ⟨N, t1, k1, k2, k3⟩ := lpE (fun m i (N : Mem) => L_M_undo_29 F (nI n) (nI D - nI n) m N (nI i)) (fun i N => (∀ a, a ≠ 101 → N a = M2 a) ∧ (∀ x, x < i → N 101 (1 + x) = M2 101 (74 + 73 * n + x)) ∧ ∀ b, b < 1 ∨ 1 + i ≤ b → N 101 b = M2 101 b) (fun N => some N) 73
        (fun m i N hi hI => by
          obtain ⟨i1, i2, i3⟩ := hI
          have hc : (73 ≤ nI i) = False := by rw [lit 73, nI_leI (by omega) (by omega)]; simp; omega
          have ex : (74 + (73 * nI n)) + nI i = nI (74 + 73 * n + i) := by rw [lit 74, lit 73, pk_mul, nI_add, nI_add]
          have ey : 1 + nI i = nI (1 + i) := by rw [lit 1, nI_add]
          refine ⟨up N 101 (1 + i) (M2 101 (74 + 73 * n + i)), ?_, ?_, ?_, ?_⟩
          · show B_M_undo_29 F (nI n) (nI D - nI n) _ N (nI i) = _
            unfold B_M_undo_29
            simp only [hc, c2, c3, ↓reduceIte, ex, ey, ard_nI (M := N) (a := 101) (k := 74 + 73 * n + i) (by rw [hl]; omega), i3 (74 + 73 * n + i) (by omega), Option.bind_some, awr_nI (M := N) (a := 101) (k := 1 + i) (v := M2 101 (74 + 73 * n + i)) (by rw [hl]; omega), nI_1]
          · intro a ha; rw [up_cell ha]; exact i1 a ha
          · intro x hx
            by_cases e : x = i
            · subst e; exact up_same _ _ _ _
            · rw [up_ne (by omega)]; exact i2 x (by omega)
          · intro b hb; rw [up_ne (by omega)]; exact i3 b (by omega))
        (fun m N hI => by
          show B_M_undo_29 F (nI n) (nI D - nI n) _ N (nI 73) = _
          unfold B_M_undo_29
          rw [if_pos (by decide)])
        73 0 F M2 (by omega) (by omega) ⟨fun _ _ => rfl, fun x hx => absurd hx (by omega), fun _ _ => rfl⟩
      rw [nI_0] at t1
      have ea : awr N 101 0 (nI n) = some (up N 101 0 (nI n)) := awr_nI (k := 0) (by rw [hl]; omega)
      simp only [c3, ↓reduceIte, g1, t1, Option.bind_some, ea]
      refine ⟨_, _, _, rfl, rfl, ?_⟩
      have u1 : ∀ a, a ≠ 101 → up N 101 0 (nI n) a = M2 a := fun a ha => by rw [up_cell ha, k1 a ha]
      have u2 : ∀ b, 74 ≤ b → up N 101 0 (nI n) 101 b = M2 101 b := fun b hb => by rw [up_ne (by omega), k3 b (by omega)]
      have u3 : ∀ x, x < 73 → up N 101 0 (nI n) 101 (1 + x) = M2 101 (74 + 73 * n + x) := fun x hx => by rw [up_ne (by omega), k2 x hx]
      refine ⟨?_, RelR_of rr (fun k h1 h2 => g2 k (by omega) (by omega) (by omega)) (u1 _ (by omega)) (u1 _ (by omega)), RelT_of rt (fun k h1 h2 => g2 k (by omega) (by omega) (by omega)) (u1 _ (by omega)) (u1 _ (by omega)), np, nd', n, ⟨p1, p2, by rw [g5, p3], by rw [u1 _ (by omega), p4], fun p hp => ?_⟩, ⟨q1, g6, ?_, fun i hi => ?_⟩, ⟨by omega, g4, up_same _ _ _ _, fun n' hn' => ?_⟩, fun k hk' => ?_⟩
      · unfold RelA
        rw [g2 0 (by omega) (by omega) (by omega), g2 76 (by omega) (by omega) (by omega), u1 100 (by omega), u1 107 (by omega)]
        exact ra
      · rw [g2 24 (by omega) (by omega) (by omega), u1 102 (by omega)]; exact p5 p hp
      · have := u3 0 (by omega)
        rw [Nat.add_zero, Nat.add_zero] at this
        rw [this]
        rw [Nat.zero_add] at q3
        exact q3
      · have ed : ∀ j, j < 6 → drM (up N 101 0 (nI n)) 1 i j = drM M2 (0 + 74 + 73 * n) i j := by
          intro j hj
          have := u3 (1 + 6 * i + j) (by omega)
          unfold drM
          rw [show 1 + 1 + 6 * i + j = 1 + (1 + 6 * i + j) by omega, this]
          congr 1
          omega
        refine ⟨GoodD_congr (q4 i hi).1 ed, fun j hj => ?_⟩
        rw [ed j hj, show 23 + 2 + 1 + i = 26 + i by omega]
        exact g7 i hi j hj
      · exact PageRel_at (d3 n' (by omega)) (by rw [g2 (53 + 1) (by omega) (by omega) (by omega)]) (fun i _ => by rw [g2 (53 + 2) (by omega) (by omega) (by omega)]) (fun x hx => u2 _ (by omega))
      · exact RelK_at (hk k hk') (by rw [g2 _ (by omega) (by omega) (by omega)]) (g2 _ (by omega) (by omega) (by omega)) (g2 _ (by omega) (by omega) (by omega)) (fun x _ => u2 _ (by omega))

theorem op_keep {F : Nat} (hF : FB ≤ F) (M1 M2 : Mem) (a0 : Int32) (hR : Rel M1 M2) : ∃ (r : Int32) (M1' : Mem) (M2' : Mem), K_keep F M1 a0 = some (r, M1') ∧ M_keep F M2 a0 = some (r, M2') ∧ Rel M1' M2' := by
  have hF' := FBL hF
  obtain ⟨ra, rr, rt, np, nd, D, hc⟩ := id hR
  obtain ⟨kn, dr, hx, hm, hg, ekn, edr⟩ := hc.views
  have hc' := hc
  obtain ⟨⟨p1, p2, p3, p4, p5⟩, ⟨n1, n2, n3, n4⟩, ⟨d0, d1, d2, d3⟩, hk⟩ := hc'
  unfold K_keep M_keep
  rw [in_02 (n := 2) rfl (by omega), hm.1]
  have ek : K_isKeptPlace F M1 a0 = some (if a0 < 0 ∨ nI (2 + 1) ≤ a0 then 0 else 1) := by
    unfold K_isKeptPlace
    rw [lit 3]
    by_cases c0 : a0 < 0
    · simp only [c0, true_or, ↓reduceIte]
    · by_cases c1 : nI 3 ≤ a0
      · simp only [c0, c1, or_true, ↓reduceIte]
      · simp only [c0, c1, or_self, ↓reduceIte]
  rw [ek]
  rcases one_cases a0 (n := 2 + 1) (by omega) with h | ⟨h, k, hk3, rfl⟩
  · simp only [h, Option.bind_some, ↓reduceIte]
    exact ⟨_, _, _, rfl, rfl, hR⟩
  · rw [isEmpty_eq hx]
    simp only [h, Option.bind_some, ↓reduceIte, i10, np_zero p2, i10c]
    by_cases h0 : np = 0
    · simp only [h0, ↓reduceIte, not_true_eq_false]
      exact ⟨_, _, _, rfl, rfl, hR⟩
    · obtain ⟨S, s1, s2, s3, s4, s5, s6⟩ := save_eq hF (h := 53) (D := D) hx (by decide) (by decide) d0 d1 (by omega)
      have eS : S 53 0 = nI D := by rw [s2 53 (by omega) (by omega), d1]
      have hl1 : ln (56 + 1 + 3 * k + 1) = 41 := by
        rcases (show k = 0 ∨ k = 1 ∨ k = 2 by omega) with rfl | rfl | rfl <;> decide
      have hl2 : ln (56 + 1 + 3 * k + 2) = 492 := by
        rcases (show k = 0 ∨ k = 1 ∨ k = 2 by omega) with rfl | rfl | rfl <;> decide
      obtain ⟨N1, b1, b2, b3, b4, b5⟩ := becomeLike_eq (F := F) (M := S) (h := 56 + 1 + 3 * k) (g := 53) (D := D) (by omega) hl1 hl2 (by decide) (by decide) d0 eS
      have ei : 2994 * (1 + nI k) = nI (2994 * (k + 1)) := by rw [lit 2994, lit 1, nI_add, pk_mul, Nat.add_comm 1 k]
      obtain ⟨N2, t1, t2, t3, t4⟩ := copyVillage_eq hF (M := M2) (s := 0) (t := 2994 * (k + 1)) (by omega) (by omega) (by omega)
      rw [nI_0] at t1
      have eN : N1 53 0 = nI D := by rw [b2 53 (by omega) (by omega) (by omega), eS]
      have eN2 : N2 101 0 = nI D := by rw [t4 0 (by omega), d2]
      simp only [h0, ↓reduceIte, not_false_eq_true, s1, Option.bind_some, idx_nI (k := k) (n := 3) hk3 (by omega), b1, ei, t1, eN, eN2]
      have f1 : ∀ a, a < 54 ∨ 65 < a → N1 a = M1 a := fun a ha => by rw [b2 a (by omega) (by omega) (by omega), s2 a (by omega) (by omega)]
      have f54 : ∀ n, n ≠ D → N1 (53 + 1) n = M1 (53 + 1) n := fun n hn => by rw [b2 (53 + 1) (by omega) (by omega) (by omega), s3 n hn]
      have f55 : ∀ b, b < 12 * D ∨ 12 * D + 12 ≤ b → N1 (53 + 2) b = M1 (53 + 2) b := fun b hb => by rw [b2 (53 + 2) (by omega) (by omega) (by omega), s5 b hb]
      have eb : ∀ x, x < 2994 → N2 101 x = M2 101 x := fun x hx => t4 x (by omega)
      refine ⟨_, _, _, rfl, rfl, ?_, RelR_of rr (fun a h1 h2 => f1 a (by omega)) (t2 _ (by omega)) (t2 _ (by omega)), RelT_of rt (fun a h1 h2 => f1 a (by omega)) (t2 _ (by omega)) (t2 _ (by omega)), np, nd, D, ⟨p1, p2, by rw [f1 23 (by omega), p3], by rw [t2 _ (by omega), p4], fun p hp => ?_⟩, ⟨n1, by rw [f1 23 (by omega), n2], by rw [eb 1 (by omega), n3], fun i hi => ?_⟩, ⟨d0, eN, eN2, fun n hn => ?_⟩, fun k' hk' => ?_⟩
      · unfold RelA
        rw [f1 0 (by omega), f1 76 (by omega), t2 100 (by omega), t2 107 (by omega)]
        exact ra
      · rw [f1 24 (by omega), t2 102 (by omega)]; exact p5 p hp
      · have ed : ∀ j, j < 6 → drM N2 1 i j = drM M2 1 i j := fun j hj => by unfold drM; rw [eb _ (by omega)]
        refine ⟨GoodD_congr (n4 i hi).1 ed, fun j hj => ?_⟩
        rw [f1 _ (by omega), ed j hj]
        exact (n4 i hi).2 j hj
      · refine PageRel_at (d3 n hn) (f54 n (by omega)) (fun i hi => f55 _ (by omega)) (fun x hx => eb _ (by omega))
      · by_cases e : k' = k
        · subst e
          refine Or.inr ⟨D, ⟨d0, b3, ?_, fun n hn => ?_⟩, ?_⟩
          · have := t3 0 (by omega)
            rw [Nat.add_zero, Nat.add_zero] at this
            rw [this, d2]
          · refine PageRel_at (d3 n hn) ?_ (fun i hi => ?_) (fun x hx => ?_)
            · rw [b4 n (by omega), s3 n (by omega)]
            · rw [b5 _ (by omega), s5 _ (by omega)]
            · rw [show 2994 * (k' + 1) + 74 + 73 * n + x = 2994 * (k' + 1) + (74 + 73 * n + x) by omega, t3 _ (by omega)]
              congr 1
              omega
          · have ed : ∀ i, i < 12 → ∀ j, j < 6 → drM N2 (2994 * (k' + 1) + 1) i j = drM M2 1 i j := fun i hi j hj => by
              unfold drM
              rw [show 2994 * (k' + 1) + 1 + 1 + 6 * i + j = 2994 * (k' + 1) + (1 + 1 + 6 * i + j) by omega, t3 _ (by omega)]
              congr 1
              omega
            refine ⟨nd, n1, ?_, ?_, fun i hi => ⟨GoodD_congr (n4 i hi).1 (ed i (by omega)), ?_⟩⟩
            · rw [b4 D (Nat.le_refl _), s4]
            · rw [t3 1 (by omega), Nat.zero_add, n3]
            · rw [b5 _ (by omega), s6 i hi, pk6_congr (ed i (by omega)), edr]
        · refine RelK_at (hk k' hk') ?_ ?_ ?_ (fun x hx => t4 _ (by omega))
          · rw [b2 _ (by omega) (by omega) (by omega), s2 _ (by omega) (by omega)]
          · rw [b2 _ (by omega) (by omega) (by omega), s2 _ (by omega) (by omega)]
          · rw [b2 _ (by omega) (by omega) (by omega), s2 _ (by omega) (by omega)]
theorem op_on {F : Nat} (hF : FB ≤ F) (M1 M2 : Mem) (a0 : Int32) (hR : Rel M1 M2) : ∃ (r : Int32) (M1' : Mem) (M2' : Mem), K_on F M1 a0 = some (r, M1') ∧ M_on F M2 a0 = some (r, M2') ∧ Rel M1' M2' := by
  have hF' := FBL hF
  have hl : ln 101 = 11976 := by decide
  obtain ⟨ra, rr, rt, np, nd, D, hc⟩ := id hR
  have hc' := hc
  obtain ⟨⟨p1, p2, p3, p4, p5⟩, -, -, hk⟩ := hc'
  unfold K_on M_on
  rw [in_02 (n := 2) rfl (by omega)]
  have ek : K_isKeptPlace F M1 a0 = some (if a0 < 0 ∨ nI (2 + 1) ≤ a0 then 0 else 1) := by
    unfold K_isKeptPlace
    rw [lit 3]
    by_cases c0 : a0 < 0
    · simp only [c0, true_or, ↓reduceIte]
    · by_cases c1 : nI 3 ≤ a0
      · simp only [c0, c1, or_true, ↓reduceIte]
      · simp only [c0, c1, or_self, ↓reduceIte]
  rw [ek]
  rcases one_cases a0 (n := 2 + 1) (by omega) with h | ⟨h, k, hk3, rfl⟩
  · simp only [h, Option.bind_some, ↓reduceIte]
    exact ⟨_, _, _, rfl, rfl, hR⟩
  · have ei : 2994 * (1 + nI k) = nI (2994 * (k + 1)) := by rw [lit 2994, lit 1, nI_add, pk_mul, Nat.add_comm 1 k]
    have ea : ard M2 101 (nI (2994 * (k + 1)) + 0) = some (M2 101 (2994 * (k + 1))) := by rw [Int32.add_zero, ard_nI (by rw [hl]; omega)]
    simp only [h, Option.bind_some, ↓reduceIte, i10, idx_nI (k := k) (n := 3) hk3 (by omega), ei, ea]
    rcases hk k hk3 with ⟨m1, m2⟩ | ⟨D', ⟨d0, d1, d2, d3⟩, nd', q1, q2, q3, q4⟩
    · have c1 : ((0 : Int32) ≤ -1) = False := by decide
      have r1 := refuse_eq (F := F) (M1 := M1) (f := 1) (by omega) (by omega)
      have r2 := find_eq (F := F) (M2 := M2) (f := 1) (by omega) (by omega)
      rw [show nI 1 = 1 from rfl] at r1 r2
      simp only [m1, m2, c1, ↓reduceIte, r1, r2, Option.bind_some]
      exact ⟨_, _, _, rfl, rfl, refuse_rel hR (f := 1) (by omega) (by omega)⟩
    · have c1 : (nI D' = -1) = False := by simp [nI_m1 (n := D') (by omega)]
      have c2 : (0 ≤ nI D') = True := by simp [nI_ge0 (n := D') (by omega)]
      have hl1 : ln (56 + 1 + 3 * k + 1) = 41 := by
        rcases (show k = 0 ∨ k = 1 ∨ k = 2 by omega) with rfl | rfl | rfl <;> decide
      have hl2 : ln (56 + 1 + 3 * k + 2) = 492 := by
        rcases (show k = 0 ∨ k = 1 ∨ k = 2 by omega) with rfl | rfl | rfl <;> decide
      obtain ⟨S, b1, b2, b3, b4, b5⟩ := becomeLike_eq (F := F) (M := M1) (h := 53) (g := 56 + 1 + 3 * k) (D := D') (by omega) (by decide) (by decide) hl1 hl2 d0 d1
      obtain ⟨N1, g1, g2, g3, g4, g5, g6, g7⟩ := goBack_eq hF (M := S) (np := np) (n := D') (w := D') (dr := drM M2 (2994 * (k + 1) + 1)) d0 (Nat.le_refl _) b3 p2 d0 q1 (by rw [b4 D' (Nat.le_refl _), q2]) (fun i hi => ⟨(q4 i hi).1, by rw [b5 _ (by omega), (q4 i hi).2]⟩)
      obtain ⟨N2, t1, t2, t3, t4⟩ := copyVillage_eq hF (M := M2) (s := 2994 * (k + 1)) (t := 0) (by omega) (by omega) (by omega)
      rw [nI_0] at t1
      have eN2 : N2 101 0 = nI D' := by
        have := t3 0 (by omega)
        rw [Nat.add_zero, Nat.add_zero] at this
        rw [this, d2]
      simp only [d1, d2, c1, c2, ↓reduceIte, b1, b3, g1, t1, g4, eN2, Option.bind_some]
      have f1 : ∀ a, a ≠ 23 → ¬ (26 ≤ a ∧ a ≤ 37) → a ≠ 53 → a ≠ 54 → a ≠ 55 → N1 a = M1 a := fun a h1 h2 h3 h4 h5 => by rw [g2 a h3 h1 h2, b2 a h3 (by omega) (by omega)]
      have e54 : N1 (53 + 1) = S (53 + 1) := g2 _ (by omega) (by omega) (by omega)
      have e55 : N1 (53 + 2) = S (53 + 2) := g2 _ (by omega) (by omega) (by omega)
      have ex : ∀ x, x < 2994 → N2 101 x = M2 101 (2994 * (k + 1) + x) := fun x hx => by
        have := t3 x hx
        rw [Nat.zero_add] at this
        exact this
      refine ⟨_, _, _, rfl, rfl, ?_, RelR_of rr (fun a h1 h2 => f1 a (by omega) (by omega) (by omega) (by omega) (by omega)) (t2 _ (by omega)) (t2 _ (by omega)), RelT_of rt (fun a h1 h2 => f1 a (by omega) (by omega) (by omega) (by omega) (by omega)) (t2 _ (by omega)) (t2 _ (by omega)), np, nd', D', ⟨p1, p2, by rw [g5, b2 23 (by omega) (by omega) (by omega), p3], by rw [t2 _ (by omega), p4], fun p hp => ?_⟩, ⟨q1, g6, ?_, fun i hi => ?_⟩, ⟨d0, g4, eN2, fun n hn => ?_⟩, fun k' hk' => ?_⟩
      · unfold RelA
        rw [f1 0 (by omega) (by omega) (by omega) (by omega) (by omega), f1 76 (by omega) (by omega) (by omega) (by omega) (by omega), t2 100 (by omega), t2 107 (by omega)]
        exact ra
      · rw [f1 24 (by omega) (by omega) (by omega) (by omega) (by omega), t2 102 (by omega)]; exact p5 p hp
      · rw [ex 1 (by omega), q3]
      · have ed : ∀ j, j < 6 → drM N2 1 i j = drM M2 (2994 * (k + 1) + 1) i j := fun j hj => by
          unfold drM
          rw [ex _ (by omega), show 2994 * (k + 1) + (1 + 1 + 6 * i + j) = 2994 * (k + 1) + 1 + 1 + 6 * i + j by omega]
        refine ⟨GoodD_congr (q4 i hi).1 ed, fun j hj => ?_⟩
        rw [show 23 + 2 + 1 + i = 26 + i by omega, g7 i hi j hj, ed j hj]
      · refine PageRel_at (d3 n hn) (by rw [e54, b4 n (by omega)]) (fun i hi => by rw [e55, b5 _ (by omega)]) (fun x hx => ?_)
        rw [ex _ (by omega), show 2994 * (k + 1) + (0 + 74 + 73 * n + x) = 2994 * (k + 1) + 74 + 73 * n + x by omega]
      · refine RelK_at (hk k' hk') ?_ ?_ ?_ (fun x hx => t4 _ (by omega))
        · rw [f1 _ (by omega) (by omega) (by omega) (by omega) (by omega)]
        · rw [f1 _ (by omega) (by omega) (by omega) (by omega) (by omega)]
        · rw [f1 _ (by omega) (by omega) (by omega) (by omega) (by omega)]
