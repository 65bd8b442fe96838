/-! a step of the past; the village changed; undo -/
theorem PageRel_at {M1 M2 N1 N2 : Mem} {np h h' n o o' w : Nat} (hp : PageRel M1 M2 np h n o w) (h1 : N1 (h' + 1) n = M1 (h + 1) n) (h2 : ∀ i, i < 12 → N1 (h' + 2) (12 * n + i) = M1 (h + 2) (12 * n + i)) (h3 : ∀ x, x < 73 → N2 101 (o' + x) = M2 101 (o + x)) : PageRel N1 N2 np h' n o' w := by
  obtain ⟨nd, a1, a2, a3, a4⟩ := hp
  refine ⟨nd, a1, by rw [h1, a2], by have := h3 0 (by omega); rw [Nat.add_zero, Nat.add_zero] at this; rw [this, a3], fun i hi => ?_⟩
  have e : ∀ j, j < 6 → drM N2 o' i j = drM M2 o i j := by
    intro j hj
    unfold drM
    have := h3 (1 + 6 * i + j) (by omega)
    rw [show o' + 1 + 6 * i + j = o' + (1 + 6 * i + j) by omega, this, show o + (1 + 6 * i + j) = o + 1 + 6 * i + j by omega]
  obtain ⟨b1, b2⟩ := a4 i hi
  refine ⟨?_, ?_⟩
  · obtain ⟨a, b, c, k, v, t, g0, g1, g2, g3, g4, g5, gg⟩ := b1
    exact ⟨a, b, c, k, v, t, by rw [e 0 (by omega), g0], by rw [e 1 (by omega), g1], by rw [e 2 (by omega), g2], by rw [e 3 (by omega), g3], by rw [e 4 (by omega), g4], by rw [e 5 (by omega), g5], gg⟩
  · rw [h2 i (by omega), b2]
    unfold pk6
    rw [e 0 (by omega), e 1 (by omega), e 2 (by omega), e 3 (by omega), e 4 (by omega), e 5 (by omega)]
theorem GoodD_congr {np w : Nat} {d d' : Nat → Int32} (h : GoodD np w d) (e : ∀ j, j < 6 → d' j = d j) : GoodD np w d' := by
  obtain ⟨a, b, c, k, v, t, g0, g1, g2, g3, g4, g5, gg⟩ := h
  exact ⟨a, b, c, k, v, t, by rw [e 0 (by omega), g0], by rw [e 1 (by omega), g1], by rw [e 2 (by omega), g2], by rw [e 3 (by omega), g3], by rw [e 4 (by omega), g4], by rw [e 5 (by omega), g5], gg⟩
theorem pk6_congr {d d' : Nat → Int32} (e : ∀ j, j < 6 → d' j = d j) : pk6 d' = pk6 d := by
  unfold pk6
  rw [e 0 (by omega), e 1 (by omega), e 2 (by omega), e 3 (by omega), e 4 (by omega), e 5 (by omega)]
/-- kept villages where nothing of them changed -/
theorem RelK_at {M1 M2 N1 N2 : Mem} {np h b : Nat} (hk : RelK M1 M2 np h b) (h0 : N1 h 0 = M1 h 0) (h1 : N1 (h + 1) = M1 (h + 1)) (h2 : N1 (h + 2) = M1 (h + 2)) (h3 : ∀ x, x < 2994 → N2 101 (b + x) = M2 101 (b + x)) : RelK N1 N2 np h b := by
  have hb := h3 0 (by omega)
  rw [Nat.add_zero] at hb
  rcases hk with ⟨a1, a2⟩ | ⟨D, ⟨a0, a1, a2, a3⟩, a4⟩
  · exact Or.inl ⟨by rw [h0, a1], by rw [hb, a2]⟩
  · refine Or.inr ⟨D, ⟨a0, by rw [h0, a1], by rw [hb, a2], fun n hn => ?_⟩, ?_⟩
    · refine PageRel_at (a3 n hn) (by rw [h1]) (fun i _ => by rw [h2]) (fun x hx => ?_)
      have := h3 (74 + 73 * n + x) (by omega)
      rw [show b + 74 + 73 * n + x = b + (74 + 73 * n + x) by omega]
      exact this
    · refine PageRel_at a4 (by rw [h1]) (fun i _ => by rw [h2]) (fun x hx => ?_)
      have := h3 (1 + x) (by omega)
      rw [show b + 1 + x = b + (1 + x) by omega]
      exact this
/-- the village as it is now is another, the past is as it was -/
theorem RelC_now {M1 M2 N1 N2 : Mem} {np nd nd' D : Nat} (h : RelC M1 M2 np nd D) (h1 : ∀ k, k = 24 ∨ (53 ≤ k ∧ k ≤ 65) → N1 k = M1 k) (h1' : N1 23 0 = M1 23 0) (h2 : N2 100 1 = M2 100 1) (h3 : N2 102 = M2 102) (h4 : ∀ b, b = 0 ∨ 74 ≤ b → N2 101 b = M2 101 b) (hn : RelN N1 N2 np nd' D) : RelC N1 N2 np nd' D := by
  obtain ⟨⟨p1, p2, p3, p4, p5⟩, -, ⟨a0, a1, a2, a3⟩, hk⟩ := h
  refine ⟨⟨p1, p2, by rw [h1', p3], by rw [h2, p4], fun p hp => ?_⟩, hn, ⟨a0, by rw [h1 53 (by omega), a1], by rw [h4 0 (by omega), a2], fun n hn' => ?_⟩, fun k hk' => ?_⟩
  · rw [h1 24 (by omega), h3]; exact p5 p hp
  · exact PageRel_at (a3 n hn') (by rw [h1 (53 + 1) (by omega)]) (fun i _ => by rw [h1 (53 + 2) (by omega)]) (fun x hx => h4 _ (by omega))
  · exact RelK_at (hk k hk') (by rw [h1 _ (by omega)]) (h1 _ (by omega)) (h1 _ (by omega)) (fun x _ => h4 _ (by omega))
theorem begin_rel {F : Nat} (hF : FB ≤ F) {M1 M2 : Mem} {np nd D : Nat} (h : RelC M1 M2 np nd D) (hD : D < 40) : ∃ N1 N2, H_begin F M1 53 23 = some N1 ∧ M_keepPast F M2 = some N2 ∧ RelC N1 N2 np nd (D + 1) ∧ (∀ i, i < nd → GoodD np D (drM N2 1 i)) ∧ (∀ a, a < 53 ∨ 55 < a → N1 a = M1 a) ∧ (∀ a, a ≠ 101 → N2 a = M2 a) ∧ ∀ x, x < 73 → N2 101 (1 + x) = M2 101 (1 + x) := by
  obtain ⟨kn, dr, hx, hm, hg, ekn, edr⟩ := h.views
  obtain ⟨⟨p1, p2, p3, p4, p5⟩, ⟨n1, n2, n3, n4⟩, ⟨a0, a1, a2, a3⟩, hk⟩ := h
  obtain ⟨S, s1, s2, s3, s4, s5, s6⟩ := save_eq hF (h := 53) (D := D) hx (by decide) (by decide) (by omega) a1 (by omega)
  obtain ⟨T, t1, t2, t3, t4, t5⟩ := keepPast_eq hF hD a2
  have f1 : H_isFullFor F M1 53 1 = some 0 := by
    unfold H_isFullFor
    rw [a1, nI_1, if_pos (by rw [lit 40, nI_leI (by omega) (by omega)]; omega)]
  have eS : S 53 0 = nI D := by rw [s2 53 (by omega) (by omega), a1]
  have fx : ∀ x, x < 73 → T 101 (1 + x) = M2 101 (1 + x) := fun x hx => t5 _ (by omega) (by omega)
  have ed : ∀ i, i < 12 → ∀ j, j < 6 → drM T 1 i j = drM M2 1 i j := by
    intro i hi j hj
    unfold drM
    have := fx (1 + 6 * i + j) (by omega)
    rw [show 1 + 1 + 6 * i + j = 1 + (1 + 6 * i + j) by omega, this]
  refine ⟨up S 53 0 (nI (D + 1)), T, ?_, t1, ⟨⟨p1, p2, ?_, by rw [t2 100 (by omega), p4], fun p hp => ?_⟩, ⟨n1, ?_, ?_, fun i hi => ⟨?_, fun j hj => ?_⟩⟩, ⟨by omega, up_same _ _ _ _, t3, fun n hn => ?_⟩, fun k hk' => ?_⟩, fun i hi => ?_, fun a ha => ?_, t2, fx⟩
  · unfold H_begin
    simp only [f1, Option.bind_some, ↓reduceIte, s1, eS, nI_1]
  · rw [up_cell (by omega), s2 23 (by omega) (by omega), p3]
  · rw [up_cell (by omega), s2 24 (by omega) (by omega), t2 102 (by omega)]; exact p5 p hp
  · rw [up_cell (by omega), s2 23 (by omega) (by omega), n2]
  · rw [show (1 : Nat) = 1 + 0 from rfl, fx 0 (by omega)]; exact n3
  · exact GoodD_congr ((n4 i hi).1.mono (by omega)) (ed i (by omega))
  · rw [up_cell (by omega), s2 _ (by omega) (by omega), (n4 i hi).2 j hj, ed i (by omega) j hj]
  · by_cases e : n = D
    · subst e
      refine ⟨nd, n1, ?_, ?_, fun i hi => ?_⟩
      · rw [up_cell (by omega)]; exact s4
      · have := t4 0 (by omega)
        rw [Nat.add_zero] at this
        rw [Nat.zero_add, this]; exact n3
      · have ed2 : ∀ j, j < 6 → drM T (0 + 74 + 73 * n) i j = drM M2 1 i j := by
          intro j hj
          unfold drM
          have := t4 (1 + 6 * i + j) (by omega)
          rw [show 0 + 74 + 73 * n + 1 + 6 * i + j = 74 + 73 * n + (1 + 6 * i + j) by omega, this, show 1 + (1 + 6 * i + j) = 1 + 1 + 6 * i + j by omega]
        refine ⟨GoodD_congr (n4 i hi).1 ed2, ?_⟩
        rw [up_cell (by omega), s6 i hi, pk6_congr ed2, edr]
    · refine PageRel_at (a3 n (by omega)) ?_ (fun i hi => ?_) (fun x hx => ?_)
      · rw [up_cell (by omega), s3 n e]
      · rw [up_cell (by omega), s5 _ (by omega)]
      · rw [t5 _ (by omega) (by omega)]
  · refine RelK_at (hk k hk') ?_ ?_ ?_ (fun x _ => t5 _ (by omega) (by omega))
    · rw [up_cell (by omega), s2 _ (by omega) (by omega)]
    · rw [up_cell (by omega), s2 _ (by omega) (by omega)]
    · rw [up_cell (by omega), s2 _ (by omega) (by omega)]
  · exact GoodD_congr (n4 i hi).1 (ed i (by omega))
  · rw [up_cell (by omega), s2 a (by omega) (by omega)]
theorem unpack_eq {F : Nat} {N : Mem} {a np w : Nat} {d : Nat → Int32} (gd : GoodD np w d) (hnp : np ≤ 6) (hw : w ≤ 40) : ∃ U, D_unpack F N a (pk6 d) = some U ∧ (∀ b, b ≠ a → U b = N b) ∧ ∀ j, j < 6 → U a j = d j := by
  obtain ⟨u0, u1, u2, u3, u5, u4⟩ := gd.pk hnp hw
  refine ⟨up (up (up (up (up (up (up (up N a 0 (d 0)) a 1 (d 1)) a 2 (d 2)) a 3 (d 3)) a 4 0) a 5 0) a 5 (d 5)) a 4 (d 4), ?_, fun b hb => ?_, fun j hj => ?_⟩
  · unfold D_unpack D_become
    rw [u0, u1, u2, u3, u4, u5]
    rfl
  · simp only [up_cell hb]
  · rcases (show j = 0 ∨ j = 1 ∨ j = 2 ∨ j = 3 ∨ j = 4 ∨ j = 5 by omega) with rfl | rfl | rfl | rfl | rfl | rfl <;> simp [up_eqn]
/-- the class's village, as the page n says -/
theorem goBack_eq {F : Nat} (hF : FB ≤ F) {M : Mem} {np D n nd w : Nat} {dr : Nat → Nat → Int32} (hD : D ≤ 40) (hn : n ≤ D) (hM : M 53 0 = nI D) (hnp : np ≤ 6) (hw : w ≤ 40) (hnd : nd ≤ 12) (hc : M 54 n = nI nd) (hp : ∀ i, i < nd → GoodD np w (dr i) ∧ M 55 (12 * n + i) = pk6 (dr i)) : ∃ M', H_goBack F M 53 (nI n) 23 = some M' ∧ (∀ a, a ≠ 53 → a ≠ 23 → ¬ (26 ≤ a ∧ a ≤ 37) → M' a = M a) ∧ (∀ b, b ≠ 0 → M' 53 b = M 53 b) ∧ M' 53 0 = nI n ∧ M' 23 0 = M 23 0 ∧ M' 23 1 = nI nd ∧ ∀ i, i < nd → ∀ j, j < 6 → M' (26 + i) j = dr i j := by
  have hF' := FBL hF
  unfold H_goBack
  rw [if_neg (nI_nlt0 (by omega)), hM, if_pos (by rw [nI_leI (by omega) (by omega)]; omega), ard_nI (by show n < 41; omega), up_cell (by omega), Option.bind_some, hc]
  obtain ⟨M', h1, h2⟩ := lpE (fun m i (N : Mem) => L_H_goBack_30 F 53 (nI n) 23 m N (nI i)) (fun i N => (∀ a, a ≠ 53 → a ≠ 23 → ¬ (26 ≤ a ∧ a ≤ 37) → N a = M a) ∧ (∀ b, b ≠ 0 → N 53 b = M 53 b) ∧ N 53 0 = nI n ∧ N 23 0 = M 23 0 ∧ N 23 1 = nI nd ∧ ∀ i', i' < i → ∀ j, j < 6 → N (26 + i') j = dr i' j) (fun N => some N) nd
    (fun m i N hi hI => by
      obtain ⟨i1, i2, i3, i4, i5, i6⟩ := hI
      have hcc : (nI nd ≤ nI i) = False := by rw [nI_leI (by omega) (by omega)]; simp; omega
      have ex : nI n * 12 + nI i = nI (12 * n + i) := by rw [lit 12, pk_mul, nI_add, Nat.mul_comm]
      obtain ⟨gd, gp⟩ := hp i hi
      have e55 : N 55 (12 * n + i) = pk6 (dr i) := by rw [i1 55 (by omega) (by omega) (by omega), gp]
      have hl : ln (53 + 2) = 492 := by decide
      obtain ⟨U, hu, hU1, hU2⟩ := unpack_eq (F := F) (N := N) (a := 26 + i) gd hnp hw
      refine ⟨U, ?_, ?_, ?_, ?_, ?_, ?_, ?_⟩
      · show B_H_goBack_30 F 53 (nI n) 23 _ N (nI i) = _
        unfold B_H_goBack_30
        have e2 : ard N (53 + 2) (nI (12 * n + i)) = some (pk6 (dr i)) := by rw [ard_nI (by rw [hl]; omega), e55]
        have e3 : idx (nI i) (ln (23 + 2)) = some i := idx_nI (k := i) (n := 12) (by omega) (by omega)
        simp only [i5, hcc, ↓reduceIte, e3, Option.bind_some, ex, e2, nI_1]
        rw [show 23 + 2 + 1 + i = 26 + i by omega, hu]
        rfl
      · intro a b1 b2 b3
        rw [hU1 a (by omega)]
        exact i1 a b1 b2 b3
      · intro b hb
        rw [hU1 53 (by omega)]
        exact i2 b hb
      · rw [hU1 53 (by omega)]; exact i3
      · rw [hU1 23 (by omega)]; exact i4
      · rw [hU1 23 (by omega)]; exact i5
      · intro i' hi' j hj
        by_cases e : i' = i
        · subst e
          exact hU2 j hj
        · rw [hU1 (26 + i') (by omega)]
          exact i6 i' (by omega) j hj)
    (fun m N hI => by
      show B_H_goBack_30 F 53 (nI n) 23 _ N (nI nd) = _
      unfold B_H_goBack_30
      rw [hI.2.2.2.2.1, if_pos (by rw [nI_leI (by omega) (by omega)]; omega)])
    nd 0 F (up (up M 53 0 (nI n)) 23 1 (nI nd)) (by omega) (by omega)
    ⟨fun a b1 b2 _ => by rw [up_cell b2, up_cell b1], fun b hb => by rw [up_cell (by omega), up_ne (by omega)], by rw [up_cell (by omega), up_same], by rw [up_ne (by omega), up_cell (by omega)], up_same _ _ _ _, fun i' hi' => absurd hi' (by omega)⟩
  refine ⟨M', ?_, h2⟩
  rw [nI_0] at h1
  rw [h1]
  rfl
