/-! pairs, the class's side and both -/
def SkI (nd : Nat) (dr d : Nat → Nat → Int32) (l : List (Nat × Nat)) (k : Nat) : Prop := KN nd d ∧ (∀ i j : Nat, j ≠ 3 → d i j = dr i j) ∧ ∀ k' a b : Nat, k ≤ k' → l[k']? = some (a, b) → ∀ t, betwN d (nI a) (nI b) t nd = betwN dr (nI a) (nI b) t nd ∧ betwN d (nI b) (nI a) t nd = betwN dr (nI b) (nI a) t nd
theorem pairsL_X {F : Nat} (hF : FB ≤ F) {M : Mem} {np nd w : Nat} {kn : Nat → Int32} {dr : Nat → Nat → Int32} {l : List (Nat × Nat)} (h : VX M 38 np nd kn dr) (hgv : GV np nd w kn dr) (hg : GX M l) (hl : l.length ≤ 15) (hi : PInv np np 0 l) : ∃ N, L_K_pairs_26 F F M 0 0 = some (fo (fun k (s : Int32) => s + gval nd kn dr l k) l.length 0 0, N) ∧ ∀ a, ¬ (38 ≤ a ∧ a ≤ 52) → N a = M a := by
  have hF' := FBL hF
  have hnp := hgv.2.1
  obtain ⟨s', n1, n2, n3, n4⟩ := lpE (fun m k (s : Int32 × Mem) => L_K_pairs_26 F m s.2 s.1 (nI k)) (fun k s => s.1 = fo (fun k (s : Int32) => s + gval nd kn dr l k) k 0 0 ∧ (∃ d, VX s.2 38 np nd kn d ∧ SkI nd dr d l k) ∧ ∀ a, ¬ (38 ≤ a ∧ a ≤ 52) → s.2 a = M a) (fun s => some s) l.length
    (fun m k s hk' hI => by
      obtain ⟨x1, N⟩ := s
      obtain ⟨i1, ⟨d, i2, k1, k2, k3⟩, i3⟩ := hI
      simp only at i1 i2 i3
      have hc : (nI l.length ≤ nI k) = False := by rw [nI_leI (by omega) (by omega)]; simp; omega
      obtain ⟨⟨a, b⟩, eab⟩ : ∃ x, l[k]? = some x := ⟨l[k], List.getElem?_eq_getElem hk'⟩
      obtain ⟨e1, e2⟩ := hg.2 k a b eab
      obtain ⟨hab, hb, -⟩ := hi.1 k a b eab
      have eg : gval nd kn dr l k = nI (gvT nd kn dr a b) := by unfold gval; rw [eab]
      obtain ⟨Q, q1, q2, q3⟩ := netTwo_X hF i2 k1 (nI a) (nI b)
      have hw : WN np nd (nst nd d (nI a) (nI b) 2) := fun i hi' => by
        obtain ⟨a', b', c', k', v', t', g0, g1, g2, g3, g4, g5, ha', -⟩ := hgv.2.2.2.1 i hi'
        exact ⟨a', ha', by rw [nst_ne (by omega), k2 i 0 (by omega), g0]⟩
      obtain ⟨P, p1, p2, p3⟩ := payTwo_X hF q2 hw hgv.2.2.2.2 (nI a) (nI b)
      have hs : ∀ i, i < nd → d i 2 = nI 0 ∨ d i 2 = nI 1 ∨ d i 2 = nI 2 := fun i hi' => by rw [k2 i 2 (by omega)]; exact hgv.sort i hi'
      rw [pay_sum k1 (by omega) (by omega) (by omega) hs, gvT_congr (fun t => k3 k a b (Nat.le_refl _) eab t)] at p1
      have r1 : ard N 71 (nI k) = some (nI a) := by rw [ard_nI (by show k < 15; omega), i3 _ (by omega), e1]
      have r2 : ard N 72 (nI k) = some (nI b) := by rw [ard_nI (by show k < 15; omega), i3 _ (by omega), e2]
      have r3 : ard Q 71 (nI k) = some (nI a) := by rw [ard_nI (by show k < 15; omega), q3 _ (by omega), i3 _ (by omega), e1]
      have r4 : ard Q 72 (nI k) = some (nI b) := by rw [ard_nI (by show k < 15; omega), q3 _ (by omega), i3 _ (by omega), e2]
      refine ⟨(x1 + nI (gvT nd kn dr a b), P), ?_, ?_, ⟨_, p2, payD_KN (nst_KN k1 _ _ 2) _ _, fun i j hj => ?_, fun k' x y hk2 exy t => ?_⟩, fun c hc' => ?_⟩
      · show B_K_pairs_26 F _ N x1 (nI k) = _
        unfold B_K_pairs_26
        rw [i3 70 (by omega), hg.1]
        simp only [hc, ↓reduceIte, r1, r2, ob_some, q1, r3, r4, p1, nI_1]
      · rw [fo_succ, Nat.zero_add, eg, ← i1]
      · unfold payD
        rw [if_neg (fun z => hj z.1), nst_ne hj, k2 i j hj]
      · obtain ⟨hxy, hy, -⟩ := hi.1 k' x y exy
        have ne1 : ¬ (nI x = nI a ∧ nI y = nI b) := fun e => by
          have f1 := nI_inj (a := x) (b := a) (by omega) (by omega) e.1
          have f2 := nI_inj (a := y) (b := b) (by omega) (by omega) e.2
          subst f1; subst f2
          have := hi.2 k k' x y eab exy
          omega
        have ne2 : ¬ (nI x = nI b ∧ nI y = nI a) := fun e => by
          have f1 := nI_inj (a := x) (b := b) (by omega) (by omega) e.1
          have f2 := nI_inj (a := y) (b := a) (by omega) (by omega) e.2
          omega
        have kk := k3 k' x y (by omega) exy t
        constructor
        · rw [pay_other ne1 ne2, nst_other k1 ne1 ne2, kk.1]
        · rw [pay_other (fun e => ne2 ⟨e.2, e.1⟩) (fun e => ne1 ⟨e.2, e.1⟩), nst_other k1 (fun e => ne2 ⟨e.2, e.1⟩) (fun e => ne1 ⟨e.2, e.1⟩), kk.2]
      · simp only
        rw [p3 c (by omega), q3 c (by omega), i3 c hc'])
    (fun m s hI => by
      show B_K_pairs_26 F _ s.2 s.1 (nI l.length) = _
      unfold B_K_pairs_26
      rw [hI.2.2 70 (by omega), hg.1, if_pos (by rw [nI_leI (by omega) (by omega)]; omega)])
    l.length 0 F (0, M) (by omega) (by omega) ⟨rfl, ⟨dr, h, hgv.kn, fun _ _ _ => rfl, fun _ _ _ _ _ _ => ⟨rfl, rfl⟩⟩, fun _ _ => rfl⟩
  rw [nI_0] at n1
  simp only at n1
  exact ⟨s'.2, by rw [n1, ← n2], n4⟩
theorem op_pairs {F : Nat} (hF : FB ≤ F) (M1 M2 : Mem) (hR : Rel M1 M2) : ∃ (r : Int32) (M1' : Mem) (M2' : Mem), K_pairs F M1 = some (r, M1') ∧ M_pairs F M2 = some (r, M2') ∧ Rel M1' M2' := by
  obtain ⟨np, nd, D, hc⟩ := hR.2.2.2
  obtain ⟨kn, dr, hx, hm, hg, -, -⟩ := hc.views
  obtain ⟨N1, a1, a2, a3, a4⟩ := gather_X hF hx hg.bn
  obtain ⟨N2, b1, b2, b3, b4⟩ := gather_M hF hm hg.bn
  have hi := plist_inv (opB nd dr) np
  generalize plist (opB nd dr) np = l at a2 a3 b2 hi
  obtain ⟨S, s1, s2, s3⟩ := like_eq hF (VX_of hx (N := N1) (fun a h1 h2 => a4 a (by omega)))
  have gS : GX S l := ⟨by rw [s3 70 (by omega)]; exact a2.1, fun k a b hk => by rw [s3 71 (by omega), s3 72 (by omega)]; exact a2.2 k a b hk⟩
  obtain ⟨P1, p1, p2⟩ := pairsL_X hF s2 hg gS a3 hi
  have vm : VM (up N2 100 7 0) np nd kn dr := VM_of hm (by rw [up_ne (by omega), b4 1 (by omega)]) (by rw [up_cell (by omega), b3 _ (by omega) (by omega)]) (by rw [up_cell (by omega), b3 _ (by omega) (by omega)])
  have gM : GM (up N2 100 7 0) l := ⟨by rw [up_ne (by omega)]; exact b2.1, fun k a b hk => by rw [up_cell (by omega)]; exact b2.2 k a b hk⟩
  obtain ⟨P2, q1, q2, q3, q4⟩ := pairsL_M hF vm hg.kn gM a3 (fun k a b hk => by have := hi.1 k a b hk; omega) (up_same _ _ _ _)
  unfold K_pairs M_pairs
  have u1 : ∀ v, up P1 0 11 v 70 0 = nI l.length := fun v => by rw [up_cell (by omega), p2 70 (by omega)]; exact gS.1
  have u2 : P2 100 26 = nI l.length := by rw [q4 26 (by omega)]; exact gM.1
  simp only [a1, b1, ob_some, s1, p1, q1, u1, u2]
  refine ⟨_, _, _, rfl, rfl, Rel_scr hR (fun a h0 ha => ?_) (fun b hb => ?_) (fun a h1 h2 => ?_) (fun b hb => ?_) ?_⟩
  · rw [up_cell h0, p2 a (by omega), s3 a (by omega), a4 a (by omega)]
  · rw [up_ne (by omega), p2 0 (by omega), s3 0 (by omega), a4 0 (by omega)]
  · rw [q3 a (by omega), up_cell (by omega), b3 a (by omega) (by omega)]
  · rw [q4 b (by omega), up_ne (by omega), b4 b (by omega)]
  · rw [up_same, q2]
