/-! clear, both -/
theorem seen_tb {nd : Nat} {dr : Nat → Nat → Int32} {z : Nat → Nat} (hb : BN nd dr) {n : Nat} (hz : ∀ i, i < n → z i < nd) : ∀ b, b ≤ n → ∀ a, a < b → tb (seenS dr z b) (whoN dr (z a)) = true := by
  intro b
  induction b with
  | zero => intro _ a ha; omega
  | succ b ih =>
    intro hbn a ha
    obtain ⟨p, q, hp, hq, ep, eq, wp, wq⟩ := hb (z b) (hz b (by omega))
    rw [seenS_succ, tb_or, ep, tb_1 (by omega)]
    by_cases e : a = b
    · subst e; rw [wp]; simp
    · rw [ih (by omega) a (by omega)]; rfl
theorem ring_distinct {nd n : Nat} {dr : Nat → Nat → Int32} {z : Nat → Nat} (hb : BN nd dr) (hz : ∀ i, i < n → z i < nd) (h : allF (PM dr z n) n 0 = true) : ∀ a b, a < b → b < n → z a ≠ z b := by
  intro a b hab hbn e
  have h1 := (allF_iff n 0).mp h b (by omega) (by omega)
  simp only [PM, cA, Bool.and_eq_true, Bool.not_eq_true'] at h1
  have h2 := seen_tb hb hz b (by omega) a hab
  rw [e, h1.1.1.2] at h2
  exact absurd h2 (by simp)
theorem clS_good {np nd w n m : Nat} {dr : Nat → Nat → Int32} {z : Nat → Nat} (hg : ∀ i, i < nd → GoodD np w (dr i)) (hk : KN nd dr) (hz : ∀ i, i < n → z i < nd) (hd : ∀ a b, a < b → b < n → z a ≠ z b) (hm : ∀ i, i < n → m ≤ kN dr (z i)) : ∀ i, i ≤ n → (∀ y, y < nd → GoodD np w (clS dr z m i y)) ∧ ∀ a, i ≤ a → a < n → clS dr z m i (z a) = dr (z a) := by
  intro i
  induction i with
  | zero => intro _; exact ⟨hg, fun _ _ _ => rfl⟩
  | succ i ih =>
    intro hi
    obtain ⟨i1, i2⟩ := ih (by omega)
    refine ⟨fun y hy => ?_, fun a ha han => ?_⟩
    · show GoodD np w (sd (clS dr z m i) (z i) 3 (clS dr z m i (z i) 3 - nI m) y)
      by_cases e : y = z i
      · subst e
        have e3 : clS dr z m i (z i) 3 - nI m = nI (kN dr (z i) - m) := by
          rw [i2 i (by omega) (by omega), (hk (z i) hy).1]
          exact pk_sub (by rw [← (show kN dr (z i) = kN dr (z i) from rfl)]; exact hm i (by omega))
        obtain ⟨a, b, c, k, v, t, g0, g1, g2, g3, g4, g5, ha, hb, hab, hcc, hkk, hv, ht⟩ := i1 (z i) hy
        have := (hk (z i) hy).2
        exact ⟨a, b, c, kN dr (z i) - m, v, t, by rw [sd_ne (by omega), g0], by rw [sd_ne (by omega), g1], by rw [sd_ne (by omega), g2], by rw [sd_same, e3], by rw [sd_ne (by omega), g4], by rw [sd_ne (by omega), g5], ha, hb, hab, hcc, by omega, hv, ht⟩
      · rw [sd_row e]; exact i1 y hy
    · show sd (clS dr z m i) (z i) 3 (clS dr z m i (z i) 3 - nI m) (z a) = _
      rw [sd_row (fun e => hd i a (by omega) han e.symm)]
      exact i2 a (by omega) han
theorem op_clear {F : Nat} (hF : FB ≤ F) (M1 M2 : Mem) (a0 : Int32) (hR : Rel M1 M2) : ∃ (r : Int32) (M1' : Mem) (M2' : Mem), K_clear F M1 a0 = some (r, M1') ∧ M_clear F M2 a0 = some (r, M2') ∧ Rel M1' M2' := by
  have hF' := FBL hF
  obtain ⟨np, nd, D, hc⟩ := hR.2.2.2
  obtain ⟨kn, dr, hx, hm, hg, -, edr⟩ := hc.views
  have hnp := hg.2.1
  have hnd := hg.2.2.1
  have hno : ∀ h : (a0 < 0 ∨ (0 ≤ a0 ∧ nI 6 ≤ a0)), ∃ (r : Int32) (M1' : Mem) (M2' : Mem), K_clear F M1 a0 = some (r, M1') ∧ M_clear F M2 a0 = some (r, M2') ∧ Rel M1' M2' := by
    intro h
    have e := isRow_no (M1 := M1) (M2 := M2) (F := F) h
    simp only [K_clear, M_clear, e.1, e.2, ob_some, ↓reduceIte]
    exact ⟨_, _, _, rfl, rfl, hR⟩
  rcases ixc a0 (n := 6) (by omega) with h | h | ⟨r, hr, rfl⟩
  · exact hno (Or.inl h)
  · exact hno (Or.inr h)
  have e := isRow_yes (M1 := M1) (M2 := M2) (F := F) hr
  have hl : r < ln 103 := hr
  have z01 : ((0 : Int32) ≤ -1) = False := by decide
  rcases hR.2.1 r hr with ⟨p1, p2⟩ | ⟨n, hn, p1, p2, p3⟩
  · simp only [K_clear, M_clear, e.1, e.2, miss_yes p1, ard_nI hl, p2, z01, idx_nI hr (by omega : 6 ≤ 1000000), ob_some, ↓reduceIte, i10, ref1, fin1]
    exact ⟨_, _, _, rfl, rfl, refuse_rel hR (by omega) (by omega)⟩
  have hge : ((0 : Int32) ≤ nI n) = True := eq_true (nI_ge0 (by omega))
  have kl := kclearL (F := F) hx (ln_row hr) hn p1 n 0 F (by omega) (by omega)
  have ml := mdraftsL (F := F) hm hr hn p2 n 0 F (by omega) (by omega)
  rw [nI_0] at kl ml
  have hok : allF (okD nd (M1 (1 + 1 + 2 * r + 1))) n 0 = allF (okD nd (fun i => M2 104 (40 * r + i))) n 0 := by
    rw [Bool.eq_iff_iff, allF_iff, allF_iff]
    constructor
    · intro h i h1 h2; have := h i h1 h2; unfold okD at this ⊢; rw [p3 i (by omega)] at this; exact this
    · intro h i h1 h2; have := h i h1 h2; unfold okD at this ⊢; rw [p3 i (by omega)]; exact this
  rw [hok] at kl
  have mD : M_areDrafts F M2 (nI r) = some (if allF (okD nd (fun i => M2 104 (40 * r + i))) n 0 = true then 1 else 0) := by
    unfold M_areDrafts
    rw [ml, ob_some]
    split <;> rfl
  by_cases q : allF (okD nd (fun i => M2 104 (40 * r + i))) n 0 = true
  · -- all are drafts
    have hz2 : ∀ i, i < n → M2 104 (40 * r + i) = nI (M2 104 (40 * r + i)).toNatClampNeg ∧ (M2 104 (40 * r + i)).toNatClampNeg < nd := by
      intro i hi
      have := (allF_iff n 0).mp q i (by omega) (by omega)
      simp only [okD, Bool.not_eq_true', decide_eq_false_iff_not] at this
      rcases one_cases (M2 104 (40 * r + i)) (n := nd) (by omega) with h | ⟨-, y, hy, ey⟩
      · exact absurd h this
      · rw [ey, cl (by omega)]; exact ⟨rfl, hy⟩
    obtain ⟨z, hzz⟩ : ∃ z : Nat → Nat, ∀ i, z i = (M2 104 (40 * r + i)).toNatClampNeg := ⟨_, fun _ => rfl⟩
    have hz : ∀ i, i < n → M2 104 (40 * r + i) = nI (z i) ∧ z i < nd := fun i hi => by rw [hzz]; exact hz2 i hi
    have hz1 : ∀ i, i < n → M1 (1 + 1 + 2 * r + 1) i = nI (z i) ∧ z i < nd := fun i hi => ⟨by rw [p3 i hi, (hz i hi).1], (hz i hi).2⟩
    have rX := isRing_X hF hx hg.bn (ln_row hr) hn hz1
    have rM := isRing_M hF hm hg.bn hr hn p2 hz
    simp only [K_clear, M_clear, e.1, e.2, miss_no (show n ≤ 80 by omega) p1, ard_nI hl, p2, hge, idx_nI hr (by omega : 6 ≤ 1000000), ob_some, ↓reduceIte, i10, kl, mD, q, Sum.elim_inr, p1, rX, rM, i10c, full_X hc.2.2.1.1 hc.2.2.1.2.1, full_M hc.2.2.1.1 hc.2.2.1.2.2.1]
    by_cases k1 : (3 ≤ n ∧ n ≤ 6) ∧ allF (PM dr z n) n 0 = true
    · by_cases k5 : D = 40
      · simp only [k1, k5, and_self, not_true_eq_false, ↓reduceIte]
        exact ⟨_, _, _, rfl, rfl, hR⟩
      have hD := hc.2.2.1.1
      obtain ⟨N1, N2, b1, b2, b3, b4, b5, b6, b7⟩ := begin_rel hF hc (by omega)
      obtain ⟨kn', dr', hx', hm', hg', ekn', edr'⟩ := b3.views
      have hdr : ∀ i, i < nd → ∀ j, j < 6 → dr' i j = dr i j := fun i hi j hj => by
        rw [edr', edr]
        unfold drM
        have := b7 (1 + 6 * i + j) (by omega)
        rw [show 1 + 1 + 6 * i + j = 1 + (1 + 6 * i + j) by omega, this]
      have hx2 : VX N1 23 np nd kn' dr := VX_congr hx' (fun i hi j hj => (hdr i hi j hj).symm)
      have hm2 : VM N2 np nd kn' dr := VM_congr hm' (fun i hi j hj => (hdr i hi j hj).symm)
      have hk := hg.kn
      have hzN1 : ∀ i, i < n → N1 (1 + 1 + 2 * r + 1) i = nI (z i) ∧ z i < nd := fun i hi => by rw [b5 _ (by omega)]; exact hz1 i hi
      have hzN2 : ∀ i, i < n → N2 104 (40 * r + i) = nI (z i) ∧ z i < nd := fun i hi => by rw [b6 _ (by omega)]; exact hz i hi
      have h103 : N2 103 r = nI n := by rw [b6 _ (by omega), p2]
      have rX2 := isRing_X hF hx2 hg.bn (ln_row hr) hn hzN1
      rw [if_pos k1] at rX2
      have mX := clearMin_X (F := F) hx2 hk (ln_row hr) k1.1.2 hzN1 (n - 1) 1 F (by omega) (by omega)
      have mM := clearMin_M (F := F) hm2 hk hr k1.1.2 h103 hzN2 n 0 F (by omega) (by omega)
      have z0 := hzN1 0 (by omega)
      have k0 := hk (z 0) z0.2
      have e99 : nI (mnN dr z 1) = dr (z 0) 3 := by
        show nI (if 99 ≤ kN dr (z 0) then 99 else kN dr (z 0)) = _
        rw [k0.1]
        congr 1
        have := k0.2
        by_cases qq : 99 ≤ kN dr (z 0)
        · rw [if_pos qq]; unfold kN at this qq ⊢; omega
        · rw [if_neg qq]
      rw [e99] at mX
      obtain ⟨P1, s1, s2, s3⟩ := clearSub_X hF (m := mnN dr z n) hx2 (ln_row hr) (by omega) k1.1.2 hzN1
      obtain ⟨P2, t1, t2, t3, t4⟩ := clearSub_M hF (m := mnN dr z n) hm2 hr k1.1.2 h103 hzN2
      have a0' : ard N1 (1 + 1 + 2 * r + 1) 0 = some (nI (z 0)) := by
        have := ard_nI (M := N1) (a := 1 + 1 + 2 * r + 1) (k := 0) (by rw [ln_row hr]; omega)
        rw [z0.1] at this
        exact this
      have x0 : idx (nI (z 0)) (ln (23 + 2)) = some (z 0) := idx_nI (n := 12) (by have := z0.2; omega) (by omega)
      have cR : V_clearRing F N1 23 (1 + 1 + 2 * r + 1) (nI n) = some (nI (mnN dr z n), P1) := by
        unfold V_clearRing
        have h10 : ((1 : Int32) = 0) = False := by decide
        have e3 := hx2.2.2.2.2.2.2.2 (z 0) z0.2 3 (by omega)
        have mX' : L_V_clearRing_26 F N1 23 (1 + 1 + 2 * r + 1) (nI n) F (dr (z 0) 3) 1 = some (nI (mnN dr z n)) := mX
        simp only [rX2, ob_some, h10, ↓reduceIte, a0', x0, e3, mX', s1]
      have pN : N1 (1 + 1 + 2 * r) 1 = nI n := by rw [b5 _ (by omega), p1]
      have mM' : L_M_clear_68 F N2 (nI r) F 99 0 = some (nI (mnN dr z n)) := mM
      simp only [k1, k5, and_self, not_true_eq_false, not_false_eq_true, ↓reduceIte, b1, b2, ob_some, pN, cR, mM', t1]
      have hzl : ∀ i, i < n → z i < nd := fun i hi => (hz i hi).2
      have hgd := clS_good (np := np) (w := D + 1) (m := mnN dr z n) (fun i hi => GoodD_congr (hg'.2.2.2.1 i hi) (fun j hj => (hdr i hi j hj).symm)) hk hzl (ring_distinct hg.bn hzl k1.2) (fun i hi => mnN_min dr z n i hi) n (Nat.le_refl _)
      refine ⟨_, _, _, rfl, rfl, Rel_of_C hR (fun a ha => ?_) (fun a ha => ?_) (RelC_views b3 (fun a ha => s3 a (by omega)) t3 (fun b hb => t4 b (by omega)) s2 t2 hgd.1)⟩
      · rw [s3 a (by omega), b5 a (by omega)]
      · rw [t3 a ha, b6 a ha]
    · simp only [k1, not_false_eq_true, ↓reduceIte]
      exact ⟨_, _, _, rfl, rfl, hR⟩
  · simp only [K_clear, M_clear, e.1, e.2, miss_no (show n ≤ 80 by omega) p1, ard_nI hl, p2, hge, idx_nI hr (by omega : 6 ≤ 1000000), ob_some, ↓reduceIte, i10, kl, mD, q, Sum.elim_inl, fin3, Bool.false_eq_true]
    exact ⟨_, _, _, rfl, rfl, refuse_rel hR (by omega) (by omega)⟩
