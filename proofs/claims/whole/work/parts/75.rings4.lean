/-! rings: the class's search, from its beginning -/
def gOf (s : Int32) (dr : Nat → Nat → Int32) : Nat → Nat → Nat := fun j i => if j = 0 then whoN dr i else if j = 1 then whomN dr i else if dr i 2 = s then kN dr i else 0
theorem gOf_0 (s : Int32) (dr : Nat → Nat → Int32) (i : Nat) : gOf s dr 0 i = whoN dr i := rfl
theorem gOf_1 (s : Int32) (dr : Nat → Nat → Int32) (i : Nat) : gOf s dr 1 i = whomN dr i := rfl
theorem gOf_2 (s : Int32) (dr : Nat → Nat → Int32) (i : Nat) : gOf s dr 2 i = if dr i 2 = s then kN dr i else 0 := rfl
theorem LK_of {np nd w : Nat} {dr : Nat → Nat → Int32} (s : Int32) (hnp : np ≤ 6) (hg : ∀ i, i < nd → GoodD np w (dr i)) : LK s nd dr (gOf s dr) := by
  intro i hi
  obtain ⟨a, b, c, k, v, t, d0, d1, d2, d3, -, -, ha, hb, hab, hc, hk, -⟩ := hg i hi
  have e3 : kN dr i = k := by unfold kN; rw [d3, cl (by omega)]
  rw [gOf_0, gOf_1, gOf_2, e3, d3]
  have z : (nI k ≤ (0 : Int32)) ↔ k = 0 := by rw [← nI_0, nI_leI (by omega) (by omega)]; omega
  refine ⟨by unfold whoN; rw [d0, cl (by omega)], by unfold whomN; rw [d1, cl (by omega)], ?_, ?_⟩
  · rw [z]
    by_cases q : dr i 2 = s
    · rw [if_pos q]
      constructor
      · rintro (h | h)
        · exact h
        · exact absurd q h
      · exact Or.inl
    · rw [if_neg q]
      exact ⟨fun _ => rfl, fun _ => Or.inr q⟩
  · by_cases q : dr i 2 = s
    · rw [if_pos q]
      exact fun _ => ⟨rfl, q⟩
    · rw [if_neg q]
      exact fun h => absurd h (by omega)
theorem Gd_of {np nd w : Nat} {dr : Nat → Nat → Int32} (s : Int32) (hnp : np ≤ 6) (hnd : nd ≤ 12) (hg : ∀ i, i < nd → GoodD np w (dr i)) : Gd (gOf s dr) nd np := by
  refine ⟨hnp, hnd, fun i hi => ?_⟩
  obtain ⟨a, b, c, k, v, t, d0, d1, d2, d3, -, -, ha, hb, hab, hc, hk, -⟩ := hg i hi
  have e3 : kN dr i = k := by unfold kN; rw [d3, cl (by omega)]
  have e0 : whoN dr i = a := by unfold whoN; rw [d0, cl (by omega)]
  have e1 : whomN dr i = b := by unfold whomN; rw [d1, cl (by omega)]
  rw [gOf_0, gOf_1, gOf_2, e0, e1, e3]
  refine ⟨ha, hb, hab, ?_⟩
  split <;> omega
theorem search0_X {F v : Nat} (hF : FB ≤ F) (s : Int32) (M : Mem) : ∃ N, L_G_search_12 F v s F M 0 = some N ∧ (∀ a, a ≠ 68 → N a = M a) ∧ ∀ p, p < 6 → N 68 p = 0 := by
  have hF' := FBL hF
  obtain ⟨N, n1, n2, n3⟩ := lpE (fun m k (N : Mem) => L_G_search_12 F v s m N (nI k)) (fun k N => (∀ a, a ≠ 68 → N a = M a) ∧ ∀ p, p < k → N 68 p = 0) (fun N => some N) 6
    (fun m k N hk hI => by
      obtain ⟨i1, i2⟩ := hI
      refine ⟨up N 68 k 0, ?_, fun a ha => by rw [up_cell ha, i1 a ha], fun p hp => ?_⟩
      · show B_G_search_12 F v s _ N (nI k) = _
        unfold B_G_search_12
        have c1 : ((6 : Int32) ≤ nI k) = False := by rw [show (6 : Int32) = nI 6 from rfl, nI_leI (by omega) (by omega)]; simp; omega
        simp only [c1, ↓reduceIte, awr_nI (M := N) (a := 68) (k := k) (by show k < 6; omega), ob_some, nI_1]
      · by_cases e : p = k
        · subst e
          rw [up_same]
        · rw [up_ne (by omega), i2 p (by omega)])
    (fun m N hI => by
      show B_G_search_12 F v s _ N (nI 6) = _
      unfold B_G_search_12
      rw [if_pos (by decide)])
    6 0 F M (by omega) (by omega) ⟨fun _ _ => rfl, fun p hp => absurd hp (by omega)⟩
  rw [nI_0] at n1
  exact ⟨N, n1, n2, n3⟩
theorem rings_X {F v : Nat} (hF : FB ≤ F) (hv : v = 23 ∨ v = 38) {M : Mem} {np nd : Nat} {kn : Nat → Int32} {dr : Nat → Nat → Int32} {g : Nat → Nat → Nat} {s : Int32} (hx : VX M v np nd kn dr) (lk : LK s nd dr g) (hg : Gd g nd np) : ∃ N, G_search F M v s = some N ∧ AbsX g N (rest g nd [] 0) ∧ ∀ a, a < 66 ∨ 69 < a → N a = M a := by
  have hF' := FBL hF
  have hnd := hg.2.1
  have hnp := hg.1
  have u0 : ∀ a, a ≠ 66 → up (up M 66 0 0) 66 1 0 a = M a := fun a ha => by rw [up_cell ha, up_cell ha]
  obtain ⟨U, u1, u2, u3⟩ := search0_X hF (v := v) s (up (up M 66 0 0) 66 1 0)
  have hxU : VX U v np nd kn dr := VX_of hx (fun a h1 h2 => by rw [u2 a (by omega), u0 a (by omega)])
  have haU : AbsX g U [] := ⟨by rw [u2 66 (by omega), up_ne (by omega), up_same]; rfl, by rw [u2 66 (by omega), up_same]; show _ = nI (99 * 0); rfl, Nat.zero_le _, fun h => absurd rfl h, fun p hp => by rw [u3 p hp]; rfl⟩
  obtain ⟨N, n1, n2, n3⟩ := lpE (fun m k (N : Mem) => L_G_search_33 F v s m N (nI k)) (fun k N => AbsX g N (kids (kid g nd []) k 0) ∧ ∀ a, a < 66 ∨ 69 < a → N a = M a) (fun N => some N) nd
    (fun m k N hk hI => by
      obtain ⟨i1, i3⟩ := hI
      have hxN : VX N v np nd kn dr := VX_of hx (fun a h1 h2 => i3 a (by omega))
      have v0 : N (v + 2 + 1 + k) 0 = nI (g 0 k) := by rw [hxN.2.2.2.2.2.2.2 k hk 0 (by omega), (lk k hk).1]
      have v2 : N (v + 2 + 1 + k) 2 = dr k 2 := hxN.2.2.2.2.2.2.2 k hk 2 (by omega)
      have v3 : N (v + 2 + 1 + k) 3 = dr k 3 := hxN.2.2.2.2.2.2.2 k hk 3 (by omega)
      have gk := hg.2.2 k hk
      have z : idx (nI k) (ln (v + 2)) = some k := idx_nI (by rw [hx.2.1]; omega) (by rw [hx.2.1]; omega)
      have t1 : (nI nd ≤ nI k) = False := by rw [nI_leI (by omega) (by omega)]; simp; omega
      have t3 := propext (lk k hk).2.2.1
      have ks := kids_snoc (kid g nd []) k 0
      rw [Nat.zero_add] at ks
      show ∃ s', B_G_search_33 F v s _ N (nI k) = _ ∧ _
      unfold B_G_search_33
      simp only [hxN.2.2.2.1, t1, ↓reduceIte, z, ob_some, D_isOpenOf_eq, v2, v3, i01, t3, nI_1]
      by_cases j2 : g 2 k = 0
      · refine ⟨N, by simp only [j2, ↓reduceIte], ?_, i3⟩
        rw [ks, kid_no (by simp [okB, j2]), List.append_nil]
        exact i1
      · have ho : okB g [] k = true := by simp [okB]; omega
        have l3 := ((lk k hk).2.2.2 (by omega)).1
        have hxW : VX (up N 69 0 (nI k)) v np nd kn dr := VX_of hxN (fun a h1 h2 => up_cell (by omega))
        have haW : AbsX g (up N 69 0 (nI k)) (kids (kid g nd []) k 0) := AbsX_of i1 (up_cell (by omega)) (up_cell (by omega)) (up_cell (by omega))
        have hpW : PXc 69 (up N 69 0 (nI k)) [k] := PXc_up (c := []) (fun j hj => absurd hj (by simp))
        obtain ⟨P, p1, p2, p3, p4⟩ := extend_X hF hv lk hg 8 [k] (up N 69 0 (nI k)) _ rfl (by simp) (gd_push (c := []) ⟨fun x hx => absurd hx (by simp), List.nodup_nil⟩ rfl hk ho) hpW hxW haW
        have m0 : up N 69 0 (nI k) (v + 2 + 1 + k) 0 = nI (g 0 k) := by rw [up_cell (by omega), v0]
        have m3 : up N 69 0 (nI k) (v + 2 + 1 + k) 3 = nI (lst g [k]) := by
          rw [up_cell (by omega), v3, l3]
          have := gk.2.2.2
          show _ = nI (if g 2 k < 99 then g 2 k else 99)
          split
          · rfl
          · rw [show g 2 k = 99 by omega]
        have mk : (1 <<< (nI (g 0 k) &&& 31)) = sMk g [k] := by
          show _ = (0 : Int32) ||| _
          rw [Int32.zero_or]
        have aw := awr_nI (M := N) (a := 69) (k := 0) (v := nI k) (by show 0 < 6; omega)
        rw [nI_0] at aw
        have l1 : nI [k].length = 1 := rfl
        rw [l1] at p1
        refine ⟨P, ?_, ?_, fun a h => by rw [p4 a h, up_cell (by omega), i3 a h]⟩
        · simp only [j2, ↓reduceIte, aw, ob_some, m0, m3, mk, p1]
        · rw [ks]
          unfold kid at p2 ⊢
          rw [if_pos ho]
          exact p2)
    (fun m N hI => by
      show B_G_search_33 F v s _ N (nI nd) = _
      unfold B_G_search_33
      rw [hI.2 v (by omega), hx.2.2.2.1, if_pos (by rw [nI_leI (by omega) (by omega)]; omega)])
    nd 0 F U (by omega) (by omega) ⟨haU, fun a h => by rw [u2 a (by omega), u0 a (by omega)]⟩
  rw [nI_0] at n1
  refine ⟨N, ?_, ?_, n3⟩
  · unfold G_search
    simp only [u1, ob_some, n1]
  · show AbsX g N (kids (kid g nd []) (nd - 0) 0)
    exact n2
