/-! rings: the class's search, its recursion -/
theorem ok_cons {g : Nat → Nat → Nat} {x i : Nat} {c : List Nat} : okB g (x :: c) i = true ↔ 0 < g 2 i ∧ el (x :: c) 0 < i ∧ g 0 i = g 1 x := by
  unfold okB
  simp only [Bool.and_eq_true, decide_eq_true_eq]
theorem cl_cons {g : Nat → Nat → Nat} {x : Nat} {c : List Nat} : clB g (x :: c) = true ↔ g 1 x = g 0 (el (x :: c) 0) := by
  unfold clB
  simp only [decide_eq_true_eq]
theorem lst_nI {g : Nat → Nat → Nat} {i : Nat} {c : List Nat} (h : g 2 i ≤ 99) : (if nI (g 2 i) < nI (lst g c) then nI (g 2 i) else nI (lst g c)) = nI (lst g (i :: c)) := by
  have h2 := lst_le g c
  simp only [nI_ltI (show g 2 i < 2 ^ 31 by omega) (show lst g c < 2 ^ 31 by omega), lst]
  by_cases q : g 2 i < lst g c
  · rw [if_pos q, if_pos q]
  · rw [if_neg q, if_neg q]
theorem extend_X {F v : Nat} (hF : FB ≤ F) (hv : v = 23 ∨ v = 38) {np nd : Nat} {kn : Nat → Int32} {dr : Nat → Nat → Int32} {g : Nat → Nat → Nat} {s : Int32} (lk : LK s nd dr g) (hg : Gd g nd np) : ∀ (d : Nat) (c : List Nat) (M : Mem) (R : List (List Nat)), d + c.length = 9 → c ≠ [] → gdC g nd c → PXc 69 M c → VX M v np nd kn dr → AbsX g M R → ∃ N, G_extend F d M v (nI c.length) (sMk g c) (nI (lst g c)) = some N ∧ AbsX g N (R ++ bel g nd c) ∧ PXc 69 N c ∧ ∀ a, a < 66 ∨ 69 < a → N a = M a := by
  have hF' := FBL hF
  have hnp := hg.1
  have hnd := hg.2.1
  intro d
  induction d with
  | zero =>
    intro c M R hd _ hc
    have := len_C hg hc
    omega
  | succ d ih =>
    intro c M R hd hne hc hp hx ha
    have hl6 := len_C hg hc
    obtain ⟨x, c', rfl⟩ : ∃ x c', c = x :: c' := by
      cases c with
      | nil => exact absurd rfl hne
      | cons x c' => exact ⟨x, c', rfl⟩
    generalize hL : (x :: c').length = L at hd hl6
    have hL' : L = c'.length + 1 := by rw [← hL, List.length_cons]
    have hx0 := hc.1 x (List.mem_cons_self ..)
    have he0 := hc.1 _ (el_mem (c := x :: c') (k := 0) (by omega))
    generalize hE : el (x :: c') 0 = e0 at he0
    have p0 : M 69 0 = nI e0 := by rw [hp 0 (by omega), hE]
    have p1 : M 69 (L - 1) = nI x := by rw [hp (L - 1) (by omega), show L - 1 = c'.length by omega, el_top]
    have c1 : (nI L < (1 : Int32)) = False := by rw [show (1 : Int32) = nI 1 from rfl, nI_ltI (by omega) (by omega)]; simp; omega
    have c2 : (nI L ≤ (6 : Int32)) = True := by rw [show (6 : Int32) = nI 6 from rfl, nI_leI (by omega) (by omega)]; simp; omega
    have s1 : nI L - 1 = nI (L - 1) := by rw [show (1 : Int32) = nI 1 from rfl, pk_sub (by omega)]
    have z : ∀ i, i < nd → idx (nI i) (ln (v + 2)) = some i := fun i hi => idx_nI (by rw [hx.2.1]; omega) (by rw [hx.2.1]; omega)
    have w1 : M (v + 2 + 1 + x) 1 = nI (g 1 x) := by rw [hx.2.2.2.2.2.2.2 x hx0.1 1 (by omega), (lk x hx0.1).2.1]
    have w0 : M (v + 2 + 1 + e0) 0 = nI (g 0 e0) := by rw [hx.2.2.2.2.2.2.2 e0 he0.1 0 (by omega), (lk e0 he0.1).1]
    have gx := hg.2.2 x hx0.1
    have ge := hg.2.2 e0 he0.1
    have q1 : (nI (g 1 x) = nI (g 0 e0)) = (clB g (x :: c') = true) := by
      rw [cl_cons, hE, nI_eq (by omega) (by omega)]
    have q2 : (sMk g (x :: c') &&& (1 <<< (nI (g 1 x) &&& 31)) = 0) = (snB g (x :: c') = false) := by
      rw [and_bit' (show g 1 x < 31 by omega), tb_sMk _ (fun y hy => by have := (hg.2.2 y (hc.1 y hy).1).1; omega)]
      rfl
    show ∃ N, Bd_G_extend F (G_extend F d) M v (nI L) (sMk g (x :: c')) (nI (lst g (x :: c'))) = some N ∧ _
    unfold Bd_G_extend
    simp only [c1, c2, ↓reduceIte, p0, z e0 he0.1, ob_some, s1, ard_nI (M := M) (a := 69) (k := L - 1) (by show _ < 6; omega), p1, z x hx0.1, w1, w0, q1, q2]
    have hbel := bel_eq (g := g) (n := nd) (c := x :: c') (by omega)
    by_cases k1 : clB g (x :: c') = true
    · simp only [k1, ↓reduceIte]
      rw [k1, if_pos rfl, hL] at hbel
      by_cases k3 : 3 ≤ L
      · obtain ⟨N, n1, n2, n3⟩ := takeRing_X hF hv hx lk hg hc hp (by omega) ha
        rw [hL] at n1
        rw [n1, hbel, if_pos k3]
        exact ⟨N, rfl, n2, PXc_of hp (n3 69 (by omega)), fun a h => n3 a (by omega)⟩
      · have c3 : ((3 : Int32) ≤ nI L) = False := by
          rw [show (3 : Int32) = nI 3 from rfl, nI_leI (by omega) (by omega)]; simp; omega
        unfold G_takeRing
        simp only [c3, ↓reduceIte, ob_some]
        rw [hbel, if_neg k3, List.append_nil]
        exact ⟨M, rfl, ha, hp, fun _ _ => rfl⟩
    by_cases k2 : snB g (x :: c') = false
    · have hl5 := len_S hg hc k2
      have c6 : (nI L = (6 : Int32)) = False := by
        rw [show (6 : Int32) = nI 6 from rfl, nI_eq (by omega) (by omega)]; simp; omega
      simp only [k1, k2, c6, ↓reduceIte, nI_1, Bool.false_eq_true]
      have hb2 : bel g nd (x :: c') = kids (kid g nd (x :: c')) (nd - (e0 + 1)) (e0 + 1) := by
        rw [hbel, k2]
        simp only [k1, ↓reduceIte, Bool.false_eq_true]
        have := kids_add (kid g nd (x :: c')) (e0 + 1) (nd - (e0 + 1)) 0
        rw [show e0 + 1 + (nd - (e0 + 1)) = nd by omega] at this
        rw [this, kids_none (e0 + 1) 0 (fun i _ hi => kid_no (by
          rcases h : okB g (x :: c') i with _ | _
          · rfl
          · have := (ok_cons.mp h).2.1
            omega)), List.nil_append, Nat.zero_add]
      obtain ⟨N, n1, n0, n2, n3, n4⟩ := lpE (fun m k (N : Mem) => L_G_extend_88 F (G_extend F d) v (nI L) (sMk g (x :: c')) (nI (lst g (x :: c'))) (v + 2 + 1 + e0) (nI (g 1 x)) m N (nI k)) (fun k N => e0 + 1 ≤ k ∧ AbsX g N (R ++ kids (kid g nd (x :: c')) (k - (e0 + 1)) (e0 + 1)) ∧ PXc 69 N (x :: c') ∧ ∀ a, a < 66 ∨ 69 < a → N a = M a) (fun N => some N) nd
        (fun m k N hk hI => by
          obtain ⟨i0, i1, i2, i3⟩ := hI
          have hxN : VX N v np nd kn dr := VX_of hx (fun a h1 h2 => i3 a (by omega))
          have v0 : N (v + 2 + 1 + k) 0 = nI (g 0 k) := by rw [hxN.2.2.2.2.2.2.2 k hk 0 (by omega), (lk k hk).1]
          have v2 : N (v + 2 + 1 + k) 2 = dr k 2 := hxN.2.2.2.2.2.2.2 k hk 2 (by omega)
          have v3 : N (v + 2 + 1 + k) 3 = dr k 3 := hxN.2.2.2.2.2.2.2 k hk 3 (by omega)
          have v5 : N (v + 2 + 1 + e0) 2 = s := by rw [hxN.2.2.2.2.2.2.2 e0 he0.1 2 (by omega), ((lk e0 he0.1).2.2.2 he0.2).2]
          have gk := hg.2.2 k hk
          have t1 : (nI nd ≤ nI k) = False := by rw [nI_leI (by omega) (by omega)]; simp; omega
          have t2 : (nI (g 0 k) = nI (g 1 x)) = (g 0 k = g 1 x) := by rw [nI_eq (by omega) (by omega)]
          have t3 := propext (lk k hk).2.2.1
          have ks : kids (kid g nd (x :: c')) (k + 1 - (e0 + 1)) (e0 + 1) = kids (kid g nd (x :: c')) (k - (e0 + 1)) (e0 + 1) ++ kid g nd (x :: c') k := by
            rw [show k + 1 - (e0 + 1) = (k - (e0 + 1)) + 1 by omega, kids_snoc, show e0 + 1 + (k - (e0 + 1)) = k by omega]
          show ∃ s', B_G_extend_88 F (G_extend F d) v (nI L) (sMk g (x :: c')) (nI (lst g (x :: c'))) (v + 2 + 1 + e0) (nI (g 1 x)) _ N (nI k) = _ ∧ _
          unfold B_G_extend_88
          simp only [hxN.2.2.2.1, t1, ↓reduceIte, z k hk, ob_some, v0, t2, D_isOpenOf_eq, v2, v3, v5, i01, t3, nI_1]
          have stay : okB g (x :: c') k = false → e0 + 1 ≤ k + 1 ∧ AbsX g N (R ++ kids (kid g nd (x :: c')) (k + 1 - (e0 + 1)) (e0 + 1)) ∧ PXc 69 N (x :: c') ∧ ∀ a, a < 66 ∨ 69 < a → N a = M a := fun h => by
            rw [ks, kid_no h, List.append_nil]
            exact ⟨by omega, i1, i2, i3⟩
          by_cases j1 : g 0 k = g 1 x
          · by_cases j2 : g 2 k = 0
            · refine ⟨N, by simp only [j1, j2, ↓reduceIte], stay ?_⟩
              rcases h : okB g (x :: c') k with _ | _
              · rfl
              · have := (ok_cons.mp h).1
                omega
            · have ho : okB g (x :: c') k = true := ok_cons.mpr ⟨by omega, by rw [hE]; omega, j1⟩
              have l3 := ((lk k hk).2.2.2 (by omega)).1
              have hxW : VX (up N 69 L (nI k)) v np nd kn dr := VX_of hxN (fun a h1 h2 => up_cell (by omega))
              have haW : AbsX g (up N 69 L (nI k)) (R ++ kids (kid g nd (x :: c')) (k - (e0 + 1)) (e0 + 1)) := AbsX_of i1 (up_cell (by omega)) (up_cell (by omega)) (up_cell (by omega))
              have hpW : PXc 69 (up N 69 L (nI k)) (k :: x :: c') := by rw [← hL]; exact PXc_up i2
              obtain ⟨P, p1, p2, p3, p4⟩ := ih (k :: x :: c') (up N 69 L (nI k)) _ (by rw [List.length_cons]; omega) (by simp) (gd_push hc k2 hk ho) hpW hxW haW
              rw [List.length_cons, hL] at p1
              have m3 : up N 69 L (nI k) (v + 2 + 1 + k) 3 = nI (g 2 k) := by rw [up_cell (by omega), v3, l3]
              have mk : sMk g (x :: c') ||| (1 <<< (nI (g 1 x) &&& 31)) = sMk g (k :: x :: c') := by
                show _ = sMk g (x :: c') ||| (1 <<< (nI (g 0 k) &&& 31))
                rw [j1]
              refine ⟨P, ?_, by omega, ?_, PXc_low p3, fun a h => by rw [p4 a h, up_cell (by omega), i3 a h]⟩
              · simp only [j1, j2, ↓reduceIte, awr_nI (M := N) (a := 69) (k := L) (by show L < 6; omega), ob_some, m3, mk, lst_nI gk.2.2.2, p1]
              · rw [ks, ← List.append_assoc]
                unfold kid at p2 ⊢
                rw [if_pos ho]
                exact p2
          · refine ⟨N, by simp only [j1, ↓reduceIte], stay ?_⟩
            rcases h : okB g (x :: c') k with _ | _
            · rfl
            · exact absurd (ok_cons.mp h).2.2 j1)
        (fun m N hI => by
          obtain ⟨i0, i1, i2, i3⟩ := hI
          show B_G_extend_88 F (G_extend F d) v (nI L) (sMk g (x :: c')) (nI (lst g (x :: c'))) (v + 2 + 1 + e0) (nI (g 1 x)) _ N (nI nd) = _
          unfold B_G_extend_88
          rw [i3 v (by omega), hx.2.2.2.1, if_pos (by rw [nI_leI (by omega) (by omega)]; omega)])
        (nd - (e0 + 1)) (e0 + 1) F M (by omega) (by omega) ⟨by omega, by rw [Nat.sub_self]; simpa [kids] using ha, hp, fun _ _ => rfl⟩
      rw [n1, hb2]
      exact ⟨N, rfl, n2, n3, n4⟩
    · simp only [k1, k2, ↓reduceIte]
      have k2' : snB g (x :: c') = true := by simpa using k2
      have : bel g nd (x :: c') = [] := by rw [hbel, k2']; simp [k1]
      rw [this, List.append_nil]
      exact ⟨M, rfl, ha, hp, fun _ _ => rfl⟩
