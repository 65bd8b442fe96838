/-! rings: the class's search -/
def PXc (a : Nat) (M : Mem) (c : List Nat) : Prop := ∀ k, k < c.length → M a k = nI (el c k)
theorem PXc_of {a : Nat} {M N : Mem} {c : List Nat} (h : PXc a M c) (e : N a = M a) : PXc a N c := fun k hk => by rw [e]; exact h k hk
theorem PXc_low {a x : Nat} {M : Mem} {c : List Nat} (h : PXc a M (x :: c)) : PXc a M c := fun k hk => by
  rw [h k (by rw [List.length_cons]; omega), el_low hk]
theorem PXc_up {a x : Nat} {M : Mem} {c : List Nat} (h : PXc a M c) : PXc a (up M a c.length (nI x)) (x :: c) := fun k hk => by
  rw [List.length_cons] at hk
  by_cases e : k = c.length
  · subst e
    rw [up_same, el_top]
  · rw [up_ne (by omega), el_low (by omega), h k (by omega)]
def sMk (g : Nat → Nat → Nat) : List Nat → Int32
  | [] => 0
  | x :: c => sMk g c ||| (1 <<< (nI (g 0 x) &&& 31))
theorem tb_sMk {g : Nat → Nat → Nat} {p : Nat} : ∀ c : List Nat, (∀ x, x ∈ c → g 0 x < 31) → tb (sMk g c) p = (c.map (g 0)).contains p := by
  intro c
  induction c with
  | nil => intro _; exact tb_0 p
  | cons x c ih =>
    intro h
    show tb (sMk g c ||| _) p = _
    rw [tb_or, ih (fun y hy => h y (List.mem_cons_of_mem _ hy)), tb_1 (h x (List.mem_cons_self ..)), List.map_cons, List.contains_cons, Bool.or_comm]
    congr 1
    by_cases e : g 0 x = p
    · simp [e]
    · simp [e, Ne.symm e]
def LK (s : Int32) (nd : Nat) (dr : Nat → Nat → Int32) (g : Nat → Nat → Nat) : Prop := ∀ i, i < nd → dr i 0 = nI (g 0 i) ∧ dr i 1 = nI (g 1 i) ∧ ((dr i 3 ≤ 0 ∨ ¬ dr i 2 = s) ↔ g 2 i = 0) ∧ (0 < g 2 i → dr i 3 = nI (g 2 i) ∧ dr i 2 = s)
def AbsX (g : Nat → Nat → Nat) (M : Mem) (R : List (List Nat)) : Prop := M 66 0 = nI R.length ∧ M 66 1 = nI (gnR g (bst g R)) ∧ (bst g R).length ≤ 6 ∧ (bst g R ≠ [] → M 66 2 = nI (lst g (bst g R)) ∧ M 66 3 = nI (bst g R).length ∧ PXc 67 M (bst g R)) ∧ ∀ p, p < 6 → M 68 p = nI (cnt g p R)
theorem AbsX_of {g : Nat → Nat → Nat} {M N : Mem} {R : List (List Nat)} (h : AbsX g M R) (e1 : N 66 = M 66) (e2 : N 67 = M 67) (e3 : N 68 = M 68) : AbsX g N R := by
  obtain ⟨h1, h2, h3, h4, h5⟩ := h
  refine ⟨by rw [e1, h1], by rw [e1, h2], h3, fun hb => ?_, fun p hp => by rw [e3, h5 p hp]⟩
  obtain ⟨a, b, c⟩ := h4 hb
  exact ⟨by rw [e1, a], by rw [e1, b], PXc_of c e2⟩
theorem el_drop {c : List Nat} {k : Nat} (h : k < c.length) : c.drop (c.length - (k + 1)) = el c k :: c.drop (c.length - k) := by
  rw [List.drop_eq_getElem_cons (by omega), show c.length - (k + 1) + 1 = c.length - k by omega]
  congr 1
  unfold el
  rw [List.getD_eq_getElem?_getD, show c.length - 1 - k = c.length - (k + 1) by omega, List.getElem?_eq_getElem (by omega)]
  rfl
theorem takeL_X {F v : Nat} (hF : FB ≤ F) (hv : v = 23 ∨ v = 38) {M : Mem} {np nd : Nat} {kn : Nat → Int32} {dr : Nat → Nat → Int32} {g : Nat → Nat → Nat} {s x3 : Int32} {c : List Nat} (hx : VX M v np nd kn dr) (lk : LK s nd dr g) (hg : Gd g nd np) (hc : gdC g nd c) (hp : PXc 69 M c) : ∃ N, L_G_takeRing_19 F v (nI c.length) x3 F M 0 = some N ∧ (∀ a, a ≠ 68 → N a = M a) ∧ ∀ p, p < 6 → N 68 p = M 68 p + nI (if p ∈ c.map (g 0) then 1 else 0) := by
  have hF' := FBL hF
  have hl := len_C hg hc
  obtain ⟨N, n1, n2, n3⟩ := lpE (fun m k (N : Mem) => L_G_takeRing_19 F v (nI c.length) x3 m N (nI k)) (fun k N => (∀ a, a ≠ 68 → N a = M a) ∧ ∀ p, p < 6 → N 68 p = M 68 p + nI (List.count p ((c.drop (c.length - k)).map (g 0)))) (fun N => some N) c.length
    (fun m k N hk hI => by
      obtain ⟨i1, i2⟩ := hI
      have hxN : VX N v np nd kn dr := VX_of hx (fun a h1 h2 => i1 a (by omega))
      have hz := (hc.1 _ (el_mem hk)).1
      have hwho := (hg.2.2 _ hz).1
      have hnp := hg.1
      have nd12 := hg.2.1
      have c1 : (nI c.length ≤ nI k) = False := by rw [nI_leI (by omega) (by omega)]; simp; omega
      have pk : N 69 k = nI (el c k) := by rw [i1 69 (by omega), hp k hk]
      have z : idx (nI (el c k)) (ln (v + 2)) = some (el c k) := idx_nI (by rw [hx.2.1]; omega) (by rw [hx.2.1]; omega)
      have w : N (v + 2 + 1 + el c k) 0 = nI (g 0 (el c k)) := by rw [hxN.2.2.2.2.2.2.2 _ hz 0 (by omega), (lk _ hz).1]
      refine ⟨up N 68 (g 0 (el c k)) (N 68 (g 0 (el c k)) + 1), ?_, fun a ha => by rw [up_cell ha, i1 a ha], fun p hp => ?_⟩
      · show B_G_takeRing_19 F v (nI c.length) x3 _ N (nI k) = _
        unfold B_G_takeRing_19
        simp only [c1, ↓reduceIte, ard_nI (M := N) (a := 69) (k := k) (by show k < 6; omega), ob_some, pk, z, w, ard_nI (M := N) (a := 68) (k := g 0 (el c k)) (by show _ < 6; omega), awr_nI (M := N) (a := 68) (k := g 0 (el c k)) (by show _ < 6; omega), nI_1]
      · rw [el_drop hk, List.map_cons, List.count_cons]
        by_cases e : g 0 (el c k) = p
        · subst e
          rw [up_same, i2 _ hp]
          simp only [beq_self_eq_true, ↓reduceIte]
          rw [← nI_1, Int32.add_assoc]
        · rw [up_ne (by omega), i2 _ hp]
          simp [e])
    (fun m N hI => by
      show B_G_takeRing_19 F v (nI c.length) x3 _ N (nI c.length) = _
      unfold B_G_takeRing_19
      rw [if_pos (by rw [nI_leI (by omega) (by omega)]; omega)])
    c.length 0 F M (by omega) (by omega) ⟨fun _ _ => rfl, fun p hp => by
      rw [Nat.sub_zero, List.drop_length]
      simp [nI_0]⟩
  rw [nI_0] at n1
  refine ⟨N, n1, n2, fun p hp => ?_⟩
  rw [n3 p hp, Nat.sub_self, List.drop_zero, hc.2.count]
theorem takeRing_X {F v : Nat} (hF : FB ≤ F) (hv : v = 23 ∨ v = 38) {M : Mem} {np nd : Nat} {kn : Nat → Int32} {dr : Nat → Nat → Int32} {g : Nat → Nat → Nat} {s : Int32} {c : List Nat} {R : List (List Nat)} (hx : VX M v np nd kn dr) (lk : LK s nd dr g) (hg : Gd g nd np) (hc : gdC g nd c) (hp : PXc 69 M c) (h3 : 3 ≤ c.length) (ha : AbsX g M R) : ∃ N, G_takeRing F M v (nI c.length) (nI (lst g c)) = some N ∧ AbsX g N (R ++ [c]) ∧ ∀ a, a < 66 ∨ 68 < a → N a = M a := by
  have hl := len_C hg hc
  obtain ⟨a1, a2, a3, a4, a5⟩ := ha
  have u0 : ∀ a, a ≠ 66 → up M 66 0 (M 66 0 + 1) a = M a := fun a ha => up_cell ha
  obtain ⟨N, n1, n2, n3⟩ := takeL_X hF hv (x3 := nI (lst g c)) (VX_of (N := up M 66 0 (M 66 0 + 1)) hx (fun a h1 h2 => u0 a (by omega))) lk hg hc (PXc_of hp (u0 69 (by omega)))
  have b0 : N 66 0 = nI (R ++ [c]).length := by rw [n2 66 (by omega), up_same, a1, nI_1, List.length_append]; rfl
  have b1 : N 66 1 = nI (gnR g (bst g R)) := by rw [n2 66 (by omega), up_ne (by omega), a2]
  have b5 : ∀ p, p < 6 → N 68 p = nI (cnt g p (R ++ [c])) := fun p hp => by
    rw [n3 p hp, u0 68 (by omega), a5 p hp, nI_add]
    unfold cnt
    rw [List.countP_append, List.countP_singleton]
    by_cases e : p ∈ c.map (g 0)
    · have e' : (c.map (g 0)).contains p = true := List.contains_iff_mem.mpr e
      rw [if_pos e, if_pos e']
    · have e' : ¬ (c.map (g 0)).contains p = true := fun h => e (List.contains_iff_mem.mp h)
      rw [if_neg e, if_neg e']
  have c3 : ((3 : Int32) ≤ nI c.length) = True := by
    rw [show (3 : Int32) = nI 3 from rfl, nI_leI (by omega) (by omega)]; simp; omega
  have gl : gnR g c ≤ 99 * 6 := Nat.mul_le_mul (lst_le g c) hl
  have gb : gnR g (bst g R) ≤ 99 * 6 := Nat.mul_le_mul (lst_le g _) a3
  have em : nI (lst g c) * nI c.length = nI (gnR g c) := pk_mul _ _
  have b1c : N 66 1 = nI (gnR g (bst g R)) := b1
  unfold G_takeRing
  simp only [c3, ↓reduceIte, n1, ob_some, em, b1c, nI_leI (show gnR g c < 2 ^ 31 by omega) (show gnR g (bst g R) < 2 ^ 31 by omega)]
  by_cases q : gnR g c ≤ gnR g (bst g R)
  · simp only [q, ↓reduceIte]
    have eb : bst g (R ++ [c]) = bst g R := by rw [bst_snoc, bsS, if_pos q]
    refine ⟨N, rfl, ⟨b0, by rw [eb]; exact b1, by rw [eb]; exact a3, fun hb => ?_, b5⟩, fun a ha => by rw [n2 a (by omega), u0 a (by omega)]⟩
    rw [eb] at hb ⊢
    obtain ⟨d1, d2, d3⟩ := a4 hb
    exact ⟨by rw [n2 66 (by omega), up_ne (by omega), d1], by rw [n2 66 (by omega), up_ne (by omega), d2], PXc_of d3 (by rw [n2 67 (by omega), u0 67 (by omega)])⟩
  · simp only [q, ↓reduceIte]
    have eb : bst g (R ++ [c]) = c := by rw [bst_snoc, bsS, if_neg q]
    have ac := acp_eq (M := up (up (up N 66 1 (nI (gnR g c))) 66 2 (nI (lst g c))) 66 3 (nI c.length)) (a := 69) (b := 67) (i := 0) (j := 0) (n := c.length) (by show 0 + c.length ≤ 6; omega) (by show 0 + c.length ≤ 6; omega)
    rw [nI_0] at ac
    simp only [ac, ob_some]
    generalize hW : up (up (up N 66 1 (nI (gnR g c))) 66 2 (nI (lst g c))) 66 3 (nI c.length) = W
    have w0 : ∀ a, a ≠ 66 → W a = N a := fun a ha => by rw [← hW, up_cell ha, up_cell ha, up_cell ha]
    have r0 : ∀ a, a ≠ 67 → upR W 67 (va_cpy (W 69) (W 67) 0 0 c.length) a = W a := fun a ha => by simp only [upR, if_neg ha]
    refine ⟨_, rfl, ⟨?_, ?_, by rw [eb]; exact hl, fun _ => ⟨?_, ?_, ?_⟩, fun p hp => by rw [r0 68 (by omega), w0 68 (by omega)]; exact b5 p hp⟩, fun a ha => by rw [r0 a (by omega), w0 a (by omega), n2 a (by omega), u0 a (by omega)]⟩
    · rw [r0 66 (by omega), ← hW, up_ne (by omega), up_ne (by omega), up_ne (by omega), b0]
    · rw [eb, r0 66 (by omega), ← hW, up_ne (by omega), up_ne (by omega), up_same]
    · rw [eb, r0 66 (by omega), ← hW, up_ne (by omega), up_same]
    · rw [eb, r0 66 (by omega), ← hW, up_same]
    · rw [eb]
      intro k hk
      show upR W 67 (va_cpy (W 69) (W 67) 0 0 c.length) 67 k = _
      unfold upR
      rw [if_pos rfl, pk_cpy_in (by omega) (by omega), w0 69 (by omega), n2 69 (by omega), u0 69 (by omega)]
      simp only [Nat.zero_add, Nat.sub_zero]
      exact hp k hk
