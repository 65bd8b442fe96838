/-! rings: the reference's list, ring by ring -/
def SR (g : Nat → Nat → Nat) (np nd : Nat) (kn : Nat → Int32) (dr : Nat → Nat → Int32) (M : Mem) (R : List (List Nat)) : Prop := (SMs g np nd kn dr M [] ∧ R = rest g nd [] 0) ∨ ∃ (x : Nat) (c : List Nat), SMs g np nd kn dr M (x :: c) ∧ gdC g nd (x :: c) ∧ gdA g c ∧ R = rest g nd c (x + 1)
theorem SR_of {g : Nat → Nat → Nat} {np nd : Nat} {kn : Nat → Int32} {dr : Nat → Nat → Int32} {M N : Mem} {R : List (List Nat)} (h : SR g np nd kn dr M R) (f1 : ∀ a, a ≠ 100 → a ≠ 112 → N a = M a) (f2 : ∀ b, b = 1 ∨ b = 21 → N 100 b = M 100 b) : SR g np nd kn dr N R := by
  have key : ∀ c, SMs g np nd kn dr M c → SMs g np nd kn dr N c := fun c hs => ⟨VM_of hs.1 (f2 1 (by omega)) (f1 101 (by omega) (by omega)) (f1 102 (by omega) (by omega)), fun i hi => by rw [f1 110 (by omega) (by omega)]; exact hs.2.1 i hi, by rw [f2 21 (by omega)]; exact hs.2.2.1, PXc_of hs.2.2.2 (f1 111 (by omega) (by omega))⟩
  rcases h with ⟨h1, h2⟩ | ⟨x, c, h1, h2, h3, h4⟩
  · exact Or.inl ⟨key _ h1, h2⟩
  · exact Or.inr ⟨x, c, key _ h1, h2, h3, h4⟩
theorem nextRing_M {F np nd : Nat} (hF : FB ≤ F) {kn : Nat → Int32} {dr : Nat → Nat → Int32} {g : Nat → Nat → Nat} (lk : LK0 nd dr g) (hg : Gd g nd np) {M : Mem} {R : List (List Nat)} (h : SR g np nd kn dr M R) : ∃ (ok : Int32) (N : Mem), M_nextRing F M = some (ok, N) ∧ (∀ a, a ≠ 100 → a ≠ 111 → N a = M a) ∧ (∀ b, b ≠ 21 → N 100 b = M 100 b) ∧ ((R = [] ∧ ok = 0 ∧ N 100 21 = nI 0) ∨ ∃ (c : List Nat) (R' : List (List Nat)), ok = 1 ∧ R = c :: R' ∧ SMs g np nd kn dr N c ∧ gdC g nd c ∧ 3 ≤ c.length ∧ SR g np nd kn dr N R') := by
  have hnd := hg.2.1
  have hF2 : 1000000000000000 < F := by unfold FB at hF; omega
  have fin : ∀ (ok : Int32) (N M' : Mem) (c : List Nat) (f : Nat), L_M_nextRing_31 F F M' (nI f) = some (.inl (ok, N)) → ((rest g nd c f = [] ∧ ok = 0 ∧ N 100 21 = nI 0) ∨ ∃ (x : Nat) (c' : List Nat), ok = 1 ∧ rest g nd c f = (x :: c') :: rest g nd c' (x + 1) ∧ SMs g np nd kn dr N (x :: c') ∧ gdC g nd (x :: c') ∧ gdA g c' ∧ 2 ≤ c'.length) → R = rest g nd c f → ((R = [] ∧ ok = 0 ∧ N 100 21 = nI 0) ∨ ∃ (c : List Nat) (R' : List (List Nat)), ok = 1 ∧ R = c :: R' ∧ SMs g np nd kn dr N c ∧ gdC g nd c ∧ 3 ≤ c.length ∧ SR g np nd kn dr N R') := by
    intro ok N M' c f _ h hR
    rcases h with ⟨h1, h2, h3⟩ | ⟨x, c', h1, h2, h3, h4, h5, h6⟩
    · exact Or.inl ⟨by rw [hR, h1], h2, h3⟩
    · exact Or.inr ⟨x :: c', _, h1, by rw [hR, h2], h3, h4, by rw [List.length_cons]; omega, Or.inr ⟨x, c', h3, h4, h5, rfl⟩⟩
  rcases h with ⟨hs, hR⟩ | ⟨x, c, hs, hc, hga, hR⟩
  · obtain ⟨ok, N, n1, n2, n3, n4⟩ := next_M hF lk hg (rmN [] 0) F 0 [] M (Nat.le_refl _) (by have := rm_le (c := []) (f := 0) (by simp); omega) (by omega) ⟨fun x hx => absurd hx (by simp), List.nodup_nil⟩ trivial hs
    refine ⟨ok, N, ?_, n2, n3, fin ok N M [] 0 n1 n4 hR⟩
    have c0 : (M 100 21 ≤ 0) = True := by rw [hs.2.2.1]; decide
    rw [nI_0] at n1
    unfold M_nextRing
    simp only [c0, ↓reduceIte, ob_some, n1, Sum.elim_inl]
  · have hl := len_C hg hc
    rw [List.length_cons] at hl
    have zx := (hc.1 x (List.mem_cons_self ..)).1
    have c0 : (M 100 21 ≤ 0) = False := by rw [hs.2.2.1, List.length_cons, ← nI_0, nI_leI (by omega) (by omega)]; simp
    have s1 : M 100 21 - 1 = nI c.length := by rw [hs.2.2.1, List.length_cons, nI_pred]
    have p1 : up M 100 21 (nI c.length) 111 c.length = nI x := by rw [up_ne (by omega), hs.2.2.2 c.length (by rw [List.length_cons]; omega), el_top]
    have u21 : up M 100 21 (nI c.length) 100 21 = nI c.length := up_same ..
    have f1 : ∀ a, a ≠ 100 → a ≠ 111 → up M 100 21 (nI c.length) a = M a := fun a h _ => up_cell h
    have f2 : ∀ b, b ≠ 21 → up M 100 21 (nI c.length) 100 b = M 100 b := fun b h => up_ne (by omega)
    have hs' : SMs g np nd kn dr (up M 100 21 (nI c.length)) c := SMs_of hs f1 f2 u21 (PXc_of (PXc_low hs.2.2.2) (up_cell (by omega)))
    obtain ⟨ok, N, n1, n2, n3, n4⟩ := next_M hF lk hg (rmN c (x + 1)) F (x + 1) c _ (Nat.le_refl _) (by have := rm_le (c := c) (f := x + 1) (by omega); omega) (by omega) (gdC_tl hc) hga hs'
    refine ⟨ok, N, ?_, fun a h h' => by rw [n2 a h h', f1 a h h'], fun b h => by rw [n3 b h, f2 b h], fin ok N _ c (x + 1) n1 n4 hR⟩
    unfold M_nextRing
    simp only [c0, ↓reduceIte, s1, u21, ard_nI (M := up M 100 21 (nI c.length)) (a := 111) (k := c.length) (by show _ < 6; omega), p1, ob_some, nI_1, n1, Sum.elim_inl]
theorem least_M {F np nd : Nat} (hF : FB ≤ F) {kn : Nat → Int32} {dr : Nat → Nat → Int32} {g : Nat → Nat → Nat} (hg : Gd g nd np) {M : Mem} {c : List Nat} (hs : SMs g np nd kn dr M c) (hc : gdC g nd c) : M_leastOfRing F M = some (nI (lst g c)) := by
  have hF' := FBL hF
  have hl := len_C hg hc
  have hnd := hg.2.1
  obtain ⟨s', n1, n2⟩ := lpE (fun m k (s : Int32) => L_M_leastOfRing_5 F M m s (nI k)) (fun k s => s = nI (lst g (c.drop (c.length - k)))) (fun s => some s) c.length
    (fun m k s hk hI => by
      subst hI
      refine ⟨nI (lst g (c.drop (c.length - (k + 1)))), ?_, rfl⟩
      show B_M_leastOfRing_5 F M _ _ (nI k) = _
      unfold B_M_leastOfRing_5
      have z := (hc.1 _ (el_mem hk)).1
      have gz := (hg.2.2 _ z).2.2.2
      have ll := lst_le g (c.drop (c.length - k))
      have c1 : (nI c.length ≤ nI k) = False := by rw [nI_leI (by omega) (by omega)]; simp; omega
      simp only [hs.2.2.1, c1, ↓reduceIte, ard_nI (M := M) (a := 111) (k := k) (by show k < 6; omega), ob_some, hs.2.2.2 k hk, ard_nI (M := M) (a := 110) (k := el c k) (by show _ < 12; omega), hs.2.1 _ z, nI_leI (show lst g (c.drop (c.length - k)) < 2 ^ 31 by omega) (show g 2 (el c k) < 2 ^ 31 by omega), nI_1, el_drop hk, lst]
      by_cases q : lst g (c.drop (c.length - k)) ≤ g 2 (el c k)
      · rw [if_pos q, if_neg (by omega)]
      · rw [if_neg q, if_pos (by omega)])
    (fun m s hI => by
      show B_M_leastOfRing_5 F M _ s (nI c.length) = _
      unfold B_M_leastOfRing_5
      rw [hs.2.2.1, if_pos (by rw [nI_leI (by omega) (by omega)]; omega)])
    c.length 0 F 99 (by omega) (by omega) (by rw [Nat.sub_zero, List.drop_length]; rfl)
  rw [nI_0] at n1
  unfold M_leastOfRing
  rw [n1, ob_some, n2, Nat.sub_self, List.drop_zero]
theorem begin_M {F np nd w : Nat} (hF : FB ≤ F) {kn : Nat → Int32} {dr : Nat → Nat → Int32} (s : Int32) {M : Mem} (h : VM M np nd kn dr) (hg : GV np nd w kn dr) : ∃ N, M_beginRings F M s = some N ∧ SMs (gOf s dr) np nd kn dr N [] ∧ (∀ i, nd ≤ i → i < 12 → N 110 i = 0) ∧ (∀ a, a ≠ 100 → a ≠ 110 → N a = M a) ∧ ∀ b, b ≠ 21 → N 100 b = M 100 b := by
  have hF' := FBL hF
  have hnd := hg.2.2.1
  obtain ⟨N, n1, n2, n3, n4⟩ := lpE (fun m k (N : Mem) => L_M_beginRings_2 F s m N (nI k)) (fun k N => (∀ a, a ≠ 110 → N a = M a) ∧ (∀ i, i < k → i < nd → N 110 i = nI (gOf s dr 2 i)) ∧ ∀ i, i < k → nd ≤ i → N 110 i = 0) (fun N => some N) 12
    (fun m k N hk hI => by
      obtain ⟨i1, i2, i3⟩ := hI
      have hm : VM N np nd kn dr := VM_of h (by rw [i1 100 (by omega)]) (i1 101 (by omega)) (i1 102 (by omega))
      have c1 : ((12 : Int32) ≤ nI k) = False := by rw [show (12 : Int32) = nI 12 from rfl, nI_leI (by omega) (by omega)]; simp; omega
      show ∃ s', B_M_beginRings_2 F s _ N (nI k) = _ ∧ _
      unfold B_M_beginRings_2
      by_cases q : nd ≤ k
      · have c2 : (nI nd ≤ nI k) = True := by rw [nI_leI (by omega) (by omega)]; simp; omega
        refine ⟨up N 110 k 0, ?_, fun a ha => by rw [up_cell ha, i1 a ha], fun i a b => by rw [up_ne (by omega), i2 i (by omega) b], fun i a b => ?_⟩
        · simp only [c1, ↓reduceIte, hm.2.1, c2, ob_some, awr_nI (M := N) (a := 110) (k := k) (by show k < 12; omega), nI_1]
        · by_cases e : i = k
          · subst e
            rw [up_same]
          · rw [up_ne (by omega), i3 i (by omega) b]
      · have c2 : (nI nd ≤ nI k) = False := by rw [nI_leI (by omega) (by omega)]; simp; omega
        have hkn : k < nd := by omega
        have q2 : M_of F N (nI k) 2 = some (dr k 2) := M_of_eq hm hkn (j := 2) (by omega)
        have q3 : M_of F N (nI k) 3 = some (dr k 3) := M_of_eq hm hkn (j := 3) (by omega)
        obtain ⟨a, b, cc, kk, v, t, -, -, -, d3, -, -, -, -, -, -, hkk, -⟩ := hg.2.2.2.1 k hkn
        have e3 : kN dr k = kk := by unfold kN; rw [d3, cl (by omega)]
        refine ⟨up N 110 k (nI (gOf s dr 2 k)), ?_, fun a ha => by rw [up_cell ha, i1 a ha], fun i a b => ?_, fun i a b => by rw [up_ne (by omega), i3 i (by omega) b]⟩
        · rw [gOf_2, e3]
          by_cases q4 : dr k 2 = s
          · simp only [c1, ↓reduceIte, hm.2.1, c2, q2, q3, q4, ob_some, d3, awr_nI (M := N) (a := 110) (k := k) (by show k < 12; omega), nI_1]
          · simp only [c1, ↓reduceIte, hm.2.1, c2, q2, q4, ob_some, awr_nI (M := N) (a := 110) (k := k) (by show k < 12; omega), nI_1, nI_0]
        · by_cases e : i = k
          · subst e
            rw [up_same]
          · rw [up_ne (by omega), i2 i (by omega) b])
    (fun m N hI => by
      show B_M_beginRings_2 F s _ N (nI 12) = _
      unfold B_M_beginRings_2
      rw [if_pos (by decide)])
    12 0 F M (by omega) (by omega) ⟨fun _ _ => rfl, fun i hi => absurd hi (by omega), fun i hi => absurd hi (by omega)⟩
  rw [nI_0] at n1
  have f1 : ∀ a, a ≠ 100 → up N 100 21 0 a = N a := fun a ha => up_cell ha
  refine ⟨up N 100 21 0, ?_, ⟨VM_of h (by rw [up_ne (by omega), n2 100 (by omega)]) (by rw [f1 101 (by omega), n2 101 (by omega)]) (by rw [f1 102 (by omega), n2 102 (by omega)]), fun i hi => by rw [f1 110 (by omega)]; exact n3 i (by omega) hi, by rw [up_same]; rfl, fun k hk => absurd hk (by simp)⟩, fun i a b => by rw [f1 110 (by omega)]; exact n4 i b a, fun a h1 h2 => by rw [f1 a h1, n2 a h2], fun b hb => by rw [up_ne (by omega), n2 100 (by omega)]⟩
  unfold M_beginRings
  rw [n1, ob_some]
