/-! ring -/
theorem bel_len {g : Nat → Nat → Nat} {n np : Nat} (hg : Gd g n np) : ∀ (k : Nat) (c : List Nat), c.length + k = 6 → gdC g n c → (bel g n c).length ≤ 12 ^ k := by
  have hn := hg.2.1
  intro k
  induction k with
  | zero =>
    intro c hl hc
    rw [bel_eq (by omega)]
    split
    · split
      · exact Nat.le_refl _
      · exact Nat.zero_le _
    · split
      · exact Nat.zero_le _
      · rename_i h
        have := len_S hg hc (by simpa using h)
        omega
  | succ k ih =>
    intro c hl hc
    have hp : 0 < 12 ^ (k + 1) := Nat.pow_pos (by omega)
    rw [bel_eq (by omega)]
    split
    · split
      · show 1 ≤ _; omega
      · exact Nat.zero_le _
    · split
      · exact Nat.zero_le _
      · rename_i h
        have hs : snB g c = false := by simpa using h
        have := kids_len (f := kid g n c) (B := 12 ^ k) n 0 (fun i _ hi => by
          unfold kid
          split
          · rename_i ho
            exact ih (i :: c) (by rw [List.length_cons]; omega) (gd_push hc hs (by omega) ho)
          · exact Nat.zero_le _)
        have h2 : n * 12 ^ k ≤ 12 * 12 ^ k := Nat.mul_le_mul_right _ hn
        rw [Nat.pow_succ, Nat.mul_comm]
        omega
theorem rest_len2 {g : Nat → Nat → Nat} {n np : Nat} (hg : Gd g n np) : (rest g n [] 0).length ≤ 2985984 := by
  have hn := hg.2.1
  show (kids (kid g n []) (n - 0) 0).length ≤ _
  have := kids_len (f := kid g n []) (B := 12 ^ 5) (n - 0) 0 (fun i _ hi => by
    unfold kid
    split
    · rename_i ho
      exact bel_len hg 5 [i] rfl (gd_push (c := []) ⟨fun x hx => absurd hx (by simp), List.nodup_nil⟩ rfl (by omega) ho)
    · exact Nat.zero_le _)
  have h2 : (n - 0) * 12 ^ 5 ≤ 12 * 12 ^ 5 := Nat.mul_le_mul_right _ (by omega)
  have h3 : (12 : Nat) * 12 ^ 5 = 2985984 := by decide
  omega
def BM (g : Nat → Nat → Nat) (M : Mem) (b : List Nat) : Prop := M 100 23 = nI b.length ∧ (b ≠ [] → M 100 24 = nI (lst g b) ∧ PXc 112 M b)
theorem layCopy_M {F : Nat} (hF : FB ≤ F) {M : Mem} {c : List Nat} {x : Int32} (hl : c.length ≤ 6) (h1 : M 100 21 = nI c.length) (h2 : PXc 111 M c) : ∃ N, L_M_layBest_56 F x F M 0 = some N ∧ PXc 112 N c ∧ ∀ a, a ≠ 112 → N a = M a := by
  have hF' := FBL hF
  obtain ⟨N, n1, n2, n3⟩ := lpE (fun m k (N : Mem) => L_M_layBest_56 F x m N (nI k)) (fun k N => (∀ j, j < k → N 112 j = nI (el c j)) ∧ ∀ a, a ≠ 112 → N a = M a) (fun N => some N) c.length
    (fun m k N hk hI => by
      obtain ⟨i1, i2⟩ := hI
      refine ⟨up N 112 k (nI (el c k)), ?_, fun j hj => ?_, fun a ha => by rw [up_cell ha, i2 a ha]⟩
      · show B_M_layBest_56 F x _ N (nI k) = _
        unfold B_M_layBest_56
        have c1 : (nI c.length ≤ nI k) = False := by rw [nI_leI (by omega) (by omega)]; simp; omega
        have e : N 111 k = nI (el c k) := by rw [i2 111 (by omega), h2 k hk]
        simp only [i2 100 (by omega), h1, c1, ↓reduceIte, ard_nI (M := N) (a := 111) (k := k) (by show k < 6; omega), ob_some, e, awr_nI (M := N) (a := 112) (k := k) (by show k < 6; omega), nI_1]
      · by_cases e : j = k
        · subst e
          rw [up_same]
        · rw [up_ne (by omega), i1 j (by omega)])
    (fun m N hI => by
      show B_M_layBest_56 F x _ N (nI c.length) = _
      unfold B_M_layBest_56
      rw [hI.2 100 (by omega), h1, if_pos (by rw [nI_leI (by omega) (by omega)]; omega)])
    c.length 0 F M (by omega) (by omega) ⟨fun j hj => absurd hj (by omega), fun _ _ => rfl⟩
  rw [nI_0] at n1
  exact ⟨N, n1, n2, n3⟩
def gdR (g : Nat → Nat → Nat) (nd : Nat) (b : List Nat) : Prop := b ≠ [] → gdC g nd b ∧ 3 ≤ b.length
theorem gn_pos {g : Nat → Nat → Nat} {nd : Nat} {c : List Nat} (hc : gdC g nd c) (h3 : 3 ≤ c.length) : 0 < gnR g c := Nat.mul_pos (lst_pos c (fun x hx => (hc.1 x hx).2)) (by omega)
theorem layL_M {F np nd : Nat} (hF : FB ≤ F) {kn : Nat → Int32} {dr : Nat → Nat → Int32} {g : Nat → Nat → Nat} (lk : LK0 nd dr g) (hg : Gd g nd np) : ∀ (R : List (List Nat)) (n : Nat) (M : Mem) (b : List Nat), SR g np nd kn dr M R → R.length < n → b.length ≤ 6 → BM g M b → gdR g nd b → ∃ N, L_M_layBest_12 F n M (nI (gnR g b)) = some N ∧ BM g N (R.foldl (bsS g) b) ∧ gdR g nd (R.foldl (bsS g) b) ∧ ((R ≠ [] ∨ b ≠ []) → R.foldl (bsS g) b ≠ []) ∧ N 100 21 = nI 0 ∧ (∀ a, a ≠ 100 → a ≠ 111 → a ≠ 112 → N a = M a) ∧ ∀ b, b ≠ 21 → b ≠ 23 → b ≠ 24 → N 100 b = M 100 b := by
  intro R
  induction R with
  | nil =>
    intro n M b hs hn hb hB hP
    obtain ⟨n, rfl⟩ : ∃ j, n = j + 1 := ⟨n - 1, by omega⟩
    obtain ⟨ok, N, n1, n2, n3, ⟨-, h2, h3⟩ | ⟨c, R', -, h2, -⟩⟩ := nextRing_M hF lk hg hs
    · refine ⟨N, ?_, ⟨by rw [n3 23 (by omega)]; exact hB.1, fun hb => ⟨by rw [n3 24 (by omega)]; exact (hB.2 hb).1, PXc_of (hB.2 hb).2 (n2 112 (by omega) (by omega))⟩⟩, hP, ?_, h3, fun a h h' _ => n2 a h h', fun b h _ _ => n3 b h⟩
      · show B_M_layBest_12 F _ M _ = _
        unfold B_M_layBest_12
        simp only [n1, ob_some, h2, ↓reduceIte]
      · rintro (h | h)
        · exact absurd rfl h
        · exact h
    · exact absurd h2 (by simp)
  | cons c0 R ih =>
    intro n M b hs hn hb hB hP
    obtain ⟨n, rfl⟩ : ∃ j, n = j + 1 := ⟨n - 1, by omega⟩
    rw [List.length_cons] at hn
    obtain ⟨ok, N, n1, n2, n3, ⟨h1, -⟩ | ⟨c, R', h1, h2, h3, h4, h5, h6⟩⟩ := nextRing_M hF lk hg hs
    · exact absurd h1 (by simp)
    obtain ⟨rfl, rfl⟩ := List.cons.inj h2
    have hl := len_C hg h4
    have em : nI (lst g c0) * N 100 21 = nI (gnR g c0) := by rw [h3.2.2.1]; exact pk_mul _ _
    have gb := gn_le (g := g) hb
    have gc := gn_le (g := g) hl
    have gp := gn_pos h4 h5
    have z10 : ((1 : Int32) = 0) = False := by decide
    have st : L_M_layBest_12 F (n + 1) M (nI (gnR g b)) = if gnR g c0 ≤ gnR g b then L_M_layBest_12 F n N (nI (gnR g b)) else (L_M_layBest_56 F (nI (gnR g c0)) F (up (up N 100 23 (N 100 21)) 100 24 (nI (lst g c0))) 0).bind fun u8 => L_M_layBest_12 F n u8 (nI (gnR g c0)) := by
      show B_M_layBest_12 F _ M _ = _
      unfold B_M_layBest_12
      simp only [n1, ob_some, h1, z10, ↓reduceIte, least_M hF hg h3 h4, em, nI_leI (show gnR g c0 < 2 ^ 31 by omega) (show gnR g b < 2 ^ 31 by omega)]
    rw [st, List.foldl_cons]
    by_cases q : gnR g c0 ≤ gnR g b
    · have eb : bsS g b c0 = b := by unfold bsS; rw [if_pos q]
      have hbn : b ≠ [] := by
        intro h
        subst h
        have : gnR g [] = 99 * 0 := rfl
        omega
      rw [if_pos q, eb]
      obtain ⟨N', m1, m2, m3, m4, m5, m6, m7⟩ := ih n N b h6 (by omega) hb ⟨by rw [n3 23 (by omega)]; exact hB.1, fun hb => ⟨by rw [n3 24 (by omega)]; exact (hB.2 hb).1, PXc_of (hB.2 hb).2 (n2 112 (by omega) (by omega))⟩⟩ hP
      exact ⟨N', m1, m2, m3, fun _ => m4 (Or.inr hbn), m5, fun a h h' h'' => by rw [m6 a h h' h'', n2 a h h'], fun b h h' h'' => by rw [m7 b h h' h'', n3 b h]⟩
    · have eb : bsS g b c0 = c0 := by unfold bsS; rw [if_neg q]
      have hcn : c0 ≠ [] := by
        intro h
        subst h
        exact absurd h5 (by simp)
      rw [if_neg q, eb]
      have w21 : up (up N 100 23 (N 100 21)) 100 24 (nI (lst g c0)) 100 21 = nI c0.length := by rw [up_ne (by omega), up_ne (by omega), h3.2.2.1]
      have w1 : ∀ a, a ≠ 100 → up (up N 100 23 (N 100 21)) 100 24 (nI (lst g c0)) a = N a := fun a ha => by rw [up_cell ha, up_cell ha]
      obtain ⟨U, u1, u2, u3⟩ := layCopy_M hF (x := nI (gnR g c0)) hl w21 (PXc_of h3.2.2.2 (w1 111 (by omega)))
      rw [u1, ob_some]
      have hsU : SR g np nd kn dr U R := SR_of h6 (fun a h h' => by rw [u3 a h', w1 a h]) (fun b hb => by rw [u3 100 (by omega), up_ne (by omega), up_ne (by omega)])
      obtain ⟨N', m1, m2, m3, m4, m5, m6, m7⟩ := ih n U c0 hsU (by omega) hl ⟨by rw [u3 100 (by omega), up_ne (by omega), up_same, h3.2.2.1], fun _ => ⟨by rw [u3 100 (by omega), up_same], u2⟩⟩ (fun _ => ⟨h4, h5⟩)
      exact ⟨N', m1, m2, m3, fun _ => m4 (Or.inr hcn), m5, fun a h h' h'' => by rw [m6 a h h' h'', u3 a h'', w1 a h, n2 a h h'], fun b h h' h'' => by rw [m7 b h h' h'', u3 100 (by omega), up_ne (by omega), up_ne (by omega), n3 b h]⟩
theorem layBest_M {F np nd : Nat} (hF : FB ≤ F) {kn : Nat → Int32} {dr : Nat → Nat → Int32} {g : Nat → Nat → Nat} (lk : LK0 nd dr g) (hg : Gd g nd np) {M : Mem} {c : List Nat} (hs : SMs g np nd kn dr M c) : ∃ N, M_layBest F M = some (if rest g nd [] 0 = [] then 0 else 1, N) ∧ SMs g np nd kn dr N [] ∧ BM g N (bst g (rest g nd [] 0)) ∧ gdR g nd (bst g (rest g nd [] 0)) ∧ (rest g nd [] 0 ≠ [] → bst g (rest g nd [] 0) ≠ []) ∧ (∀ a, a ≠ 100 → a ≠ 111 → a ≠ 112 → N a = M a) ∧ ∀ b, b ≠ 21 → b ≠ 23 → b ≠ 24 → N 100 b = M 100 b := by
  have hlen := rest_len2 hg
  have hF2 : 2985984 < F := by unfold FB at hF; omega
  have hs0 : SMs g np nd kn dr (up (up M 100 23 0) 100 21 0) [] := ⟨VM_of hs.1 (by rw [up_ne (by omega), up_ne (by omega)]) (by rw [up_cell (by omega), up_cell (by omega)]) (by rw [up_cell (by omega), up_cell (by omega)]), fun i hi => by rw [up_cell (by omega), up_cell (by omega)]; exact hs.2.1 i hi, by rw [up_same]; rfl, fun k hk => absurd hk (by simp)⟩
  obtain ⟨N, n1, n2, n3, n4, n5, n6, n7⟩ := layL_M hF lk hg (rest g nd [] 0) F _ [] (Or.inl ⟨hs0, rfl⟩) (by omega) (by simp) ⟨by rw [up_ne (by omega), up_same]; rfl, fun h => absurd rfl h⟩ (fun h => absurd rfl h)
  have eg : nI (gnR g []) = 0 := by show nI (99 * 0) = 0; rfl
  rw [eg] at n1
  have fr : ∀ a, a ≠ 100 → a ≠ 111 → a ≠ 112 → N a = M a := fun a h h' h'' => by rw [n6 a h h' h'', up_cell h, up_cell h]
  have fb : ∀ b, b ≠ 21 → b ≠ 23 → b ≠ 24 → N 100 b = M 100 b := fun b h h' h'' => by rw [n7 b h h' h'', up_ne (by omega), up_ne (by omega)]
  refine ⟨N, ?_, ⟨VM_of hs.1 (fb 1 (by omega) (by omega) (by omega)) (fr 101 (by omega) (by omega) (by omega)) (fr 102 (by omega) (by omega) (by omega)), fun i hi => by rw [fr 110 (by omega) (by omega) (by omega)]; exact hs.2.1 i hi, n5, fun k hk => absurd hk (by simp)⟩, n2, n3, fun h => n4 (Or.inl h), fr, fb⟩
  unfold M_layBest
  rw [n1, ob_some, n2.1]
  show (if nI (bst g (rest g nd [] 0)).length ≤ 0 then some ((0 : Int32), N) else some (1, N)) = _
  by_cases q : rest g nd [] 0 = []
  · rw [q]
    rfl
  · have hb : bst g (rest g nd [] 0) ≠ [] := n4 (Or.inl q)
    have h3 := (n3 hb).2
    have h6 := len_C hg (n3 hb).1
    have : 3 ≤ (bst g (rest g nd [] 0)).length ∧ (bst g (rest g nd [] 0)).length ≤ 6 := ⟨h3, h6⟩
    rw [if_neg q, if_neg (by rw [← nI_0, nI_leI (by omega) (by omega)]; omega)]
