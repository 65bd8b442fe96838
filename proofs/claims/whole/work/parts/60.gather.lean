/-! the pairs that owe: both lists -/
def opB (nd : Nat) (dr : Nat → Nat → Int32) (p q : Nat) : Bool := tb (reachS nd dr (1 <<< (nI p &&& 31))) q || tb (reachS nd dr (1 <<< (nI q &&& 31))) p
def inP (op : Nat → Nat → Bool) (p d : Nat) (l : List (Nat × Nat)) : List (Nat × Nat) := if op p (p + 1 + d) = true then l ++ [(p, p + 1 + d)] else l
def plist (op : Nat → Nat → Bool) (np : Nat) : List (Nat × Nat) := fo (fun p l => fo (inP op p) (np - (p + 1)) 0 l) np 0 []
def tri (p : Nat) : Nat := if p = 0 then 0 else if p = 1 then 5 else if p = 2 then 9 else if p = 3 then 12 else if p = 4 then 14 else 15
theorem tri_step {p : Nat} (h : p < 6) : tri p + (5 - p) = tri (p + 1) := by
  rcases (show p = 0 ∨ p = 1 ∨ p = 2 ∨ p = 3 ∨ p = 4 ∨ p = 5 by omega) with rfl | rfl | rfl | rfl | rfl | rfl <;> rfl
theorem tri_le (p : Nat) : tri p ≤ 15 := by
  unfold tri
  repeat' split
  all_goals omega
def GX (M : Mem) (l : List (Nat × Nat)) : Prop := M 70 0 = nI l.length ∧ ∀ k a b, l[k]? = some (a, b) → M 71 k = nI a ∧ M 72 k = nI b
def GM (M : Mem) (l : List (Nat × Nat)) : Prop := M 100 26 = nI l.length ∧ ∀ k a b, l[k]? = some (a, b) → M 113 (2 * k) = nI a ∧ M 113 (2 * k + 1) = nI b
theorem get_snoc {l : List (Nat × Nat)} {x : Nat × Nat} {k a b : Nat} (h : (l ++ [x])[k]? = some (a, b)) : (k < l.length ∧ l[k]? = some (a, b)) ∨ (k = l.length ∧ x = (a, b)) := by
  rcases Nat.lt_or_ge k l.length with hk | hk
  · rw [List.getElem?_append_left hk] at h
    exact Or.inl ⟨hk, h⟩
  · rw [List.getElem?_append_right hk] at h
    rcases Nat.eq_or_lt_of_le hk with e | e
    · subst e
      simp at h
      exact Or.inr ⟨rfl, h⟩
    · rw [List.getElem?_eq_none (by simp; omega)] at h
      exact absurd h (by simp)
theorem VX_of {M N : Mem} {v np nd : Nat} {kn : Nat → Int32} {dr : Nat → Nat → Int32} (h : VX M v np nd kn dr) (e : ∀ a, v ≤ a → a ≤ v + 14 → N a = M a) : VX N v np nd kn dr := by
  obtain ⟨h1, h2, h3, h4, h5, h6, h7, h8⟩ := h
  exact ⟨h1, h2, by rw [e v (by omega) (by omega), h3], by rw [e v (by omega) (by omega), h4], h5, h6, fun p hp => by rw [e (v + 1) (by omega) (by omega), h7 p hp], fun i hi j hj => by rw [e (v + 2 + 1 + i) (by omega) (by omega), h8 i hi j hj]⟩
theorem gatherIn_X {F : Nat} (hF : FB ≤ F) {M : Mem} {np nd p : Nat} {kn : Nat → Int32} {dr : Nat → Nat → Int32} {l0 : List (Nat × Nat)} (h : VX M 23 np nd kn dr) (hb : BN nd dr) (hp : p < np) (hg : GX M l0) (hl : l0.length ≤ tri p) : ∃ N, L_O_gather_28 F 23 (nI p) (reachS nd dr (1 <<< (nI p &&& 31))) F M (nI (p + 1)) = some N ∧ GX N (fo (inP (opB nd dr) p) (np - (p + 1)) 0 l0) ∧ (fo (inP (opB nd dr) p) (np - (p + 1)) 0 l0).length ≤ tri (p + 1) ∧ ∀ a, a < 70 ∨ 72 < a → N a = M a := by
  have hF' := FBL hF
  have hnp := h.2.2.2.2.1
  have hts := tri_step (p := p) (by omega)
  have htl := tri_le (p + 1)
  obtain ⟨s', h1, h2, h3, h4, h5⟩ := lpE (fun m d (s : Mem × List (Nat × Nat)) => L_O_gather_28 F 23 (nI p) (reachS nd dr (1 <<< (nI p &&& 31))) m s.1 (nI (p + 1 + d))) (fun d s => s.2 = fo (inP (opB nd dr) p) d 0 l0 ∧ GX s.1 s.2 ∧ s.2.length ≤ tri p + d ∧ ∀ a, a < 70 ∨ 72 < a → s.1 a = M a) (fun s => some s.1) (np - (p + 1))
    (fun m d s hd hI => by
      obtain ⟨N, l⟩ := s
      obtain ⟨i1, i2, i3, i4⟩ := hI
      simp only at i1 i2 i3 i4
      have hx := VX_of h (N := N) (fun a h1 h2 => i4 a (by omega))
      have hc : (nI np ≤ nI (p + 1 + d)) = False := by rw [nI_leI (by omega) (by omega)]; simp; omega
      have ll : l.length < 15 := by omega
      have c15 : (15 ≤ nI l.length) = False := by rw [lit 15, nI_leI (by omega) (by omega)]; simp; omega
      have fs : fo (inP (opB nd dr) p) (d + 1) 0 l0 = inP (opB nd dr) p d l := by rw [fo_succ, Nat.zero_add, ← i1]
      have l71 : l.length < ln 71 := ll
      have l72 : l.length < ln 72 := ll
      have step : L_O_gather_28 F 23 (nI p) (reachS nd dr (1 <<< (nI p &&& 31))) (m + 1) N (nI (p + 1 + d)) = if opB nd dr p (p + 1 + d) = true then L_O_gather_28 F 23 (nI p) (reachS nd dr (1 <<< (nI p &&& 31))) m (up (up (up N 71 l.length (nI p)) 72 l.length (nI (p + 1 + d))) 70 0 (nI (l.length + 1))) (nI (p + 1 + (d + 1))) else L_O_gather_28 F 23 (nI p) (reachS nd dr (1 <<< (nI p &&& 31))) m N (nI (p + 1 + (d + 1))) := by
        show B_O_gather_28 F 23 (nI p) (reachS nd dr (1 <<< (nI p &&& 31))) _ N (nI (p + 1 + d)) = _
        unfold B_O_gather_28
        have w1 : awr N 71 (nI l.length) (nI p) = some (up N 71 l.length (nI p)) := awr_nI l71
        have w2 : awr (up N 71 l.length (nI p)) 72 (nI l.length) (nI (p + 1 + d)) = some (up (up N 71 l.length (nI p)) 72 l.length (nI (p + 1 + d))) := awr_nI l72
        have u1 : up N 71 l.length (nI p) 70 0 = nI l.length := by rw [up_cell (by omega), i2.1]
        have u2 : up (up N 71 l.length (nI p)) 72 l.length (nI (p + 1 + d)) 70 0 = nI l.length := by rw [up_cell (by omega), u1]
        have z10 : ((1 : Int32) = 0) = False := by decide
        simp only [hx.2.2.1, hc, ↓reduceIte, and_bit' (show p + 1 + d < 31 by omega), and_bit' (show p < 31 by omega), V_owedByAny_eq hF hx hb, ob_some, i2.1, c15, w1, w2, u1, u2, nI_1]
        by_cases q1 : tb (reachS nd dr (1 <<< (nI p &&& 31))) (p + 1 + d) = false
        · by_cases q2 : tb (reachS nd dr (1 <<< (nI (p + 1 + d) &&& 31))) p = false
          · simp only [opB, q1, q2, ↓reduceIte, ob_some, Bool.or_self, Bool.false_eq_true]; rfl
          · have q2' : tb (reachS nd dr (1 <<< (nI (p + 1 + d) &&& 31))) p = true := by simpa using q2
            simp only [opB, q1, q2', ↓reduceIte, ob_some, Bool.or_true, Bool.true_eq_false, z10]; rfl
        · have q1' : tb (reachS nd dr (1 <<< (nI p &&& 31))) (p + 1 + d) = true := by simpa using q1
          simp only [opB, q1', ↓reduceIte, ob_some, Bool.true_or, Bool.true_eq_false, z10]; rfl
      by_cases c : opB nd dr p (p + 1 + d) = true
      · refine ⟨(up (up (up N 71 l.length (nI p)) 72 l.length (nI (p + 1 + d))) 70 0 (nI (l.length + 1)), l ++ [(p, p + 1 + d)]), ?_, ?_, ⟨?_, fun k a b hk => ?_⟩, ?_, fun a ha => ?_⟩
        · show L_O_gather_28 F 23 (nI p) (reachS nd dr (1 <<< (nI p &&& 31))) (m + 1) N (nI (p + 1 + d)) = _
          rw [step, if_pos c]
        · rw [fs]; simp only [inP, c, ↓reduceIte]
        · simp only [up_same, List.length_append, List.length_cons, List.length_nil]
        · simp only
          rcases get_snoc hk with ⟨k1, k2⟩ | ⟨k1, k2⟩
          · have := i2.2 k a b k2
            rw [up_cell (by omega), up_cell (by omega), up_ne (by omega), up_cell (by omega), up_ne (by omega), up_cell (by omega)]
            exact this
          · subst k1
            obtain ⟨rfl, rfl⟩ := Prod.mk.inj k2
            rw [up_cell (by omega), up_cell (by omega), up_same, up_cell (by omega), up_same]
            exact ⟨rfl, rfl⟩
        · simp only [List.length_append, List.length_cons, List.length_nil]; omega
        · simp only
          rw [up_cell (by omega), up_cell (by omega), up_cell (by omega), i4 a ha]
      · refine ⟨(N, l), ?_, ?_, i2, ?_, i4⟩
        · show L_O_gather_28 F 23 (nI p) (reachS nd dr (1 <<< (nI p &&& 31))) (m + 1) N (nI (p + 1 + d)) = _
          rw [step, if_neg c]
        · rw [fs]; simp only [inP, c, ↓reduceIte, Bool.false_eq_true]
        · simp only; omega)
    (fun m s hI => by
      show B_O_gather_28 F 23 (nI p) (reachS nd dr (1 <<< (nI p &&& 31))) _ s.1 (nI (p + 1 + (np - (p + 1)))) = _
      unfold B_O_gather_28
      rw [hI.2.2.2 23 (by omega), h.2.2.1, if_pos (by rw [nI_leI (by omega) (by omega)]; omega)])
    (np - (p + 1)) 0 F (M, l0) (by omega) (by omega) ⟨rfl, hg, by simp only; omega, fun _ _ => rfl⟩
  refine ⟨s'.1, h1, by rw [← h2]; exact h3, by rw [← h2]; omega, h5⟩
