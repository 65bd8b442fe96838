/-! pairs -/
theorem Rel_scr {M1 M2 N1 N2 : Mem} (hR : Rel M1 M2) (f1 : ∀ a, a ≠ 0 → (a < 38 ∨ (52 < a ∧ a < 66) ∨ a = 76) → N1 a = M1 a) (f0 : ∀ b, b ≠ 11 → N1 0 b = M1 0 b) (g1 : ∀ a, 101 ≤ a → a ≤ 107 → N2 a = M2 a) (g0 : ∀ b, b = 1 ∨ b = 8 ∨ b = 9 ∨ b = 10 → N2 100 b = M2 100 b) (e : N1 0 11 = N2 100 7) : Rel N1 N2 := by
  obtain ⟨⟨a1, a2, a3, a4, a5⟩, hr, ht, np, nd, D, hc⟩ := hR
  refine ⟨⟨?_, e, ?_, ?_, ?_⟩, RelR_of hr (fun k h h' => f1 k (by omega) (by omega)) (g1 _ (by omega) (by omega)) (g1 _ (by omega) (by omega)), RelT_of ht (fun k h h' => f1 k (by omega) (by omega)) (g1 _ (by omega) (by omega)) (g1 _ (by omega) (by omega)), np, nd, D, RelC_of hc (fun k h => f1 k (by omega) (by omega)) (g0 1 (by omega)) (g1 _ (by omega) (by omega)) (g1 _ (by omega) (by omega))⟩
  · rw [f0 10 (by omega), g0 10 (by omega), a1]
  · rw [f0 12 (by omega), g0 8 (by omega), a3]
  · rw [f0 13 (by omega), g0 9 (by omega), a4]
  · intro f h1 h5
    rw [f1 76 (by omega) (by omega), g1 107 (by omega) (by omega)]
    exact a5 f h1 h5
def PInv (np p d : Nat) (l : List (Nat × Nat)) : Prop := (∀ k a b : Nat, l[k]? = some (a, b) → a < b ∧ b < np ∧ (a < p ∨ (a = p ∧ b < p + 1 + d))) ∧ ∀ k k' a b : Nat, l[k]? = some (a, b) → l[k']? = some (a, b) → k = k'
theorem PInv_in {op : Nat → Nat → Bool} {np p d : Nat} {l : List (Nat × Nat)} (h : PInv np p d l) (hd : p + 1 + d < np) : PInv np p (d + 1) (inP op p d l) := by
  unfold inP
  split
  · refine ⟨fun k a b hk => ?_, fun k k' a b hk hk' => ?_⟩
    · rcases get_snoc hk with ⟨-, k2⟩ | ⟨-, k2⟩
      · have := h.1 k a b k2; omega
      · obtain ⟨rfl, rfl⟩ := Prod.mk.inj k2; omega
    · rcases get_snoc hk with ⟨k1, k2⟩ | ⟨k1, k2⟩ <;> rcases get_snoc hk' with ⟨k1', k2'⟩ | ⟨k1', k2'⟩
      · exact h.2 k k' a b k2 k2'
      · obtain ⟨rfl, rfl⟩ := Prod.mk.inj k2'
        have := h.1 k _ _ k2; omega
      · obtain ⟨rfl, rfl⟩ := Prod.mk.inj k2
        have := h.1 k' _ _ k2'; omega
      · omega
  · exact ⟨fun k a b hk => by have := h.1 k a b hk; omega, h.2⟩
theorem plist_inv (op : Nat → Nat → Bool) (np : Nat) : PInv np np 0 (plist op np) := by
  unfold plist
  refine fo_inv _ (fun p l => PInv np p 0 l) np (fun p l hp hI => ?_) np 0 [] (by omega) ⟨fun k a b hk => absurd hk (by simp), fun k k' a b hk => absurd hk (by simp)⟩
  have := fo_inv (inP op p) (fun d l => PInv np p d l) (np - (p + 1)) (fun d l hd hI => PInv_in hI (by omega)) (np - (p + 1)) 0 l (by omega) hI
  exact ⟨fun k a b hk => by have := this.1 k a b hk; omega, this.2⟩
def gvT (nd : Nat) (kn : Nat → Int32) (dr : Nat → Nat → Int32) (p q : Nat) : Nat := gvA nd kn dr p q 0 + gvB nd kn dr p q 0 + gvA nd kn dr p q 1 + gvB nd kn dr p q 1 + gvA nd kn dr p q 2 + gvB nd kn dr p q 2
theorem gvT_congr {nd : Nat} {kn : Nat → Int32} {d dr : Nat → Nat → Int32} {p q : Nat} (h : ∀ t, betwN d (nI p) (nI q) t nd = betwN dr (nI p) (nI q) t nd ∧ betwN d (nI q) (nI p) t nd = betwN dr (nI q) (nI p) t nd) : gvT nd kn d p q = gvT nd kn dr p q := by
  have j : ∀ t, gvJ nd d (nI p) (nI q) t = gvJ nd dr (nI p) (nI q) t := fun t => by unfold gvJ netN; rw [(h (nI t)).1, (h (nI t)).2]
  have a : ∀ t, gvA nd kn d p q t = gvA nd kn dr p q t := fun t => by unfold gvA; rw [(h (nI t)).1, j]
  have b : ∀ t, gvB nd kn d p q t = gvB nd kn dr p q t := fun t => by unfold gvB; rw [(h (nI t)).2, j]
  unfold gvT
  rw [a, a, a, b, b, b]
theorem pay_sum {nd : Nat} {kn : Nat → Int32} {d : Nat → Nat → Int32} (hk : KN nd d) {p q : Nat} (hp : p < 6) (hq : q < 6) (hpq : p ≠ q) (hs : ∀ i, i < nd → d i 2 = nI 0 ∨ d i 2 = nI 1 ∨ d i 2 = nI 2) : fo (fun i (s : Int32) => if payC kn (nst nd d (nI p) (nI q) 2) (nI p) (nI q) i = true then s + nst nd d (nI p) (nI q) 2 i 3 else s) nd 0 0 = nI (gvT nd kn d p q) := by
  have npq : ¬ nI p = nI q := fun e => hpq (nI_inj (by omega) (by omega) e)
  have hk4 := nst_KN hk (nI p) (nI q) 2
  obtain ⟨nb1, nb2, nb3⟩ := nst_betw hk npq
  rw [foS (fun i hi => (hk4 i hi).1) nd (Nat.le_refl _), fo_pay hpq hp hq (fun i hi => by rw [nst_ne (by omega)]; exact hs i hi) nd (Nat.le_refl _)]
  rw [nb1 0 (by omega), nb1 1 (by omega), nb1 2 (by omega), nb2 0 (by omega), nb2 1 (by omega), nb2 2 (by omega)]
  congr 1
  unfold gvT gvA gvB
  by_cases k1 : kn p = 2 <;> by_cases k2 : kn q = 2 <;> simp only [k1, k2, ↓reduceIte] <;> omega
theorem payD_KN {nd : Nat} {kn : Nat → Int32} {d : Nat → Nat → Int32} (h : KN nd d) (p q : Int32) : KN nd (payD kn d p q) := by
  intro i hi
  have := h i hi
  by_cases c : payC kn d p q i = true
  · have e : payD kn d p q i 3 = 0 := by unfold payD; rw [if_pos ⟨rfl, c⟩]
    unfold kN
    rw [e]
    exact ⟨rfl, by decide⟩
  · have e : payD kn d p q i 3 = d i 3 := by unfold payD; rw [if_neg (fun x => c x.2)]
    unfold kN
    rw [e]
    exact this
def gval (nd : Nat) (kn : Nat → Int32) (dr : Nat → Nat → Int32) (l : List (Nat × Nat)) (k : Nat) : Int32 := match l[k]? with
  | some (a, b) => nI (gvT nd kn dr a b)
  | none => 0
theorem pairsL_M {F : Nat} (hF : FB ≤ F) {M : Mem} {np nd : Nat} {kn : Nat → Int32} {dr : Nat → Nat → Int32} {l : List (Nat × Nat)} (h : VM M np nd kn dr) (hk : KN nd dr) (hg : GM M l) (hl : l.length ≤ 15) (hi : ∀ k a b : Nat, l[k]? = some (a, b) → a < np ∧ b < np) (h7 : M 100 7 = 0) : ∃ N, L_M_pairs_11 F F M 0 = some N ∧ N 100 7 = fo (fun k (s : Int32) => s + gval nd kn dr l k) l.length 0 0 ∧ (∀ a, a ≠ 100 → N a = M a) ∧ ∀ b, b ≠ 7 → N 100 b = M 100 b := by
  have hF' := FBL hF
  obtain ⟨N, n1, n2, n3, n4⟩ := lpE (fun m k (N : Mem) => L_M_pairs_11 F m N (nI k)) (fun k N => N 100 7 = fo (fun k (s : Int32) => s + gval nd kn dr l k) k 0 0 ∧ (∀ a, a ≠ 100 → N a = M a) ∧ ∀ b, b ≠ 7 → N 100 b = M 100 b) (fun N => some N) l.length
    (fun m k N hk' hI => by
      obtain ⟨i1, i2, i3⟩ := hI
      have hx := VM_of h (N := N) (i3 1 (by omega)) (i2 _ (by omega)) (i2 _ (by omega))
      have hc : (nI l.length ≤ nI k) = False := by rw [nI_leI (by omega) (by omega)]; simp; omega
      obtain ⟨⟨a, b⟩, eab⟩ : ∃ x, l[k]? = some x := ⟨l[k], List.getElem?_eq_getElem hk'⟩
      obtain ⟨e1, e2⟩ := hg.2 k a b eab
      obtain ⟨ha, hb⟩ := hi k a b eab
      have x1 : 2 * nI k = nI (2 * k) := by rw [lit 2, pk_mul]
      have r1 : ard N 113 (nI (2 * k)) = some (nI a) := by rw [ard_nI (by show _ < 30; omega), i2 _ (by omega), e1]
      have r2 : ard N 113 (nI (2 * k + 1)) = some (nI b) := by rw [ard_nI (by show _ < 30; omega), i2 _ (by omega), e2]
      have eg : gval nd kn dr l k = nI (gvT nd kn dr a b) := by unfold gval; rw [eab]
      have gv := given_M hF hx hk ha hb
      have gv' : M_given F N (nI a) (nI b) = some (nI (gvT nd kn dr a b)) := gv
      refine ⟨up N 100 7 (N 100 7 + nI (gvT nd kn dr a b)), ?_, ?_, fun a ha => by rw [up_cell ha, i2 a ha], fun b hb => by rw [up_ne (by omega), i3 b hb]⟩
      · show B_M_pairs_11 F _ N (nI k) = _
        unfold B_M_pairs_11
        rw [i3 26 (by omega), hg.1]
        simp only [hc, ↓reduceIte, x1, r1, nI_1, r2, ob_some, gv']
      · rw [up_same, fo_succ, Nat.zero_add, i1, eg])
    (fun m N hI => by
      show B_M_pairs_11 F _ N (nI l.length) = _
      unfold B_M_pairs_11
      rw [hI.2.2 26 (by omega), hg.1, if_pos (by rw [nI_leI (by omega) (by omega)]; omega)])
    l.length 0 F M (by omega) (by omega) ⟨h7, fun _ _ => rfl, fun _ _ => rfl⟩
  rw [nI_0] at n1
  exact ⟨N, n1, n2, n3, n4⟩
