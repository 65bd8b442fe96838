/-! mark: the rings through one -/
def inN (g : Nat → Nat → Nat) (p : Nat) (c : List Nat) : Nat := if p ∈ c.map (g 0) then 1 else 0
theorem thr_M {F np nd p : Nat} (hF : FB ≤ F) {kn : Nat → Int32} {dr : Nat → Nat → Int32} {g : Nat → Nat → Nat} (lk : LK0 nd dr g) (hg : Gd g nd np) {M : Mem} {c : List Nat} {x3 : Int32} (hs : SMs g np nd kn dr M c) (hc : gdC g nd c) (hp : p < 6) : L_M_ringsOf_20 F M (nI p) x3 F 0 0 = some (nI (inN g p c)) := by
  have hF' := FBL hF
  have hl := len_C hg hc
  have hnp := hg.1
  obtain ⟨s', n1, n2⟩ := lpE (fun m k (s : Int32) => L_M_ringsOf_20 F M (nI p) x3 m s (nI k)) (fun k s => s = nI (inN g p (c.drop (c.length - k)))) (fun s => some s) c.length
    (fun m k s hk hI => by
      subst hI
      refine ⟨nI (inN g p (c.drop (c.length - (k + 1)))), ?_, rfl⟩
      show B_M_ringsOf_20 F M (nI p) x3 _ _ (nI k) = _
      unfold B_M_ringsOf_20
      have z := (hc.1 _ (el_mem hk)).1
      have gz := (hg.2.2 _ z).1
      have c1 : (nI c.length ≤ nI k) = False := by rw [nI_leI (by omega) (by omega)]; simp; omega
      have q0 : M_of F M (nI (el c k)) 0 = some (nI (g 0 (el c k))) := by rw [← (lk _ z).1]; exact M_of_eq hs.1 z (j := 0) (by omega)
      simp only [hs.2.2.1, c1, ↓reduceIte, ard_nI (M := M) (a := 111) (k := k) (by show k < 6; omega), ob_some, hs.2.2.2 k hk, q0, nI_eq (show g 0 (el c k) < 2 ^ 31 by omega) (show p < 2 ^ 31 by omega), nI_1, el_drop hk]
      unfold inN
      by_cases q : p ∈ (c.drop (c.length - k)).map (g 0)
      · have q' : p ∈ (el c k :: c.drop (c.length - k)).map (g 0) := by rw [List.map_cons]; exact List.mem_cons_of_mem _ q
        have z1 : (nI 1 = (0 : Int32)) = False := by decide
        simp only [q, q', ↓reduceIte, z1]
        rfl
      · have z0 : (nI 0 = (0 : Int32)) = True := by decide
        by_cases q2 : g 0 (el c k) = p
        · have q' : p ∈ (el c k :: c.drop (c.length - k)).map (g 0) := by rw [List.map_cons, q2]; exact List.mem_cons_self ..
          simp only [q, q', q2, ↓reduceIte, z0]
          rfl
        · have q' : ¬ p ∈ (el c k :: c.drop (c.length - k)).map (g 0) := by
            rw [List.map_cons, List.mem_cons]
            rintro (h | h)
            · exact q2 h.symm
            · exact q h
          simp only [q, q', q2, ↓reduceIte, z0]
          rfl)
    (fun m s hI => by
      show B_M_ringsOf_20 F M (nI p) x3 _ s (nI c.length) = _
      unfold B_M_ringsOf_20
      rw [hs.2.2.1, if_pos (by rw [nI_leI (by omega) (by omega)]; omega)])
    c.length 0 F 0 (by omega) (by omega) (by rw [Nat.sub_zero, List.drop_length]; rfl)
  rw [nI_0] at n1
  rw [n1, n2, Nat.sub_self, List.drop_zero]
theorem ringsOfL_M {F np nd p : Nat} (hF : FB ≤ F) {kn : Nat → Int32} {dr : Nat → Nat → Int32} {g : Nat → Nat → Nat} (lk : LK0 nd dr g) (hg : Gd g nd np) (hp : p < 6) : ∀ (R : List (List Nat)) (n : Nat) (M : Mem) (x3 : Int32), SR g np nd kn dr M R → R.length < n → ∃ N, L_M_ringsOf_7 F (nI p) n M x3 = some (x3 + nI (cnt g p R), N) ∧ (∀ a, a ≠ 100 → a ≠ 111 → N a = M a) ∧ ∀ b, b ≠ 21 → N 100 b = M 100 b := by
  intro R
  induction R with
  | nil =>
    intro n M x3 hs hn
    obtain ⟨n, rfl⟩ : ∃ j, n = j + 1 := ⟨n - 1, by omega⟩
    obtain ⟨ok, N, n1, n2, n3, ⟨-, h2, h3⟩ | ⟨c, R', -, h2, -⟩⟩ := nextRing_M hF lk hg hs
    · refine ⟨N, ?_, n2, n3⟩
      show B_M_ringsOf_7 F (nI p) _ M x3 = _
      unfold B_M_ringsOf_7
      simp only [n1, ob_some, h2, ↓reduceIte]
      show some (x3, N) = some (x3 + 0, N)
      rw [Int32.add_zero]
    · exact absurd h2 (by simp)
  | cons c0 R ih =>
    intro n M x3 hs hn
    obtain ⟨n, rfl⟩ : ∃ j, n = j + 1 := ⟨n - 1, by omega⟩
    rw [List.length_cons] at hn
    obtain ⟨ok, N, n1, n2, n3, ⟨h1, -⟩ | ⟨c, R', h1, h2, h3, h4, h5, h6⟩⟩ := nextRing_M hF lk hg hs
    · exact absurd h1 (by simp)
    obtain ⟨rfl, rfl⟩ := List.cons.inj h2
    have z10 : ((1 : Int32) = 0) = False := by decide
    have cc : cnt g p (c0 :: R) = cnt g p R + inN g p c0 := by
      unfold cnt inN
      rw [List.countP_cons]
      congr 1
      by_cases q : p ∈ c0.map (g 0)
      · rw [if_pos q, if_pos (List.contains_iff_mem.mpr q)]
      · rw [if_neg q, if_neg (fun h => q (List.contains_iff_mem.mp h))]
    obtain ⟨N', m1, m2, m3⟩ := ih n N (x3 + nI (inN g p c0)) h6 (by omega)
    refine ⟨N', ?_, fun a h h' => by rw [m2 a h h', n2 a h h'], fun b h => by rw [m3 b h, n3 b h]⟩
    show B_M_ringsOf_7 F (nI p) _ M x3 = _
    unfold B_M_ringsOf_7
    have e : x3 + nI (cnt g p (c0 :: R)) = x3 + nI (inN g p c0) + nI (cnt g p R) := by
      rw [cc, ← nI_add]
      grind
    rw [e, ← m1]
    simp only [n1, ob_some, h1, z10, ↓reduceIte, thr_M hF lk hg h3 h4 hp]
    unfold inN
    by_cases q : p ∈ c0.map (g 0)
    · have z1 : (nI 1 = (0 : Int32)) = False := by decide
      simp only [q, ↓reduceIte, z1]
      rfl
    · have z0 : (nI 0 = (0 : Int32)) = True := by decide
      simp only [q, ↓reduceIte, z0]
      rfl
theorem ringsOf_M {F np nd w p : Nat} (hF : FB ≤ F) {kn : Nat → Int32} {dr : Nat → Nat → Int32} (s : Int32) {M : Mem} (h : VM M np nd kn dr) (hg : GV np nd w kn dr) (hp : p < 6) : ∃ N, M_ringsOf F M (nI p) s = some (nI (cnt (gOf s dr) p (rest (gOf s dr) nd [] 0)), N) ∧ (∀ a, a ≠ 100 → a ≠ 110 → a ≠ 111 → N a = M a) ∧ ∀ b, b ≠ 21 → N 100 b = M 100 b := by
  have lk := LK_of s hg.2.1 hg.2.2.2.1
  have gd := Gd_of s hg.2.1 hg.2.2.1 hg.2.2.2.1
  have hlen := rest_len (g := gOf s dr) (n := nd) hg.2.2.1
  have hF2 : (12 : Nat) ^ 9 < F := by
    have : (12 : Nat) ^ 9 < FB := by unfold FB; decide
    omega
  obtain ⟨B, b1, b2, -, b3, b4⟩ := begin_M hF s h hg
  obtain ⟨N, n1, n2, n3⟩ := ringsOfL_M hF (LK0_of lk) gd hp (rest (gOf s dr) nd [] 0) F B 0 (Or.inl ⟨b2, rfl⟩) (by omega)
  refine ⟨N, ?_, fun a h1 h2 h3 => by rw [n2 a h1 h3, b3 a h1 h2], fun b hb => by rw [n3 b hb, b4 b hb]⟩
  unfold M_ringsOf
  rw [b1, ob_some, n1, ob_some, Int32.zero_add]
theorem op_mark {F : Nat} (hF : FB ≤ F) (M1 M2 : Mem) (a0 : Int32) (a1 : Int32) (hR : Rel M1 M2) : ∃ (r : Int32) (M1' : Mem) (M2' : Mem), K_mark F M1 a0 a1 = some (r, M1') ∧ M_mark F M2 a0 a1 = some (r, M2') ∧ Rel M1' M2' := by
  refine op_mark_of hF M1 M2 a0 a1 hR ?_
  intro np p e1 hnp6 hp
  obtain ⟨np', nd, D, hc⟩ := hR.2.2.2
  obtain ⟨kn, dr, hx, hm, hg, -, -⟩ := hc.views
  have enp : np' = np := by
    have := hx.2.2.1
    rw [e1] at this
    have h6 := hg.2.1
    exact (nI_inj (by omega) (by omega) this).symm
  subst enp
  have hp6 : p < 6 := by have := hg.2.1; omega
  obtain ⟨A, x1, x2, x3⟩ := rings_X hF (Or.inl rfl) hx (LK_of 0 hg.2.1 hg.2.2.2.1) (Gd_of 0 hg.2.1 hg.2.2.1 hg.2.2.2.1)
  have hxA : VX A 23 np' nd kn dr := VX_of hx (fun a h1 h2 => x3 a (by omega))
  obtain ⟨B, y1, y2, y3⟩ := rings_X hF (Or.inl rfl) hxA (LK_of 1 hg.2.1 hg.2.2.2.1) (Gd_of 1 hg.2.1 hg.2.2.1 hg.2.2.2.1)
  obtain ⟨P, p1, p2, p3⟩ := ringsOf_M hF 0 hm hg hp6
  have hmP : VM P np' nd kn dr := VM_of hm (p3 1 (by omega)) (p2 101 (by omega) (by omega) (by omega)) (p2 102 (by omega) (by omega) (by omega))
  obtain ⟨Q, q1, q2, q3⟩ := ringsOf_M hF 1 hmP hg hp6
  refine ⟨_, B, Q, _, _, P, ?_, p1, q1, rfl, ?_⟩
  · unfold K_ringsThrough
    simp only [x1, ob_some, ard_nI (M := A) (a := 68) (k := p) hp6, x2.2.2.2.2 p hp6, y1, ard_nI (M := B) (a := 68) (k := p) hp6, y2.2.2.2.2 p hp6]
  · refine Rel_scr hR (fun a h0 h => by rw [y3 a (by omega), x3 a (by omega)]) (fun b hb => by rw [y3 0 (by omega), x3 0 (by omega)]) (fun a h h' => by rw [q2 a (by omega) (by omega) (by omega), p2 a (by omega) (by omega) (by omega)]) (fun b hb => by rw [q3 b (by omega), p3 b (by omega)]) ?_
    rw [y3 0 (by omega), x3 0 (by omega), q3 7 (by omega), p3 7 (by omega)]
    exact hR.1.2.1
