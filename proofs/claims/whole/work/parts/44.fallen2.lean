/-! falls: both programs find it -/
def fX (nd : Nat) (kn : Nat → Int32) (dr : Nat → Nat → Int32) (e : Nat → Nat) : Nat → Int32 → Int32 := fun p s => if tb s p = false ∧ FT nd kn dr e s p = true then s ||| (1 <<< (nI p &&& 31)) else s
def fM (nd : Nat) (kn : Nat → Int32) (dr : Nat → Nat → Int32) (e : Nat → Nat) (g : Int32) : Nat → Int32 → Int32 := fun p s => if FT nd kn dr e g p = true then s ||| (1 <<< (nI p &&& 31)) else s
theorem fallX_in {F : Nat} (hF : FB ≤ F) {M : Mem} {v np nd w : Nat} {kn : Nat → Int32} {dr : Nat → Nat → Int32} (h : VX M v np nd kn dr) (hg : GV np nd w kn dr) (x1 x2 x5 x6 : Int32) (e : Nat → Nat) (he1 : ∀ q, q < np → nI q = x2 → 100000 ≤ e q) (he2 : ∀ q, q < np → ¬ nI q = x2 → e q = 0) (s : Int32) : L_V_fallen_28 F M v x1 x2 x5 x6 F s 0 = some (fo (fX nd kn dr e) np 0 s) := by
  have hF' := FBL hF
  have hnp := hg.2.1
  exact lpF (fun m p (s : Int32) => L_V_fallen_28 F M v x1 x2 x5 x6 m s (nI p)) (fX nd kn dr e) (fun s => some s) np
    (fun m p s hp => by
      show B_V_fallen_28 F M v x1 x2 x5 x6 _ s (nI p) = _
      unfold B_V_fallen_28
      have hc : (nI np ≤ nI p) = False := by rw [nI_leI (by omega) (by omega)]; simp; omega
      obtain ⟨k, hk, ek, er, hr⟩ := hg.rs hp
      obtain ⟨o1, o2⟩ := owing_N hg p
      obtain ⟨d1, d2⟩ := owed_N hg p s
      simp only [h.2.2.1, hc, ↓reduceIte, V_owing_eq hF h, V_owed_eq hF h hg.bn, reserve_X h hp hk ek, Option.bind_some, and_bit' (show p < 31 by omega), o1, d1, er, nI_add, nI_1]
      have hle : (nI (owingN nd dr p) ≤ nI (owedN nd dr p s + rsN kn p)) = (owingN nd dr p ≤ owedN nd dr p s + rsN kn p) := by rw [nI_leI (by omega) (by omega)]
      simp only [hle, fX, FT, decide_eq_true_eq]
      by_cases c1 : nI p = x2
      · have := he1 p hp c1
        have c2 : ¬ (owedN nd dr p s + rsN kn p + e p < owingN nd dr p) := by omega
        simp only [c1, c2, and_false, ↓reduceIte]
      · have := he2 p hp c1
        rw [this]
        by_cases c2 : tb s p = false
        · by_cases c3 : owingN nd dr p ≤ owedN nd dr p s + rsN kn p
          · have c4 : ¬ (owedN nd dr p s + rsN kn p + 0 < owingN nd dr p) := by omega
            simp only [c1, c2, c3, c4, and_false, ↓reduceIte]
          · have c4 : owedN nd dr p s + rsN kn p + 0 < owingN nd dr p := by omega
            simp only [c1, c2, c3, c4, and_self, ↓reduceIte]
        · simp only [c1, c2, false_and, ↓reduceIte, Bool.true_eq_false])
    (fun m s => by
      show B_V_fallen_28 F M v x1 x2 x5 x6 _ s (nI np) = _
      unfold B_V_fallen_28
      rw [h.2.2.1, if_pos (by rw [nI_leI (by omega) (by omega)]; omega)])
    np 0 F s (by omega) (by omega)
theorem fallM_in {F : Nat} (hF : FB ≤ F) {M : Mem} {np nd w z : Nat} {kn : Nat → Int32} {dr : Nat → Nat → Int32} (h : VM M np nd kn dr) (hg : GV np nd w kn dr) (x1 x2 : Int32) (hz : z ≤ 1000) (e : Nat → Nat) (he : ∀ q, q < np → e q = if nI q = x2 then z else 0) (s g : Int32) : L_M_fallen_22 F M x1 x2 (nI z) g F s 0 = some (fo (fM nd kn dr e g) np 0 s) := by
  have hF' := FBL hF
  have hnp := hg.2.1
  exact lpF (fun m p (s : Int32) => L_M_fallen_22 F M x1 x2 (nI z) g m s (nI p)) (fM nd kn dr e g) (fun s => some s) np
    (fun m p s hp => by
      show B_M_fallen_22 F M x1 x2 (nI z) g _ s (nI p) = _
      unfold B_M_fallen_22
      have hc : (nI np ≤ nI p) = False := by rw [nI_leI (by omega) (by omega)]; simp; omega
      obtain ⟨k, hk, ek, er, hr⟩ := hg.rs hp
      obtain ⟨o1, o2⟩ := owing_N hg p
      obtain ⟨d1, d2⟩ := owed_N hg p g
      have hj : (if nI p = x2 then some (nI z) else some 0) = some (nI (e p)) := by
        rw [he p hp]
        split <;> rfl
      have hez : e p ≤ 1000 := by rw [he p hp]; split <;> omega
      simp only [h.1, hc, ↓reduceIte, M_owing_eq hF h, M_owed_eq hF h hg.bn, reserve_M h hp hk ek, hj, Option.bind_some, o1, d1, er, nI_add, nI_1, Int32.or_zero]
      have hle : (nI (owingN nd dr p) ≤ nI (owedN nd dr p g + rsN kn p + e p)) = (owingN nd dr p ≤ owedN nd dr p g + rsN kn p + e p) := by rw [nI_leI (by omega) (by omega)]
      simp only [hle, fM, FT, decide_eq_true_eq]
      by_cases c3 : owingN nd dr p ≤ owedN nd dr p g + rsN kn p + e p
      · have c4 : ¬ (owedN nd dr p g + rsN kn p + e p < owingN nd dr p) := by omega
        simp only [c3, c4, ↓reduceIte]
      · have c4 : owedN nd dr p g + rsN kn p + e p < owingN nd dr p := by omega
        simp only [c3, c4, ↓reduceIte])
    (fun m s => by
      show B_M_fallen_22 F M x1 x2 (nI z) g _ s (nI np) = _
      unfold B_M_fallen_22
      rw [h.1, if_pos (by rw [nI_leI (by omega) (by omega)]; omega)])
    np 0 F s (by omega) (by omega)
theorem fallX_out {F : Nat} (hF : FB ≤ F) {M : Mem} {v np nd w : Nat} {kn : Nat → Int32} {dr : Nat → Nat → Int32} (h : VX M v np nd kn dr) (hg : GV np nd w kn dr) (x1 x2 : Int32) (e : Nat → Nat) (he1 : ∀ q, q < np → nI q = x2 → 100000 ≤ e q) (he2 : ∀ q, q < np → ¬ nI q = x2 → e q = 0) (s0 : Int32) : ∀ (c j n k : Nat), j + c = 6 → c + 1 < n → k < 64 → j + 1 ≤ pcN k → Sub s0 (nI k) → (∀ h, Sub s0 h → Closed np (FT nd kn dr e) h → Sub (nI k) h) → ∃ g, S64 g ∧ Least np (FT nd kn dr e) s0 g ∧ L_V_fallen_10 F M v x1 x2 n (nI k) 1 (nI j) = some g := by
  intro c
  induction c with
  | zero =>
    intro j n k hj hn hk hpc hs hl
    have := pc_le_key ⟨k, hk⟩
    simp only at this
    omega
  | succ c ih =>
    intro j n k hj hn hk hpc hs hl
    obtain ⟨n, rfl⟩ : ∃ m, n = m + 2 := ⟨n - 2, by omega⟩
    obtain ⟨p1, p2, p3, p4⟩ := pass_seq (T := FT nd kn dr e) hg.2.1 (fun _ _ _ => FT_mono) (fX nd kn dr e) (fun _ _ _ => rfl) ⟨k, hk, rfl⟩
    have e1 : L_V_fallen_10 F M v x1 x2 (n + 2) (nI k) 1 (nI j) = if fo (fX nd kn dr e) np 0 (nI k) = nI k then L_V_fallen_10 F M v x1 x2 (n + 1) (fo (fX nd kn dr e) np 0 (nI k)) 0 (nI (j + 1)) else L_V_fallen_10 F M v x1 x2 (n + 1) (fo (fX nd kn dr e) np 0 (nI k)) 1 (nI (j + 1)) := by
      show B_V_fallen_10 F M v x1 x2 _ (nI k) 1 (nI j) = _
      unfold B_V_fallen_10
      have hc : (6 ≤ nI j) = False := by rw [lit 6, nI_leI (by omega) (by omega)]; simp; omega
      have hc2 : ((1 : Int32) = 0) = False := by decide
      simp only [hc, hc2, ↓reduceIte, fallX_in hF h hg x1 x2 _ _ e he1 he2, Option.bind_some, nI_1]
    rw [e1]
    by_cases hu : fo (fX nd kn dr e) np 0 (nI k) = nI k
    · rw [if_pos hu, hu]
      refine ⟨nI k, ⟨k, hk, rfl⟩, ⟨hs, p4 hu, hl⟩, ?_⟩
      show B_V_fallen_10 F M v x1 x2 _ (nI k) 0 (nI (j + 1)) = _
      unfold B_V_fallen_10
      simp
    · rw [if_neg hu]
      obtain ⟨k', hk', ek'⟩ := p1
      rw [ek'] at hu p2 p3 ⊢
      have := pc_sub hk hk' p2 (fun e => hu e.symm)
      exact ih (j + 1) (n + 1) k' (by omega) (by omega) hk' (by omega) (hs.trans' p2) (fun h hs hcl => p3 h (hl h hs hcl) hcl)
theorem fallM_out {F : Nat} (hF : FB ≤ F) {M : Mem} {np nd w z : Nat} {kn : Nat → Int32} {dr : Nat → Nat → Int32} (h : VM M np nd kn dr) (hg : GV np nd w kn dr) (x1 x2 : Int32) (hz : z ≤ 1000) (e : Nat → Nat) (he : ∀ q, q < np → e q = if nI q = x2 then z else 0) (s0 : Int32) : ∀ (c n k : Nat) (o : Int32), 6 ≤ pcN k + c → c + 2 < n → k < 64 → ¬ nI k = o → Sub s0 (nI k) → (∀ h, Sub s0 h → Closed np (FT nd kn dr e) h → Sub (nI k) h) → ∃ g, S64 g ∧ Least np (FT nd kn dr e) s0 g ∧ L_M_fallen_8 F M x1 x2 (nI z) n (nI k) o = some g := by
  intro c
  induction c with
  | zero =>
    intro n k o hpc hn hk ho hs hl
    obtain ⟨n, rfl⟩ : ∃ m, n = m + 2 := ⟨n - 2, by omega⟩
    obtain ⟨p1, p2, p3, p4⟩ := pass_par (T := FT nd kn dr e) hg.2.1 (fun _ _ _ => FT_mono) (fM nd kn dr e (nI k)) (fun _ _ _ => rfl) ⟨k, hk, rfl⟩
    have e1 : L_M_fallen_8 F M x1 x2 (nI z) (n + 2) (nI k) o = L_M_fallen_8 F M x1 x2 (nI z) (n + 1) (fo (fM nd kn dr e (nI k)) np 0 (nI k)) (nI k) := by
      show B_M_fallen_8 F M x1 x2 (nI z) _ (nI k) o = _
      unfold B_M_fallen_8
      simp only [ho, ↓reduceIte, fallM_in hF h hg x1 x2 hz e he, Option.bind_some]
    rw [e1]
    by_cases hu : fo (fM nd kn dr e (nI k)) np 0 (nI k) = nI k
    · rw [hu]
      refine ⟨nI k, ⟨k, hk, rfl⟩, ⟨hs, p4 hu, hl⟩, ?_⟩
      show B_M_fallen_8 F M x1 x2 (nI z) _ (nI k) (nI k) = _
      unfold B_M_fallen_8
      rw [if_pos rfl]
    · obtain ⟨k', hk', ek'⟩ := p1
      rw [ek'] at hu p2
      have h1 := pc_sub hk hk' p2 (fun e => hu e.symm)
      have h2 := pc_le_key ⟨k', hk'⟩
      simp only at h2
      omega
  | succ c ih =>
    intro n k o hpc hn hk ho hs hl
    obtain ⟨n, rfl⟩ : ∃ m, n = m + 2 := ⟨n - 2, by omega⟩
    obtain ⟨p1, p2, p3, p4⟩ := pass_par (T := FT nd kn dr e) hg.2.1 (fun _ _ _ => FT_mono) (fM nd kn dr e (nI k)) (fun _ _ _ => rfl) ⟨k, hk, rfl⟩
    have e1 : L_M_fallen_8 F M x1 x2 (nI z) (n + 2) (nI k) o = L_M_fallen_8 F M x1 x2 (nI z) (n + 1) (fo (fM nd kn dr e (nI k)) np 0 (nI k)) (nI k) := by
      show B_M_fallen_8 F M x1 x2 (nI z) _ (nI k) o = _
      unfold B_M_fallen_8
      simp only [ho, ↓reduceIte, fallM_in hF h hg x1 x2 hz e he, Option.bind_some]
    rw [e1]
    by_cases hu : fo (fM nd kn dr e (nI k)) np 0 (nI k) = nI k
    · rw [hu]
      refine ⟨nI k, ⟨k, hk, rfl⟩, ⟨hs, p4 hu, hl⟩, ?_⟩
      show B_M_fallen_8 F M x1 x2 (nI z) _ (nI k) (nI k) = _
      unfold B_M_fallen_8
      rw [if_pos rfl]
    · obtain ⟨k', hk', ek'⟩ := p1
      rw [ek'] at hu p2 p3 ⊢
      have h1 := pc_sub hk hk' p2 (fun e => hu e.symm)
      exact ih (n + 1) k' (nI k) (by omega) (by omega) hk' hu (hs.trans' p2) (fun h hs hcl => p3 h (hl h hs hcl) hcl)
theorem one_key : ∀ b : Fin 6, ((1 : Int32) <<< (nI b.val &&& 31)) = nI (2 ^ b.val) ∧ 2 ^ b.val < 64 ∧ 1 ≤ pcN (2 ^ b.val) ∧ ¬ nI (2 ^ b.val) = 0 := by decide +kernel
theorem fallen_X {F : Nat} (hF : FB ≤ F) {M : Mem} {v np nd w : Nat} {kn : Nat → Int32} {dr : Nat → Nat → Int32} (h : VX M v np nd kn dr) (hg : GV np nd w kn dr) {p : Nat} (hp : p < np) (x2 : Int32) (e : Nat → Nat) (he1 : ∀ q, q < np → nI q = x2 → 100000 ≤ e q) (he2 : ∀ q, q < np → ¬ nI q = x2 → e q = 0) : ∃ g, S64 g ∧ Least np (FT nd kn dr e) (1 <<< (nI p &&& 31)) g ∧ V_fallen F M v (nI p) x2 = some (g &&& ((1 <<< (nI p &&& 31)) ^^^ (-1))) := by
  have hF' := FBL hF
  have hnp := hg.2.1
  obtain ⟨k1, k2, k3, k4⟩ := one_key ⟨p, by omega⟩
  simp only at k1 k2 k3 k4
  obtain ⟨g, g1, g2, g3⟩ := fallX_out hF h hg (nI p) x2 e he1 he2 (1 <<< (nI p &&& 31)) 6 0 F (2 ^ p) (by omega) (by omega) k2 (by omega) (by rw [k1]; exact Sub.rfl') (fun h hs _ => by rw [← k1]; exact hs)
  refine ⟨g, g1, g2, ?_⟩
  unfold V_fallen
  rw [← k1] at g3
  rw [show (0 : Int32) = nI 0 from rfl, g3, Option.bind_some]
theorem fallen_M {F : Nat} (hF : FB ≤ F) {M : Mem} {np nd w z : Nat} {kn : Nat → Int32} {dr : Nat → Nat → Int32} (h : VM M np nd kn dr) (hg : GV np nd w kn dr) {p : Nat} (hp : p < np) (x2 : Int32) (hz : z ≤ 1000) (e : Nat → Nat) (he : ∀ q, q < np → e q = if nI q = x2 then z else 0) : ∃ g, S64 g ∧ Least np (FT nd kn dr e) (1 <<< (nI p &&& 31)) g ∧ M_fallen F M (nI p) x2 (nI z) = some (g &&& ((1 <<< (nI p &&& 31)) ^^^ (-1))) := by
  have hF' := FBL hF
  have hnp := hg.2.1
  obtain ⟨k1, k2, k3, k4⟩ := one_key ⟨p, by omega⟩
  simp only at k1 k2 k3 k4
  obtain ⟨g, g1, g2, g3⟩ := fallM_out hF h hg (nI p) x2 hz e he (1 <<< (nI p &&& 31)) 6 F (2 ^ p) 0 (by omega) (by omega) k2 k4 (by rw [k1]; exact Sub.rfl') (fun h hs _ => by rw [← k1]; exact hs)
  refine ⟨g, g1, g2, ?_⟩
  unfold M_fallen
  rw [← k1] at g3
  rw [g3, Option.bind_some]
theorem less_key : ∀ k : Fin 64, ∀ b : Fin 6, (nI k.val &&& (((1 : Int32) <<< (nI b.val &&& 31)) ^^^ (-1))) = nI (k.val &&& (63 ^^^ 2 ^ b.val)) ∧ k.val &&& (63 ^^^ 2 ^ b.val) < 64 := by decide +kernel
/-- the set that falls with p -/
theorem fallen_same {F : Nat} (hF : FB ≤ F) {M1 M2 : Mem} {np nd w : Nat} {kn : Nat → Int32} {dr : Nat → Nat → Int32} (hx : VX M1 23 np nd kn dr) (hm : VM M2 np nd kn dr) (hg : GV np nd w kn dr) {p : Nat} (hp : p < np) : ∃ k : Nat, k < 64 ∧ V_fallen F M1 23 (nI p) (-1) = some (nI k) ∧ M_fallen F M2 (nI p) (-9) 0 = some (nI k) := by
  have hnp := hg.2.1
  obtain ⟨g, g1, g2, g3⟩ := fallen_X hF hx hg hp (-1) (fun _ => 0) (fun q hq e => absurd e (nI_m1 (by omega))) (fun _ _ _ => rfl)
  obtain ⟨g', g1', g2', g3'⟩ := fallen_M hF hm hg hp (-9) (z := 0) (by omega) (fun _ => 0) (fun q hq => by split <;> rfl)
  have e := g2.unique g2'
  subst e
  obtain ⟨k, hk, rfl⟩ := g1
  obtain ⟨ek, hk'⟩ := less_key ⟨k, hk⟩ ⟨p, by omega⟩
  simp only at ek hk'
  rw [ek] at g3 g3'
  exact ⟨_, hk', g3, g3'⟩
theorem op_falls {F : Nat} (hF : FB ≤ F) (M1 M2 : Mem) (a0 : Int32) (hR : Rel M1 M2) : ∃ (r : Int32), K_falls F M1 a0 = some r ∧ M_falls F M2 a0 = some r := by
  obtain ⟨np, nd, D, hc⟩ := hR.2.2.2
  obtain ⟨kn, dr, hx, hm, hg, -, -⟩ := hc.views
  have hnp := hg.2.1
  unfold K_falls M_falls
  rw [hasPerson_eq hx, isPerson_eq hm]
  rcases one_cases a0 (n := np) (by omega) with h | ⟨h, p, hp, rfl⟩
  · simp only [h, Option.bind_some, ↓reduceIte]
    exact ⟨_, rfl, rfl⟩
  · obtain ⟨k, hk, e1, e2⟩ := fallen_same hF hx hm hg hp
    simp only [h, Option.bind_some, ↓reduceIte, i10, e1, e2]
    exact ⟨_, rfl, rfl⟩
