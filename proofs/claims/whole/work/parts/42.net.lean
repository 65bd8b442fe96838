/-! net -/
def sumI (f : Nat → Int32) (n : Nat) : Int32 := fo (fun q (s : Int32) => s + f q) n 0 0
theorem sumI_succ (f : Nat → Int32) (n : Nat) : sumI f (n + 1) = sumI f n + f n := by
  unfold sumI
  rw [fo_succ, Nat.zero_add]
theorem sumI_congr {f g : Nat → Int32} {n : Nat} (h : ∀ i, i < n → f i = g i) : sumI f n = sumI g n := fo_congr (e := n) (fun k s hk => by rw [h k hk]) n 0 0 (by omega)
theorem sumI_zero (n : Nat) : sumI (fun _ => 0) n = 0 := by
  induction n with
  | zero => rfl
  | succ n ih => rw [sumI_succ, ih, Int32.add_zero]
theorem sumI_add (f g : Nat → Int32) (n : Nat) : sumI (fun i => f i + g i) n = sumI f n + sumI g n := by
  induction n with
  | zero => rfl
  | succ n ih => rw [sumI_succ, sumI_succ, sumI_succ, ih]; grind
theorem sumI_sub (f g : Nat → Int32) (n : Nat) : sumI (fun i => f i - g i) n = sumI f n - sumI g n := by
  induction n with
  | zero => show (0 : Int32) = 0 - 0; decide
  | succ n ih => rw [sumI_succ, sumI_succ, sumI_succ, ih]; grind
theorem sumI_comm (f : Nat → Nat → Int32) (n m : Nat) : sumI (fun q => sumI (f q) m) n = sumI (fun i => sumI (fun q => f q i) n) m := by
  induction n with
  | zero => exact (sumI_zero m).symm
  | succ n ih =>
    rw [sumI_succ, ih, ← sumI_add]
    exact sumI_congr (fun i _ => (sumI_succ _ n).symm)
theorem sumI_single {b n : Nat} (k : Int32) (hb : b < n) : sumI (fun q => if q = b then k else 0) n = k := by
  have key : ∀ m, sumI (fun q => if q = b then k else 0) m = if b < m then k else 0 := by
    intro m
    induction m with
    | zero => rfl
    | succ m ih =>
      rw [sumI_succ, ih]
      by_cases h1 : b < m
      · rw [if_pos h1, if_neg (by omega), if_pos (by omega), Int32.add_zero]
      · rw [if_neg h1]
        by_cases h2 : m = b
        · rw [if_pos h2, if_pos (by omega), Int32.zero_add]
        · rw [if_neg h2, if_neg (by omega), Int32.add_zero]
  rw [key, if_pos hb]
theorem betw_sum (nd : Nat) (dr : Nat → Nat → Int32) (p q t : Int32) : betwS nd dr p q t = sumI (fun i => if dr i 0 = p ∧ dr i 1 = q ∧ dr i 2 = t then dr i 3 else 0) nd := by
  unfold betwS sumI
  refine fo_congr (e := nd) (fun i s _ => ?_) nd 0 0 (by omega)
  by_cases h : dr i 0 = p ∧ dr i 1 = q ∧ dr i 2 = t
  · simp only [h, and_self, ↓reduceIte]
  · simp only [h, ↓reduceIte, Int32.add_zero]
def netI (dr : Nat → Nat → Int32) (p t : Int32) (i : Nat) : Int32 := if dr i 2 = t then (if dr i 0 = p then dr i 3 else 0) - (if dr i 1 = p then dr i 3 else 0) else 0
theorem V_netOwing_eq {F : Nat} (hF : FB ≤ F) {M : Mem} {v np nd : Nat} {kn : Nat → Int32} {dr : Nat → Nat → Int32} (h : VX M v np nd kn dr) (p t : Int32) : V_netOwing F M v p t = some (sumI (netI dr p t) nd) := by
  have hF' := FBL hF
  obtain ⟨hl1, hl2, hp0, hn0, hnp, hnd, hk, hd⟩ := h
  unfold V_netOwing
  have key := lpF (fun m i (s : Int32) => L_V_netOwing_5 F M v p t m s (nI i)) (fun i s => s + netI dr p t i) (fun s => some s) nd
    (fun m i s hi => by
      show B_V_netOwing_5 F M v p t _ s (nI i) = _
      unfold B_V_netOwing_5
      have hc : (nI nd ≤ nI i) = False := by rw [nI_leI (by omega) (by omega)]; simp; omega
      have hx := idx_nI (k := i) (n := 12) (by omega) (by omega)
      have e0 := hd i hi 0 (by decide)
      have e1 := hd i hi 1 (by decide)
      have e2 := hd i hi 2 (by decide)
      have e3 := hd i hi 3 (by decide)
      simp only [hn0, hc, ↓reduceIte, hl2, hx, Option.bind_some, e0, e1, e2, e3, nI_1, netI]
      by_cases c0 : dr i 2 = t
      · by_cases c1 : dr i 0 = p <;> by_cases c2 : dr i 1 = p <;> simp only [c0, c1, c2, ↓reduceIte, Option.bind_some] <;> congr 1 <;> grind
      · simp [c0])
    (fun m s => by
      show B_V_netOwing_5 F M v p t _ s (nI nd) = _
      unfold B_V_netOwing_5
      rw [hn0, if_pos (by rw [nI_leI (by omega) (by omega)]; omega)])
    nd 0 F 0 (by omega) (by omega)
  show ((L_V_netOwing_5 F M v p t F 0 (nI 0)).bind fun u => some u) = _
  rw [key]
  rfl
theorem net_eq {np nd : Nat} {dr : Nat → Nat → Int32} (hb : ∀ i, i < nd → ∃ a b : Nat, a < np ∧ b < np ∧ dr i 0 = nI a ∧ dr i 1 = nI b) (hnp : np ≤ 6) (p t : Int32) : sumI (fun q => betwS nd dr p (nI q) t - betwS nd dr (nI q) p t) np = sumI (netI dr p t) nd := by
  have e1 : ∀ q, betwS nd dr p (nI q) t - betwS nd dr (nI q) p t = sumI (fun i => (if dr i 0 = p ∧ dr i 1 = nI q ∧ dr i 2 = t then dr i 3 else 0) - (if dr i 0 = nI q ∧ dr i 1 = p ∧ dr i 2 = t then dr i 3 else 0)) nd := by
    intro q
    rw [betw_sum, betw_sum, sumI_sub]
  rw [sumI_congr (fun q _ => e1 q), sumI_comm]
  refine sumI_congr (fun i hi => ?_)
  obtain ⟨a, b, ha, hbb, ea, eb⟩ := hb i hi
  rw [sumI_sub]
  have f1 : sumI (fun q => if dr i 0 = p ∧ dr i 1 = nI q ∧ dr i 2 = t then dr i 3 else 0) np = if dr i 2 = t then (if dr i 0 = p then dr i 3 else 0) else 0 := by
    have : ∀ q, q < np → (if dr i 0 = p ∧ dr i 1 = nI q ∧ dr i 2 = t then dr i 3 else 0) = if q = b then (if dr i 2 = t then (if dr i 0 = p then dr i 3 else 0) else 0) else 0 := by
      intro q hq
      have : (nI b = nI q) = (q = b) := by rw [nI_eq (by omega) (by omega)]; simp only [eq_iff_iff]; omega
      rw [eb]
      simp only [this]
      by_cases c0 : dr i 2 = t <;> by_cases c1 : dr i 0 = p <;> by_cases c2 : q = b <;> simp [c0, c1, c2]
    rw [sumI_congr this, sumI_single _ hbb]
  have f2 : sumI (fun q => if dr i 0 = nI q ∧ dr i 1 = p ∧ dr i 2 = t then dr i 3 else 0) np = if dr i 2 = t then (if dr i 1 = p then dr i 3 else 0) else 0 := by
    have : ∀ q, q < np → (if dr i 0 = nI q ∧ dr i 1 = p ∧ dr i 2 = t then dr i 3 else 0) = if q = a then (if dr i 2 = t then (if dr i 1 = p then dr i 3 else 0) else 0) else 0 := by
      intro q hq
      have : (nI a = nI q) = (q = a) := by rw [nI_eq (by omega) (by omega)]; simp only [eq_iff_iff]; omega
      rw [ea]
      simp only [this]
      by_cases c0 : dr i 2 = t <;> by_cases c1 : dr i 1 = p <;> by_cases c2 : q = a <;> simp [c0, c1, c2]
    rw [sumI_congr this, sumI_single _ ha]
  rw [f1, f2]
  unfold netI
  by_cases c0 : dr i 2 = t
  · rw [if_pos c0, if_pos c0, if_pos c0]
  · rw [if_neg c0, if_neg c0, if_neg c0]; rfl
theorem GV.bnp {np nd w : Nat} {kn : Nat → Int32} {dr : Nat → Nat → Int32} (h : GV np nd w kn dr) : ∀ i, i < nd → ∃ a b : Nat, a < np ∧ b < np ∧ dr i 0 = nI a ∧ dr i 1 = nI b := by
  intro i hi
  obtain ⟨a, b, c, k, v, t, h0, h1, h2, h3, h4, h5, ha, hb, -⟩ := h.2.2.2.1 i hi
  exact ⟨a, b, ha, hb, h0, h1⟩
theorem op_net {F : Nat} (hF : FB ≤ F) (M1 M2 : Mem) (a0 : Int32) (hR : Rel M1 M2) : ∃ (r : Int32), K_net F M1 a0 = some r ∧ M_net F M2 a0 = some r := by
  have hF' := FBL hF
  obtain ⟨np, nd, D, hc⟩ := hR.2.2.2
  obtain ⟨kn, dr, hx, hm, hg, -, -⟩ := hc.views
  have hnp := hg.2.1
  unfold K_net M_net
  rw [isSort_X, in_02 (n := 2) rfl (by omega)]
  simp only [Option.bind_some, i01]
  have K : L_K_net_13 F M1 a0 F 0 0 = _ := lpF (fun m p (s : Int32) => L_K_net_13 F M1 a0 m s (nI p)) (fun p s => s + (if 0 < sumI (netI dr (nI p) a0) nd then sumI (netI dr (nI p) a0) nd else 0)) (fun s => some s) np
    (fun m p s hp => by
      show B_K_net_13 F M1 a0 _ s (nI p) = _
      unfold B_K_net_13
      have hc : (nI np ≤ nI p) = False := by rw [nI_leI (by omega) (by omega)]; simp; omega
      simp only [hx.2.2.1, hc, ↓reduceIte, V_netOwing_eq hF hx, Option.bind_some, nI_1])
    (fun m s => by
      show B_K_net_13 F M1 a0 _ s (nI np) = _
      unfold B_K_net_13
      rw [hx.2.2.1, if_pos (by rw [nI_leI (by omega) (by omega)]; omega)])
    np 0 F 0 (by omega) (by omega)
  have inner : ∀ (x2 : Int32) (p : Int32), L_M_net_32 F M2 a0 x2 p F 0 0 = some (sumI (netI dr p a0) nd) := by
    intro x2 p
    have key := lpF (fun m q (s : Int32) => L_M_net_32 F M2 a0 x2 p m s (nI q)) (fun q s => s + (betwS nd dr p (nI q) a0 - betwS nd dr (nI q) p a0)) (fun s => some s) np
      (fun m q s hq => by
        show B_M_net_32 F M2 a0 x2 p _ s (nI q) = _
        unfold B_M_net_32
        have hc : (nI np ≤ nI q) = False := by rw [nI_leI (by omega) (by omega)]; simp; omega
        simp only [hm.1, hc, ↓reduceIte, M_sumOf_eq hF hm, Option.bind_some, nI_1])
      (fun m s => by
        show B_M_net_32 F M2 a0 x2 p _ s (nI np) = _
        unfold B_M_net_32
        rw [hm.1, if_pos (by rw [nI_leI (by omega) (by omega)]; omega)])
      np 0 F 0 (by omega) (by omega)
    rw [← net_eq hg.bnp hnp p a0]
    exact key
  have Mm : L_M_net_18 F M2 a0 F 0 0 = _ := lpF (fun m p (s : Int32) => L_M_net_18 F M2 a0 m s (nI p)) (fun p s => s + (if 0 < sumI (netI dr (nI p) a0) nd then sumI (netI dr (nI p) a0) nd else 0)) (fun s => some s) np
    (fun m p s hp => by
      show B_M_net_18 F M2 a0 _ s (nI p) = _
      unfold B_M_net_18
      have hc : (nI np ≤ nI p) = False := by rw [nI_leI (by omega) (by omega)]; simp; omega
      simp only [hm.1, hc, ↓reduceIte, inner, Option.bind_some, nI_1]
      by_cases c0 : sumI (netI dr (nI p) a0) nd ≤ 0
      · have : ¬ 0 < sumI (netI dr (nI p) a0) nd := Int32.not_lt.mpr c0
        simp [c0, this]
      · have : 0 < sumI (netI dr (nI p) a0) nd := Int32.not_le.mp c0
        simp [c0, this])
    (fun m s => by
      show B_M_net_18 F M2 a0 _ s (nI np) = _
      unfold B_M_net_18
      rw [hm.1, if_pos (by rw [nI_leI (by omega) (by omega)]; omega)])
    np 0 F 0 (by omega) (by omega)
  rw [K, Mm]
  split <;> exact ⟨_, rfl, rfl⟩
