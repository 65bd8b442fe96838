/-! worst, odds, saved -/
theorem fallen_fun {F : Nat} (hF : FB ≤ F) {M1 M2 : Mem} {np nd w : Nat} {kn : Nat → Int32} {dr : Nat → Nat → Int32} (hx : VX M1 23 np nd kn dr) (hm : VM M2 np nd kn dr) (hg : GV np nd w kn dr) : ∃ kf : Nat → Nat, ∀ p, p < np → kf p < 64 ∧ V_fallen F M1 23 (nI p) (-1) = some (nI (kf p)) ∧ M_fallen F M2 (nI p) (-9) 0 = some (nI (kf p)) :=
  ⟨fun p => if h : p < np then (fallen_same hF hx hm hg h).choose else 0, fun p hp => by
    simp only [hp, ↓reduceDIte]
    exact (fallen_same hF hx hm hg hp).choose_spec⟩
/-- not by unfolding: the kernel would go into the next call -/
theorem ob_some {α β : Type} (a : α) (f : α → Option β) : (some a).bind f = f a := Eq.trans (Option.bind_some a f) (Eq.refl _)
theorem worstX {F : Nat} (hF : FB ≤ F) {M : Mem} {np nd : Nat} {kn : Nat → Int32} {dr : Nat → Nat → Int32} (hx : VX M 23 np nd kn dr) (kf : Nat → Nat) (cf : Nat → Int32) (hkf : ∀ p, p < np → V_fallen F M 23 (nI p) (-1) = some (nI (kf p))) (hcf : ∀ p, p < np → J_bitCount F M (nI (kf p)) = some (cf p)) : L_K_worst_19 F M F 0 (-1) 0 = some (fo (fun p (s : Int32 × Int32) => if cf p ≤ s.2 then s else (nI p, cf p)) np 0 (0, -1)) := by
  have hF' := FBL hF
  have hnp := hx.2.2.2.2.1
  exact lpF (fun m p (s : Int32 × Int32) => L_K_worst_19 F M m s.1 s.2 (nI p)) (fun p s => if cf p ≤ s.2 then s else (nI p, cf p)) (fun s => some s) np
    (fun m p s hp => by
      show B_K_worst_19 F M _ s.1 s.2 (nI p) = _
      unfold B_K_worst_19
      have hc : (nI np ≤ nI p) = False := by rw [nI_leI (by omega) (by omega)]; simp; omega
      simp only [hx.2.2.1, hc, ↓reduceIte, hkf p hp, ob_some, hcf p hp, nI_1]
      by_cases c0 : cf p ≤ s.2 <;> simp only [c0, ↓reduceIte])
    (fun m s => by
      show B_K_worst_19 F M _ s.1 s.2 (nI np) = _
      unfold B_K_worst_19
      rw [hx.2.2.1, if_pos (by rw [nI_leI (by omega) (by omega)]; omega)])
    np 0 F (0, -1) (by omega) (by omega)
theorem worstM {F : Nat} (hF : FB ≤ F) {M : Mem} {np nd : Nat} {kn : Nat → Int32} {dr : Nat → Nat → Int32} (hm : VM M np nd kn dr) (kf : Nat → Nat) (cf : Nat → Int32) (hkf : ∀ p, p < np → M_fallen F M (nI p) (-9) 0 = some (nI (kf p))) (hcf : ∀ p, p < np → M_bits F M (nI (kf p)) = some (cf p)) : L_M_worst_16 F M F 0 (-1) 0 = some (fo (fun p (s : Int32 × Int32) => if cf p ≤ s.2 then s else (nI p, cf p)) np 0 (0, -1)) := by
  have hF' := FBL hF
  have hnp := hm.2.2.1
  exact lpF (fun m p (s : Int32 × Int32) => L_M_worst_16 F M m s.1 s.2 (nI p)) (fun p s => if cf p ≤ s.2 then s else (nI p, cf p)) (fun s => some s) np
    (fun m p s hp => by
      show B_M_worst_16 F M _ s.1 s.2 (nI p) = _
      unfold B_M_worst_16
      have hc : (nI np ≤ nI p) = False := by rw [nI_leI (by omega) (by omega)]; simp; omega
      simp only [hm.1, hc, ↓reduceIte, hkf p hp, hcf p hp, Option.bind_some, nI_1]
      by_cases c0 : cf p ≤ s.2 <;> simp only [c0, ↓reduceIte, Option.bind_some])
    (fun m s => by
      show B_M_worst_16 F M _ s.1 s.2 (nI np) = _
      unfold B_M_worst_16
      rw [hm.1, if_pos (by rw [nI_leI (by omega) (by omega)]; omega)])
    np 0 F (0, -1) (by omega) (by omega)
theorem op_worst {F : Nat} (hF : FB ≤ F) (M1 M2 : Mem) (hR : Rel M1 M2) : ∃ (r : Int32) (M1' : Mem) (M2' : Mem), K_worst F M1 = some (r, M1') ∧ M_worst F M2 = some (r, M2') ∧ Rel M1' M2' := by
  obtain ⟨np, nd, D, hc⟩ := hR.2.2.2
  obtain ⟨kn, dr, hx, hm, hg, -, -⟩ := hc.views
  have hnp := hg.2.1
  obtain ⟨kf, hkf⟩ := fallen_fun hF hx hm hg
  unfold K_worst M_worst
  rw [isEmpty_eq hx, hm.1]
  simp only [np_zero hnp, Option.bind_some, i10c]
  by_cases h0 : np = 0
  · simp only [h0, ↓reduceIte, not_true_eq_false]
    exact ⟨_, _, _, rfl, rfl, hR⟩
  · simp only [h0, ↓reduceIte, not_false_eq_true]
    rw [worstX hF hx kf (fun p => nI (pcN (kf p))) (fun p hp => (hkf p hp).2.1) (fun p hp => bitCount_eq (hkf p hp).1), worstM hF hm kf (fun p => nI (pcN (kf p))) (fun p hp => (hkf p hp).2.2) (fun p hp => bits_eq hF (hkf p hp).1)]
    exact ⟨_, _, _, rfl, rfl, tell_rel hR _⟩
theorem odds_rel {M1 M2 : Mem} (hR : Rel M1 M2) (v u : Int32) : Rel (up (up M1 0 12 v) 0 13 u) (up (up M2 100 8 v) 100 9 u) := by
  obtain ⟨⟨a1, a2, a3, a4, a5⟩, hr, ht, np, nd, D, hc⟩ := hR
  refine ⟨⟨?_, ?_, ?_, ?_, ?_⟩, RelR_of hr (fun k h h' => by rw [up_cell (by omega), up_cell (by omega)]) (by rw [up_cell (by decide), up_cell (by decide)]) (by rw [up_cell (by decide), up_cell (by decide)]), RelT_of ht (fun k h h' => by rw [up_cell (by omega), up_cell (by omega)]) (by rw [up_cell (by decide), up_cell (by decide)]) (by rw [up_cell (by decide), up_cell (by decide)]), np, nd, D, RelC_of hc (fun k h => by rw [up_cell (by omega), up_cell (by omega)]) (by rw [up_ne (by simp), up_ne (by simp)]) (by rw [up_cell (by decide), up_cell (by decide)]) (by rw [up_cell (by decide), up_cell (by decide)])⟩
  · simp [up_eqn, a1]
  · simp [up_eqn, a2]
  · simp [up_eqn]
  · simp [up_eqn]
  · intro f h1 h5
    simp [up_eqn, a5 f h1 h5]
theorem rmi_key : ∀ a : Fin 7, ∀ b : Fin 7, 0 < b.val → rmi (nI a.val) (nI b.val) = some (nI (a.val % b.val)) := by decide +kernel
theorem rmi_s {a b : Nat} (ha : a < 7) (hb : b < 7) (h0 : 0 < b) : rmi (nI a) (nI b) = some (nI (a % b)) := rmi_key ⟨a, ha⟩ ⟨b, hb⟩ h0
def gk (a b : Nat) : Nat → Nat
  | 0 => 1
  | c + 1 => if c = 0 then 1 else if a % (c + 1) = 0 ∧ b % (c + 1) = 0 then c + 1 else gk a b c
theorem gcdKL {F : Nat} {M : Mem} {a b : Nat} (ha : a < 7) (hb : b < 7) : ∀ (c n : Nat), c < 7 → c < n → (L_K_greatestCommon_7 F M (nI a) (nI b) n (nI c)).bind (fun u6 => Sum.elim (fun r7 => some r7) (fun w8 => some 1) u6) = some (nI (gk a b c)) := by
  intro c
  induction c with
  | zero =>
    intro n _ hn
    obtain ⟨n, rfl⟩ : ∃ m, n = m + 1 := ⟨n - 1, by omega⟩
    show (B_K_greatestCommon_7 F M (nI a) (nI b) _ (nI 0)).bind _ = _
    unfold B_K_greatestCommon_7
    rw [if_pos (by decide)]
    rfl
  | succ c ih =>
    intro n hc hn
    obtain ⟨n, rfl⟩ : ∃ m, n = m + 1 := ⟨n - 1, by omega⟩
    show (B_K_greatestCommon_7 F M (nI a) (nI b) _ (nI (c + 1))).bind _ = _
    unfold B_K_greatestCommon_7
    by_cases h0 : c = 0
    · subst h0
      rw [if_pos (by decide)]
      rfl
    · have h1 : (nI (c + 1) ≤ 1) = False := by rw [lit 1, nI_leI (by omega) (by omega)]; simp; omega
      have z : ∀ x, x < 7 → (nI x = 0) = (x = 0) := fun x hx => by
        simp only [eq_iff_iff]
        exact ⟨fun g => nI_inj (by omega) (by omega) g, fun g => by rw [g]; rfl⟩
      have e1 : nI (c + 1) + -1 = nI c := by rw [← nI_add]; show nI c + 1 + -1 = nI c; generalize nI c = x; clear ih; grind
      simp only [h1, ↓reduceIte, rmi_s ha hc (by omega), rmi_s hb hc (by omega), Option.bind_some, z _ (show a % (c + 1) < 7 from Nat.lt_of_le_of_lt (Nat.mod_le _ _) ha), z _ (show b % (c + 1) < 7 from Nat.lt_of_le_of_lt (Nat.mod_le _ _) hb), e1, gk, h0]
      by_cases c1 : a % (c + 1) = 0
      · by_cases c2 : b % (c + 1) = 0
        · simp only [c1, c2, and_self, ↓reduceIte]; rfl
        · simp only [c1, c2, and_false, ↓reduceIte]; exact ih n (by omega) (by omega)
      · simp only [c1, false_and, ↓reduceIte]; exact ih n (by omega) (by omega)
theorem gcdML {F : Nat} {M : Mem} : ∀ (b a n : Nat), a < 7 → b < 7 → b < n → L_M_divisor_4 F M n (nI a) (nI b) = some (nI (Nat.gcd a b)) := by
  intro b
  induction b using Nat.strongRecOn with
  | _ b ih =>
    intro a n ha hb hn
    obtain ⟨n, rfl⟩ : ∃ m, n = m + 1 := ⟨n - 1, by omega⟩
    show B_M_divisor_4 F M _ (nI a) (nI b) = _
    unfold B_M_divisor_4
    by_cases h0 : b = 0
    · subst h0
      rw [if_pos (show nI 0 = 0 from rfl), Nat.gcd_zero_right]
    · have h1 : ¬ nI b = 0 := fun e => h0 (nI_inj (by omega) (by omega) e)
      have hlt : a % b < b := Nat.mod_lt _ (by omega)
      rw [if_neg h1, rmi_s ha hb (by omega), Option.bind_some, ih (a % b) hlt b n hb (by omega) (by omega)]
      rw [Nat.gcd_comm a b, Nat.gcd_rec b a, Nat.gcd_comm]
theorem gcd_key : ∀ a : Fin 7, ∀ b : Fin 7, 0 < a.val → gk a.val b.val a.val = Nat.gcd b.val a.val ∧ Nat.gcd b.val a.val < 7 ∧ 0 < Nat.gcd b.val a.val := by decide +kernel
theorem op_odds {F : Nat} (hF : FB ≤ F) (M1 M2 : Mem) (hR : Rel M1 M2) : ∃ (r : Int32) (M1' : Mem) (M2' : Mem), K_odds F M1 = some (r, M1') ∧ M_odds F M2 = some (r, M2') ∧ Rel M1' M2' := by
  have hF' := FBL hF
  obtain ⟨np, nd, D, hc⟩ := hR.2.2.2
  obtain ⟨kn, dr, hx, hm, hg, -, -⟩ := hc.views
  have hnp := hg.2.1
  obtain ⟨kf, hkf⟩ := fallen_fun hF hx hm hg
  unfold K_odds M_odds
  rw [isEmpty_eq hx, hm.1]
  simp only [np_zero hnp, Option.bind_some, i10c]
  by_cases h0 : np = 0
  · simp only [h0, ↓reduceIte, not_true_eq_false]
    exact ⟨_, _, _, rfl, rfl, hR⟩
  · simp only [h0, ↓reduceIte, not_false_eq_true]
    have K : L_K_odds_17 F M1 F 0 0 = _ := lpF (fun m p (s : Int32) => L_K_odds_17 F M1 m s (nI p)) (fun p s => if nI (kf p) = 0 then s + 1 else s) (fun s => some s) np
      (fun m p s hp => by
        show B_K_odds_17 F M1 _ s (nI p) = _
        unfold B_K_odds_17
        have hc : (nI np ≤ nI p) = False := by rw [nI_leI (by omega) (by omega)]; simp; omega
        simp only [hx.2.2.1, hc, ↓reduceIte, (hkf p hp).2.1, Option.bind_some, nI_1]
        by_cases c0 : nI (kf p) = 0 <;> simp [c0])
      (fun m s => by
        show B_K_odds_17 F M1 _ s (nI np) = _
        unfold B_K_odds_17
        rw [hx.2.2.1, if_pos (by rw [nI_leI (by omega) (by omega)]; omega)])
      np 0 F 0 (by omega) (by omega)
    have Mm : L_M_odds_14 F M2 F 0 0 = _ := lpF (fun m p (s : Int32) => L_M_odds_14 F M2 m s (nI p)) (fun p s => if nI (kf p) = 0 then s + 1 else s) (fun s => some s) np
      (fun m p s hp => by
        show B_M_odds_14 F M2 _ s (nI p) = _
        unfold B_M_odds_14
        have hc : (nI np ≤ nI p) = False := by rw [nI_leI (by omega) (by omega)]; simp; omega
        simp only [hm.1, hc, ↓reduceIte, (hkf p hp).2.2, Option.bind_some, nI_1, Int32.add_zero]
        by_cases c0 : nI (kf p) = 0 <;> simp [c0])
      (fun m s => by
        show B_M_odds_14 F M2 _ s (nI np) = _
        unfold B_M_odds_14
        rw [hm.1, if_pos (by rw [nI_leI (by omega) (by omega)]; omega)])
      np 0 F 0 (by omega) (by omega)
    have hs : fo (fun p (s : Int32) => if nI (kf p) = 0 then s + 1 else s) np 0 0 = nI (fo (fun p (s : Nat) => if nI (kf p) = 0 then s + 1 else s) np 0 0) := foS (v := fun _ => 1) (w := fun _ => 1) (fun _ _ => rfl) np (Nat.le_refl _)
    have hle := foN_le (n := np) (b := 1) (c := fun p => nI (kf p) = 0) (w := fun _ => 1) (fun _ _ => Nat.le_refl _) np (Nat.le_refl _)
    rw [K, Mm, hs]
    generalize fo (fun p (s : Nat) => if nI (kf p) = 0 then s + 1 else s) np 0 0 = b at hle ⊢
    obtain ⟨g1, g2, g3⟩ := gcd_key ⟨np, by omega⟩ ⟨b, by omega⟩ (by show 0 < np; omega)
    simp only at g1 g2 g3
    have e1 : K_greatestCommon F M1 (nI np) (nI b) = some (nI (Nat.gcd b np)) := by
      unfold K_greatestCommon
      rw [if_neg (by rw [lit 6, nI_ltI (by omega) (by omega)]; omega), gcdKL (by omega) (by omega) np F (by omega) (by omega), g1]
    have e2 : M_divisor F M2 (nI b) (nI np) = some (nI (Nat.gcd b np)) := by
      unfold M_divisor
      rw [gcdML np b F (by omega) (by omega) (by omega), Option.bind_some]
    have c1 : (nI (Nat.gcd b np) ≤ 0) = False := by rw [show (0 : Int32) = nI 0 from rfl, nI_leI (by omega) (by omega)]; simp; omega
    have c2 : ¬ nI (Nat.gcd b np) = 0 := fun e => by have := nI_inj (a := Nat.gcd b np) (b := 0) (by omega) (by omega) e; omega
    have d : ∀ x, dvi x (nI (Nat.gcd b np)) = some (x / nI (Nat.gcd b np)) := fun x => by unfold dvi; rw [if_neg c2]
    have u1 : ∀ x, up M1 0 12 x 23 0 = nI np := fun x => by rw [up_ne (by simp), hx.2.2.1]
    have u2 : ∀ x, up M2 100 8 x 100 1 = nI np := fun x => by rw [up_ne (by simp), hm.1]
    simp only [hx.2.2.1, Option.bind_some, e1, e2, c1, ↓reduceIte, d, u1, u2]
    exact ⟨_, _, _, rfl, rfl, odds_rel hR _ _⟩
theorem saved_iff {np nd w : Nat} {kn : Nat → Int32} {dr : Nat → Nat → Int32} (hg : GV np nd w kn dr) {p q j : Nat} (hp : p < np) (hq : q < np) (hpq : p ≠ q) {G g : Int32} (h1 : Least np (FT nd kn dr (fun r => if nI r = nI p then 100000 else 0)) (1 <<< (nI q &&& 31)) G) (h2 : Least np (FT nd kn dr (fun r => if nI r = nI p then j else 0)) (1 <<< (nI q &&& 31)) g) : tb g p = false ↔ owingN nd dr p ≤ owedN nd dr p G + rsN kn p + j := by
  have hnp := hg.2.1
  have no : ∀ r, r < np → r ≠ p → ¬ nI r = nI p := fun r hr hne e => hne (nI_inj (by omega) (by omega) e)
  have hF : ∀ (e1 e2 : Nat) (s : Int32) (r : Nat), r < np → r ≠ p → FT nd kn dr (fun r => if nI r = nI p then e1 else 0) s r = true → FT nd kn dr (fun r => if nI r = nI p then e2 else 0) s r = true := by
    intro e1 e2 s r hr hne h
    simp only [FT, no r hr hne, ↓reduceIte, decide_eq_true_eq] at h ⊢
    exact h
  have hP : ∀ s, ¬ FT nd kn dr (fun r => if nI r = nI p then 100000 else 0) s p = true := by
    intro s h
    have := (owing_N hg p).2
    simp only [FT, ↓reduceIte, decide_eq_true_eq] at h
    omega
  constructor
  · intro hno
    have hsub : Sub G g := h1.2.2 g h2.1 (fun r hr ht => by
      by_cases e : r = p
      · subst e; exact absurd ht (hP g)
      · exact h2.2.1 r hr (hF _ _ g r hr e ht))
    have hm := owed_mono (nd := nd) (dr := dr) (p := p) hsub
    by_cases hc : FT nd kn dr (fun r => if nI r = nI p then j else 0) g p = true
    · rw [h2.2.1 p hp hc] at hno; exact absurd hno (by simp)
    · simp only [FT, ↓reduceIte, decide_eq_true_eq] at hc
      omega
  · intro hle
    have hsub : Sub g G := h2.2.2 G h1.1 (fun r hr ht => by
      by_cases e : r = p
      · subst e
        simp only [FT, ↓reduceIte, decide_eq_true_eq] at ht
        omega
      · exact h1.2.1 r hr (hF _ _ G r hr e ht))
    have hG : Sub G (G &&& ((1 <<< (nI p &&& 31)) ^^^ (-1))) := by
      have cut : ∀ s : Int32, ∀ a, tb s a = true → a ≠ p → tb (s &&& ((1 <<< (nI p &&& 31)) ^^^ (-1))) a = true := by
        intro s a ha hne
        have h32 : a < 32 := by
          rcases Nat.lt_or_ge a 32 with h | h
          · exact h
          · rw [tb_big h] at ha; exact absurd ha (by simp)
        rw [tb_and, tb_xor, tb_1 (by omega), tb_m1 h32, ha]
        simp [Ne.symm hne]
      refine h1.2.2 _ (fun a ha => cut G a (h1.1 a ha) ?_) (fun r hr ht => ?_)
      · intro e
        subst e
        rw [tb_1 (by omega)] at ha
        simp at ha
        omega
      · have hne : r ≠ p := fun e => by subst e; exact hP _ ht
        refine cut G r (h1.2.1 r hr (FT_mono (fun a ha => ?_) ht)) hne
        rw [tb_and] at ha
        simp at ha
        exact ha.1
    rcases e : tb g p with _ | _
    · rfl
    · have := hG p (hsub p e)
      rw [tb_and, tb_xor, tb_1 (by omega), tb_m1 (by omega)] at this
      simp at this
theorem op_saved {F : Nat} (hF : FB ≤ F) (M1 M2 : Mem) (a0 : Int32) (a1 : Int32) (hR : Rel M1 M2) : ∃ (r : Int32), K_saved F M1 a0 a1 = some r ∧ M_saved F M2 a0 a1 = some r := by
  have hF' := FBL hF
  obtain ⟨np, nd, D, hc⟩ := hR.2.2.2
  obtain ⟨kn, dr, hx, hm, hg, -, -⟩ := hc.views
  have hnp := hg.2.1
  unfold K_saved M_saved
  rw [hasTwo_eq hx, areTwo_eq hm]
  rcases two_cases a0 a1 hnp with h | ⟨h, p, q, hp, hq, hpq, rfl, rfl⟩
  · simp only [h, Option.bind_some, ↓reduceIte]
    exact ⟨_, rfl, rfl⟩
  · obtain ⟨G, G1, G2, G3⟩ := fallen_X hF hx hg hq (nI p) (fun r => if nI r = nI p then 100000 else 0) (fun r _ e => by simp [e]) (fun r _ e => by simp [e])
    obtain ⟨k, hk, ek, er, hr⟩ := hg.rs hp
    obtain ⟨o1, o2⟩ := owing_N hg p
    obtain ⟨d1, d2⟩ := owed_N hg p G
    have hGq : (G &&& (((1 : Int32) <<< (nI q &&& 31)) ^^^ (-1 : Int32))) ||| (1 <<< (nI q &&& 31)) = G := by
      apply tb_ext
      intro a ha
      rw [tb_or, tb_and, tb_xor, tb_1 (by omega), tb_m1 ha]
      by_cases e : q = a
      · subst e
        have := G2.1 q (by rw [tb_1 (by omega)]; simp)
        simp [this]
      · simp [e]
    have key : ∀ (c j n : Nat), j + c = 201 → c < n → j ≤ owingN nd dr p - (owedN nd dr p G + rsN kn p) → (L_M_saved_13 F M2 (nI p) (nI q) n (nI j)).bind (fun u7 => Sum.elim (fun r8 => some r8) (fun w9 => some (-9)) u7) = some (if owingN nd dr p - (owedN nd dr p G + rsN kn p) ≤ 200 then nI (owingN nd dr p - (owedN nd dr p G + rsN kn p)) else -9) := by
      intro c
      induction c with
      | zero =>
        intro j n hj hn hle
        obtain ⟨n, rfl⟩ : ∃ m, n = m + 1 := ⟨n - 1, by omega⟩
        show (B_M_saved_13 F M2 (nI p) (nI q) _ (nI j)).bind _ = _
        unfold B_M_saved_13
        rw [if_pos (by rw [lit 200, nI_ltI (by omega) (by omega)]; omega), if_neg (by omega)]
        rfl
      | succ c ih =>
        intro j n hj hn hle
        obtain ⟨n, rfl⟩ : ∃ m, n = m + 1 := ⟨n - 1, by omega⟩
        show (B_M_saved_13 F M2 (nI p) (nI q) _ (nI j)).bind _ = _
        unfold B_M_saved_13
        obtain ⟨g, g1, g2, g3⟩ := fallen_M hF hm hg hq (nI p) (z := j) (by omega) (fun r => if nI r = nI p then j else 0) (fun r _ => rfl)
        have hi := saved_iff hg hp hq hpq G2 g2
        have e1 : tb (g &&& ((1 <<< (nI q &&& 31)) ^^^ (-1))) p = tb g p := by
          rw [tb_and, tb_xor, tb_1 (by omega), tb_m1 (by omega)]
          have : q ≠ p := Ne.symm hpq
          simp [this]
        have hc : (200 < nI j) = False := by rw [lit 200, nI_ltI (by omega) (by omega)]; simp; omega
        simp only [hc, ↓reduceIte, g3, Option.bind_some, M_has_eq (show p < 31 by omega), e1, i01]
        by_cases c0 : tb g p = false
        · simp only [c0, ↓reduceIte]
          have := hi.mp c0
          have e2 : owingN nd dr p - (owedN nd dr p G + rsN kn p) = j := by omega
          rw [e2, if_pos (by omega)]
          rfl
        · have c1 : ¬ (owingN nd dr p ≤ owedN nd dr p G + rsN kn p + j) := fun x => c0 (hi.mpr x)
          simp only [c0, ↓reduceIte, nI_1, Bool.true_eq_false]
          exact ih (j + 1) n (by omega) (by omega) (by omega)
    have e2 := key 201 0 F (by omega) (by omega) (by omega)
    rw [nI_0] at e2
    simp only [h, Option.bind_some, ↓reduceIte, i10, G3, hGq, V_owing_eq hF hx, V_owed_eq hF hx hg.bn, reserve_X hx hp hk ek, o1, d1, er]
    rw [e2]
    have t1 : ((nI (owingN nd dr p) - nI (owedN nd dr p G)) - nI (rsN kn p)).toInt = (owingN nd dr p : Int) - (owedN nd dr p G : Int) - (rsN kn p : Int) := by
      have t0 : (nI (owingN nd dr p) - nI (owedN nd dr p G)).toInt = (owingN nd dr p : Int) - (owedN nd dr p G : Int) := by
        rw [Int32.toInt_sub, tI (by omega), tI (by omega)]
        exact Int.bmod_eq_of_le (by omega) (by omega)
      rw [Int32.toInt_sub, t0, tI (by omega)]
      exact Int.bmod_eq_of_le (by omega) (by omega)
    have z : (0 : Int32).toInt = 0 := rfl
    have z2 : (200 : Int32).toInt = 200 := rfl
    by_cases c0 : owedN nd dr p G + rsN kn p < owingN nd dr p
    · have c1 : 0 < (nI (owingN nd dr p) - nI (owedN nd dr p G)) - nI (rsN kn p) := by rw [i32_lt, t1, z]; omega
      have e3 : (nI (owingN nd dr p) - nI (owedN nd dr p G)) - nI (rsN kn p) = nI (owingN nd dr p - (owedN nd dr p G + rsN kn p)) := by rw [i32_eq, t1, tI (by omega)]; omega
      rw [if_pos c1, e3]
      have c2 : (nI (owingN nd dr p - (owedN nd dr p G + rsN kn p)) ≤ 200) = (owingN nd dr p - (owedN nd dr p G + rsN kn p) ≤ 200) := by rw [lit 200, nI_leI (by omega) (by omega)]
      simp only [c2]
      split <;> exact ⟨_, rfl, rfl⟩
    · have c1 : ¬ 0 < (nI (owingN nd dr p) - nI (owedN nd dr p G)) - nI (rsN kn p) := by rw [i32_lt, t1, z]; omega
      have e3 : owingN nd dr p - (owedN nd dr p G + rsN kn p) = 0 := by omega
      rw [if_neg c1, e3, if_pos (by decide), if_pos (by omega)]
      exact ⟨_, rfl, rfl⟩
