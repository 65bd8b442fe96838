/-! meet: the reference's side, and both -/
theorem payTwo_M {F : Nat} (hF : FB ≤ F) {M : Mem} {np nd : Nat} {kn : Nat → Int32} {dr : Nat → Nat → Int32} (h : VM M np nd kn dr) (hw : WN np nd dr) (p q x : Int32) : ∃ M', L_M_doMeet_59 F p q x F M 0 = some M' ∧ VM M' np nd kn (payD kn dr p q) ∧ (∀ a, a ≠ 101 → M' a = M a) ∧ ∀ b, b < 2 ∨ 74 ≤ b → M' 101 b = M 101 b := by
  have hF' := FBL hF
  have hnd := h.2.2.2.1
  have hnp := h.2.2.1
  have hl : ln 101 = 11976 := by decide
  obtain ⟨s', h1, h3, h4, h5⟩ := lpE (fun n i (s : Mem) => L_M_doMeet_59 F p q x n s (nI i)) (fun i s => VM s np nd kn (payMix kn dr p q i) ∧ (∀ a, a ≠ 101 → s a = M a) ∧ ∀ b, b < 2 ∨ 74 ≤ b → s 101 b = M 101 b) (fun s => some s) nd
    (fun n i N hi hI => by
      obtain ⟨i2, i3, i4⟩ := hI
      have hc : (nI nd ≤ nI i) = False := by rw [nI_leI (by omega) (by omega)]; simp; omega
      obtain ⟨a, ha, ea⟩ := hw i hi
      have o : ∀ u v, M_isOn F N (nI i) u v = some (if dr i 0 = u ∧ dr i 1 = v then 1 else 0) := fun u v => by
        have := M_isOn_eq (F := F) i2 hi u v
        rw [payMix_at] at this
        exact this
      have q0 : M_of F N (nI i) 0 = some (dr i 0) := by
        have := M_of_eq (F := F) i2 hi (j := 0) (by omega)
        rw [payMix_at] at this
        exact this
      have qk : ard N 102 (dr i 0) = some (kn (dr i 0).toNatClampNeg) := by rw [ea, cl (by omega)]; exact kind_ard i2 ha
      have lv : M_leave F N (nI i) 0 = some (up N 101 (2 + 6 * i + 3) 0) := by
        unfold M_leave
        rw [show (3 : Int32) = nI 3 from rfl, ix6, awr_nI (by rw [hl]; omega), Option.bind_some]
      have y := VM_set i2 i (j := 3) (by omega) 0
      have step : L_M_doMeet_59 F p q x (n + 1) N (nI i) = if payC kn dr p q i = true then L_M_doMeet_59 F p q x n (up N 101 (2 + 6 * i + 3) 0) (nI (i + 1)) else L_M_doMeet_59 F p q x n N (nI (i + 1)) := by
        show B_M_doMeet_59 F p q x _ N (nI i) = _
        unfold B_M_doMeet_59
        simp only [i2.2.1, hc, ↓reduceIte, ob_some, o, q0, qk, lv, i10c, nI_1]
        rcases Classical.propComplete (dr i 0 = p) with C0 | C0 <;> rcases Classical.propComplete (dr i 1 = q) with C1 | C1 <;> rcases Classical.propComplete (dr i 0 = q) with C2 | C2 <;> rcases Classical.propComplete (dr i 1 = p) with C3 | C3 <;> rcases Classical.propComplete (kn (dr i 0).toNatClampNeg = 2) with C4 | C4 <;> simp [payC, C0, C1, C2, C3, C4]
      by_cases c : payC kn dr p q i = true
      · refine ⟨up N 101 (2 + 6 * i + 3) 0, ?_, ?_, ?_, ?_⟩
        · show L_M_doMeet_59 F p q x (n + 1) N (nI i) = _
          rw [step, if_pos c]
        · refine VM_congr y (fun a ha j hj => ?_)
          rw [payMix_step]
          simp only [sd]
          by_cases qa : a = i
          · subst qa
            rw [payMix_at]
            by_cases q3 : j = 3
            · subst q3; simp [payD, c]
            · simp [payD, q3]
          · simp [qa]
        · intro a ha
          rw [up_cell (by omega)]; exact i3 a ha
        · intro b hb
          rw [up_ne (by omega)]; exact i4 b hb
      · refine ⟨N, ?_, ?_, i3, i4⟩
        · show L_M_doMeet_59 F p q x (n + 1) N (nI i) = _
          rw [step, if_neg c]
        · refine VM_congr i2 (fun a ha j hj => ?_)
          rw [payMix_step]
          split
          · next qa => rw [qa, payMix_at]; simp [payD, c]
          · rfl)
    (fun n s hI => by
      show B_M_doMeet_59 F p q x _ s (nI nd) = _
      unfold B_M_doMeet_59
      rw [hI.1.2.1, if_pos (by rw [nI_leI (by omega) (by omega)]; omega)])
    nd 0 F M (by omega) (by omega) ⟨VM_congr h (fun i _ j _ => by simp [payMix]), fun _ _ => rfl, fun _ _ => rfl⟩
  rw [nI_0] at h1
  exact ⟨s', h1, VM_congr h3 (fun i hi j hj => by simp [payMix, hi]), h4, h5⟩
def gvJ (nd : Nat) (dr : Nat → Nat → Int32) (p q : Int32) (t : Nat) : Nat := if t = 2 then 0 else netN nd dr p q (nI t)
def gvA (nd : Nat) (kn : Nat → Int32) (dr : Nat → Nat → Int32) (p q t : Nat) : Nat := if kn p = 2 then 0 else betwN dr (nI p) (nI q) (nI t) nd - gvJ nd dr (nI p) (nI q) t
def gvB (nd : Nat) (kn : Nat → Int32) (dr : Nat → Nat → Int32) (p q t : Nat) : Nat := if kn q = 2 then 0 else betwN dr (nI q) (nI p) (nI t) nd - gvJ nd dr (nI p) (nI q) t
theorem given_M {F : Nat} (hF : FB ≤ F) {M : Mem} {np nd : Nat} {kn : Nat → Int32} {dr : Nat → Nat → Int32} (h : VM M np nd kn dr) (hk : KN nd dr) {p q : Nat} (hp : p < np) (hq : q < np) : M_given F M (nI p) (nI q) = some (nI (gvA nd kn dr p q 0 + gvB nd kn dr p q 0 + gvA nd kn dr p q 1 + gvB nd kn dr p q 1 + gvA nd kn dr p q 2 + gvB nd kn dr p q 2)) := by
  have hF' := FBL hF
  have hnd := h.2.2.2.1
  have hnp := h.2.2.1
  unfold M_given
  have key : L_M_given_5 F M (nI p) (nI q) F 0 0 = _ := lpF (fun m t (s : Int32) => L_M_given_5 F M (nI p) (nI q) m s (nI t)) (fun t s => (s + nI (gvA nd kn dr p q t)) + nI (gvB nd kn dr p q t)) (fun s => some s) 3
    (fun m t s ht => by
      show B_M_given_5 F M (nI p) (nI q) _ s (nI t) = _
      unfold B_M_given_5
      have hc : (3 ≤ nI t) = False := by rw [lit 3, nI_leI (by omega) (by omega)]; simp; omega
      have c2 : (nI t = 2) = (t = 2) := by rw [lit 2, nI_eq (by omega) (by omega)]
      have j : (if t = 2 then some (0 : Int32) else some (nI (netN nd dr (nI p) (nI q) (nI t)))) = some (nI (gvJ nd dr (nI p) (nI q) t)) := by unfold gvJ; split <;> rfl
      have b1 := betw_N hk (nI p) (nI q) (nI t)
      have b2 := betw_N hk (nI q) (nI p) (nI t)
      have jl1 : gvJ nd dr (nI p) (nI q) t ≤ betwN dr (nI p) (nI q) (nI t) nd := by unfold gvJ netN; split <;> (try split) <;> omega
      have jl2 : gvJ nd dr (nI p) (nI q) t ≤ betwN dr (nI q) (nI p) (nI t) nd := by unfold gvJ netN; split <;> (try split) <;> omega
      have s1 : nI (betwN dr (nI p) (nI q) (nI t) nd) - nI (gvJ nd dr (nI p) (nI q) t) = nI (betwN dr (nI p) (nI q) (nI t) nd - gvJ nd dr (nI p) (nI q) t) := pk_sub jl1
      have s2 : nI (betwN dr (nI q) (nI p) (nI t) nd) - nI (gvJ nd dr (nI p) (nI q) t) = nI (betwN dr (nI q) (nI p) (nI t) nd - gvJ nd dr (nI p) (nI q) t) := pk_sub jl2
      simp only [hc, c2, ↓reduceIte, netM hF h hk, ob_some, j, kind_ard h hp, kind_ard h hq, M_sumOf_eq hF h, b1.1, b2.1, s1, s2, nI_1]
      by_cases k1 : kn p = 2 <;> by_cases k2 : kn q = 2 <;> simp [gvA, gvB, k1, k2, nI_0])
    (fun m s => by
      show B_M_given_5 F M (nI p) (nI q) _ s (nI 3) = _
      unfold B_M_given_5
      rw [if_pos (by decide)])
    3 0 F 0 (by omega) (by omega)
  rw [key, ob_some]
  simp only [fo]
  rw [show (0 : Int32) = nI 0 from rfl]
  simp only [nI_add, Nat.zero_add]
theorem fo_pay {nd : Nat} {kn : Nat → Int32} {dr : Nat → Nat → Int32} {p q : Nat} (hpq : p ≠ q) (hp : p < 6) (hq : q < 6) (hs : ∀ i, i < nd → dr i 2 = nI 0 ∨ dr i 2 = nI 1 ∨ dr i 2 = nI 2) : ∀ n, n ≤ nd → fo (fun i (s : Nat) => if payC kn dr (nI p) (nI q) i = true then s + kN dr i else s) n 0 0 = (if kn p = 2 then 0 else betwN dr (nI p) (nI q) (nI 0) n + betwN dr (nI p) (nI q) (nI 1) n + betwN dr (nI p) (nI q) (nI 2) n) + (if kn q = 2 then 0 else betwN dr (nI q) (nI p) (nI 0) n + betwN dr (nI q) (nI p) (nI 1) n + betwN dr (nI q) (nI p) (nI 2) n) := by
  intro n
  induction n with
  | zero => intro _; simp [betwN, fo]
  | succ n ih =>
    intro hn
    rw [fo_succ, Nat.zero_add, ih (by omega)]
    simp only [betwN_succ]
    have npq : ¬ nI p = nI q := fun e => hpq (nI_inj (by omega) (by omega) e)
    have nqp : ¬ nI q = nI p := fun e => npq e.symm
    have d01 : ¬ nI 0 = nI 1 := by decide
    have d02 : ¬ nI 0 = nI 2 := by decide
    have d12 : ¬ nI 1 = nI 2 := by decide
    have d10 : ¬ nI 1 = nI 0 := by decide
    have d20 : ¬ nI 2 = nI 0 := by decide
    have d21 : ¬ nI 2 = nI 1 := by decide
    by_cases c1 : dr n 0 = nI p ∧ dr n 1 = nI q
    · have e1 : payC kn dr (nI p) (nI q) n = !(decide (kn p = 2)) := by
        unfold payC
        rw [c1.1, c1.2, cl (by omega)]
        simp
      rcases hs n (by omega) with e | e | e <;> by_cases k1 : kn p = 2 <;> by_cases k2 : kn q = 2 <;> simp [e1, mt, c1.1, c1.2, e, npq, nqp, k1, k2, d01, d02, d12, d10, d20, d21] <;> omega
    · by_cases c2 : dr n 0 = nI q ∧ dr n 1 = nI p
      · have e1 : payC kn dr (nI p) (nI q) n = !(decide (kn q = 2)) := by
          unfold payC
          rw [c2.1, c2.2, cl (by omega)]
          simp
        rcases hs n (by omega) with e | e | e <;> by_cases k1 : kn p = 2 <;> by_cases k2 : kn q = 2 <;> simp [e1, mt, c2.1, c2.2, e, npq, nqp, k1, k2, d01, d02, d12, d10, d20, d21] <;> omega
      · have e1 : payC kn dr (nI p) (nI q) n = false := by
          unfold payC
          have a1 : (decide (dr n 0 = nI p) && decide (dr n 1 = nI q)) = false := by simpa using c1
          have a2 : (decide (dr n 0 = nI q) && decide (dr n 1 = nI p)) = false := by simpa using c2
          rw [a1, a2]
          rfl
        have m1 : ∀ t, mt dr (nI p) (nI q) t n = false := fun t => by
          rcases hb : mt dr (nI p) (nI q) t n with _ | _
          · rfl
          · have := mt_iff.mp hb; exact absurd ⟨this.1, this.2.1⟩ c1
        have m2 : ∀ t, mt dr (nI q) (nI p) t n = false := fun t => by
          rcases hb : mt dr (nI q) (nI p) t n with _ | _
          · rfl
          · have := mt_iff.mp hb; exact absurd ⟨this.1, this.2.1⟩ c2
        simp only [e1, m1, m2, Bool.false_eq_true, ↓reduceIte]
theorem nst_betw {nd : Nat} {dr : Nat → Nat → Int32} (h : KN nd dr) {p q : Int32} (hpq : ¬ p = q) : (∀ t : Nat, t < 3 → betwN (nst nd dr p q 2) p q (nI t) nd = betwN dr p q (nI t) nd - gvJ nd dr p q t) ∧ (∀ t : Nat, t < 3 → betwN (nst nd dr p q 2) q p (nI t) nd = betwN dr q p (nI t) nd - gvJ nd dr p q t) ∧ netN nd (nst nd dr p q 1) p q (nI 1) = netN nd dr p q (nI 1) := by
  have hqp : ¬ q = p := fun e => hpq e.symm
  have d01 : ¬ nI 0 = nI 1 := by decide
  have d02 : ¬ nI 0 = nI 2 := by decide
  have d12 : ¬ nI 1 = nI 2 := by decide
  have d10 : ¬ nI 1 = nI 0 := by decide
  have d20 : ¬ nI 2 = nI 0 := by decide
  have d21 : ¬ nI 2 = nI 1 := by decide
  have k1 := nst_KN h p q 1
  have one : ∀ (d : Nat → Nat → Int32) (s t : Int32), KN nd d → betwN (n1D nd d p q s) p q t nd = (if t = s then betwN d p q t nd - netN nd d p q s else betwN d p q t nd) ∧ betwN (n1D nd d p q s) q p t nd = (if t = s then betwN d q p t nd - netN nd d p q s else betwN d q p t nd) := by
    intro d s t hd
    have hd1 := lsD_KN hd p q s (netN nd d p q s)
    unfold n1D
    by_cases e : t = s
    · subst e
      rw [if_pos rfl, if_pos rfl]
      constructor
      · rw [ls_other hd1 q p t _ (fun e => hpq e.1) nd (Nat.le_refl _), ls_same hd p q t _ nd (Nat.le_refl _)]
      · rw [ls_same hd1 q p t _ nd (Nat.le_refl _), ls_other hd p q t _ (fun e => hqp e.1) nd (Nat.le_refl _)]
    · rw [if_neg e, if_neg e]
      constructor
      · rw [ls_other hd1 q p s _ (fun x => e x.2.2) nd (Nat.le_refl _), ls_other hd p q s _ (fun x => e x.2.2) nd (Nat.le_refl _)]
      · rw [ls_other hd1 q p s _ (fun x => e x.2.2) nd (Nat.le_refl _), ls_other hd p q s _ (fun x => e x.2.2) nd (Nat.le_refl _)]
  have o0 : ∀ t, _ := fun t => one dr (nI 0) t h
  have o1 : ∀ t, _ := fun t => one (nst nd dr p q 1) (nI 1) t k1
  have en : netN nd (nst nd dr p q 1) p q (nI 1) = netN nd dr p q (nI 1) := by
    unfold netN
    show (if betwN (n1D nd dr p q (nI 0)) q p (nI 1) nd ≤ betwN (n1D nd dr p q (nI 0)) p q (nI 1) nd then betwN (n1D nd dr p q (nI 0)) q p (nI 1) nd else betwN (n1D nd dr p q (nI 0)) p q (nI 1) nd) = _
    rw [(o0 (nI 1)).1, (o0 (nI 1)).2, if_neg d10, if_neg d10]
  refine ⟨fun t ht => ?_, fun t ht => ?_, en⟩
  · show betwN (n1D nd (nst nd dr p q 1) p q (nI 1)) p q (nI t) nd = _
    rw [(o1 (nI t)).1]
    show (if nI t = nI 1 then betwN (n1D nd dr p q (nI 0)) p q (nI t) nd - netN nd (nst nd dr p q 1) p q (nI 1) else betwN (n1D nd dr p q (nI 0)) p q (nI t) nd) = _
    rw [(o0 (nI t)).1, en]
    rcases (show t = 0 ∨ t = 1 ∨ t = 2 by omega) with rfl | rfl | rfl <;> simp [gvJ, d01, d02, d12, d10, d20, d21]
  · show betwN (n1D nd (nst nd dr p q 1) p q (nI 1)) q p (nI t) nd = _
    rw [(o1 (nI t)).2]
    show (if nI t = nI 1 then betwN (n1D nd dr p q (nI 0)) q p (nI t) nd - netN nd (nst nd dr p q 1) p q (nI 1) else betwN (n1D nd dr p q (nI 0)) q p (nI t) nd) = _
    rw [(o0 (nI t)).2, en]
    rcases (show t = 0 ∨ t = 1 ∨ t = 2 by omega) with rfl | rfl | rfl <;> simp [gvJ, d01, d02, d12, d10, d20, d21]

theorem payD_good {np w nd : Nat} {kn : Nat → Int32} {dr0 dr : Nat → Nat → Int32} (hk : KN nd dr) {p q : Int32} {i : Nat} (hi : i < nd) (hg : GoodD np w (dr0 i)) (e : ∀ j, j ≠ 3 → dr i j = dr0 i j) : GoodD np w (payD kn dr p q i) := by
  obtain ⟨a, b, c, k, v, t, g0, g1, g2, g3, g4, g5, ha, hb, hab, hcc, hkk, hv, ht⟩ := hg
  have n : ∀ j, j ≠ 3 → payD kn dr p q i j = dr0 i j := fun j hj => by unfold payD; rw [if_neg (fun x => hj x.1), e j hj]
  refine ⟨a, b, c, if payC kn dr p q i = true then 0 else kN dr i, v, t, by rw [n 0 (by omega), g0], by rw [n 1 (by omega), g1], by rw [n 2 (by omega), g2], ?_, by rw [n 4 (by omega), g4], by rw [n 5 (by omega), g5], ha, hb, hab, hcc, ?_, hv, ht⟩
  · unfold payD
    by_cases c : payC kn dr p q i = true
    · rw [if_pos ⟨rfl, c⟩, if_pos c]; rfl
    · rw [if_neg (fun x => c x.2), if_neg c]; exact (hk i hi).1
  · have := (hk i hi).2
    split <;> omega
/-- two meet: what both programs do, from the new page on -/
theorem meet_core {F : Nat} (hF : FB ≤ F) {M1 M2 : Mem} {np nd D : Nat} (hc : RelC M1 M2 np nd D) (hD : D < 40) {p q : Nat} (hp : p < np) (hq : q < np) (hpq : p ≠ q) : ∃ N1 Q1 r P2 x0, H_begin F M1 53 23 = some N1 ∧ V_netTwo F N1 23 (nI p) (nI q) = some (x0, Q1) ∧ M_doMeet F M2 (nI p) (nI q) = some (r, P2) ∧ (∀ u0 u1, M_netted F M2 (nI p) (nI q) 0 = some u0 → M_netted F M2 (nI p) (nI q) 1 = some u1 → x0 = u0 + u1) ∧ (∃ u0 u1, M_netted F M2 (nI p) (nI q) 0 = some u0 ∧ M_netted F M2 (nI p) (nI q) 1 = some u1) ∧ (∀ a, a < 23 ∨ 65 < a → Q1 a = M1 a) ∧ (∀ a, a ≠ 101 → P2 a = M2 a) ∧ ∀ R1 : Mem, (∀ a, 23 ≤ a → a ≤ 65 → R1 a = Q1 a) → ∃ P1, V_payTwo F R1 23 (nI p) (nI q) = some (r, P1) ∧ (∀ a, a < 23 ∨ 65 < a → P1 a = R1 a) ∧ RelC P1 P2 np nd (D + 1) := by
  obtain ⟨kn0, dr0, hx0, hm0, hg0, ekn0, edr0⟩ := hc.views
  obtain ⟨N1, N2, b1, b2, b3, b4, b5, b6, b7⟩ := begin_rel hF hc hD
  obtain ⟨kn, dr, hx, hm, hg, ekn, edr⟩ := b3.views
  have hnp := hg.2.1
  have hnd := hg.2.2.1
  have hk := hg.kn
  have npq : ¬ nI p = nI q := fun e => hpq (nI_inj (by omega) (by omega) e)
  obtain ⟨Q1, q1, q2, q3⟩ := netTwo_X hF hx hk (nI p) (nI q)
  have hk4 := nst_KN hk (nI p) (nI q) 2
  have hw : WN np nd (nst nd dr (nI p) (nI q) 2) := fun i hi => by
    obtain ⟨a, b, c, k, v, t, g0, g1, g2, g3, g4, g5, ha, -⟩ := hg.2.2.2.1 i hi
    exact ⟨a, ha, by rw [nst_ne (by omega), g0]⟩
  have hs : ∀ i, i < nd → nst nd dr (nI p) (nI q) 2 i 2 = nI 0 ∨ nst nd dr (nI p) (nI q) 2 i 2 = nI 1 ∨ nst nd dr (nI p) (nI q) 2 i 2 = nI 2 := fun i hi => by
    rw [nst_ne (by omega)]
    exact hg.sort i hi
  obtain ⟨T, t1, t2, t3, t4⟩ := netTwo_M hF hm hk (nI p) (nI q) (nI (gvA nd kn dr p q 0 + gvB nd kn dr p q 0 + gvA nd kn dr p q 1 + gvB nd kn dr p q 1 + gvA nd kn dr p q 2 + gvB nd kn dr p q 2))
  obtain ⟨P2, p1, p2, p3, p4⟩ := payTwo_M hF t2 hw (nI p) (nI q) (nI (gvA nd kn dr p q 0 + gvB nd kn dr p q 0 + gvA nd kn dr p q 1 + gvB nd kn dr p q 1 + gvA nd kn dr p q 2 + gvB nd kn dr p q 2))
  obtain ⟨nb1, nb2, nb3⟩ := nst_betw hk npq
  have eD : M_doMeet F M2 (nI p) (nI q) = some (nI (gvA nd kn dr p q 0 + gvB nd kn dr p q 0 + gvA nd kn dr p q 1 + gvB nd kn dr p q 1 + gvA nd kn dr p q 2 + gvB nd kn dr p q 2), P2) := by
    unfold M_doMeet
    rw [b2, ob_some, given_M hF hm hk hp hq, ob_some, t1, ob_some, p1, ob_some]
  have sumE : fo (fun i (s : Int32) => if payC kn (nst nd dr (nI p) (nI q) 2) (nI p) (nI q) i = true then s + nst nd dr (nI p) (nI q) 2 i 3 else s) nd 0 0 = nI (gvA nd kn dr p q 0 + gvB nd kn dr p q 0 + gvA nd kn dr p q 1 + gvB nd kn dr p q 1 + gvA nd kn dr p q 2 + gvB nd kn dr p q 2) := by
    rw [foS (fun i hi => (hk4 i hi).1) nd (Nat.le_refl _), fo_pay hpq (by omega) (by omega) hs nd (Nat.le_refl _)]
    rw [nb1 0 (by omega), nb1 1 (by omega), nb1 2 (by omega), nb2 0 (by omega), nb2 1 (by omega), nb2 2 (by omega)]
    congr 1
    unfold gvA gvB
    by_cases k1 : kn p = 2 <;> by_cases k2 : kn q = 2 <;> simp only [k1, k2, ↓reduceIte] <;> omega
  have mid : ∀ j, j < 73 → N2 101 (1 + j) = M2 101 (1 + j) := b7
  have hdr : ∀ i, i < nd → ∀ j, j < 6 → dr i j = dr0 i j := fun i hi j hj => by
    rw [edr, edr0]
    unfold drM
    have := b7 (1 + 6 * i + j) (by omega)
    rw [show 1 + 1 + 6 * i + j = 1 + (1 + 6 * i + j) by omega, this]
  have hm0' : VM M2 np nd kn0 dr := VM_congr hm0 hdr
  have n0 := netM hF hm0' hk (nI p) (nI q) 0
  have n1 := netM hF hm0' hk (nI p) (nI q) 1
  refine ⟨N1, Q1, _, P2, _, b1, q1, eD, fun u0 u1 e0 e1 => ?_, ⟨_, _, n0, n1⟩, fun a ha => ?_, fun a ha => ?_, fun R1 hR1 => ?_⟩
  · rw [n0] at e0
    rw [n1] at e1
    rw [← Option.some.inj e0, ← Option.some.inj e1]
    show ((0 : Int32) + nI (netN nd dr (nI p) (nI q) (nI 0))) + nI (netN nd (nst nd dr (nI p) (nI q) 1) (nI p) (nI q) (nI 1)) = _
    rw [nb3, Int32.zero_add]
    rfl
  · rw [q3 a (by omega), b5 a (by omega)]
  · rw [p3 a ha, t3 a ha, b6 a ha]
  · have hxR : VX R1 23 np nd kn (nst nd dr (nI p) (nI q) 2) := by
      obtain ⟨y1, y2, y3, y4, y5, y6, y7, y8⟩ := q2
      exact ⟨y1, y2, by rw [hR1 23 (by omega) (by omega), y3], by rw [hR1 23 (by omega) (by omega), y4], y5, y6, fun i hi => by rw [hR1 (23 + 1) (by omega) (by omega), y7 i hi], fun i hi j hj => by rw [hR1 (23 + 2 + 1 + i) (by omega) (by omega), y8 i hi j hj]⟩
    obtain ⟨P1, r1, r2, r3⟩ := payTwo_X hF hxR hw hg.2.2.2.2 (nI p) (nI q)
    rw [sumE] at r1
    refine ⟨P1, r1, fun a ha => r3 a (by omega), RelC_views b3 (fun a ha => ?_) (fun a ha => by rw [p3 a ha, t3 a ha]) (fun b hb => by rw [p4 b (by omega), t4 b (by omega)]) r2 p2 (fun i hi => payD_good hk4 hi (hg.2.2.2.1 i hi) (fun j hj => nst_ne hj 2))⟩
    rw [r3 a (by omega), hR1 a (by omega) (by omega), q3 a (by omega)]
theorem op_meet {F : Nat} (hF : FB ≤ F) (M1 M2 : Mem) (a0 : Int32) (a1 : Int32) (hR : Rel M1 M2) : ∃ (r : Int32) (M1' : Mem) (M2' : Mem), K_meet F M1 a0 a1 = some (r, M1') ∧ M_meet F M2 a0 a1 = some (r, M2') ∧ Rel M1' M2' := by
  obtain ⟨np, nd, D, hc⟩ := hR.2.2.2
  obtain ⟨kn, dr, hx, hm, hg, -, -⟩ := hc.views
  have hnp := hg.2.1
  unfold K_meet M_meet
  rw [hasTwo_eq hx, areTwo_eq hm]
  rcases two_cases a0 a1 hnp with h | ⟨h, p, q, hp, hq, hpq, rfl, rfl⟩
  · simp only [h, ob_some, ↓reduceIte]
    exact ⟨_, _, _, rfl, rfl, hR⟩
  simp only [h, ob_some, ↓reduceIte, i10, full_X hc.2.2.1.1 hc.2.2.1.2.1, full_M hc.2.2.1.1 hc.2.2.1.2.2.1, i10c]
  by_cases k5 : D = 40
  · simp only [k5, not_true_eq_false, ↓reduceIte]
    exact ⟨_, _, _, rfl, rfl, hR⟩
  have hD := hc.2.2.1.1
  have f0 : ∀ (v : Int32) a, a ≠ 100 → up M2 100 7 v a = M2 a := fun v a ha => up_cell ha
  obtain ⟨-, -, -, -, -, -, -, -, -, ⟨u0, u1, e0, e1⟩, -⟩ := meet_core hF hc (by omega) hp hq hpq
  have hR' := tell_rel hR (u0 + u1)
  have hc' : RelC M1 (up M2 100 7 (u0 + u1)) np nd D := RelC_of hc (fun _ _ => rfl) (up_ne (by omega)) (up_cell (by omega)) (up_cell (by omega))
  obtain ⟨N1, Q1, r, P2, x0, b1, q1, d1, n1, -, g1, g2, core⟩ := meet_core hF hc' (by omega) hp hq hpq
  have kk := hg.kn
  have vm' : VM (up M2 100 7 (u0 + u1)) np nd kn dr := by
    obtain ⟨h3, h4, h5, h6, h7, h8⟩ := hm
    exact ⟨by rw [up_ne (by omega), h3], by rw [up_cell (by omega), h4], h5, h6, fun i hi => by rw [up_cell (by omega), h7 i hi], fun i hi j hj => by rw [up_cell (by omega), h8 i hi j hj]⟩
  have e0' : M_netted F (up M2 100 7 (u0 + u1)) (nI p) (nI q) 0 = some u0 := by rw [netM hF vm' kk, ← netM hF hm kk, e0]
  have e1' : M_netted F (up M2 100 7 (u0 + u1)) (nI p) (nI q) 1 = some u1 := by rw [netM hF vm' kk, ← netM hF hm kk, e1]
  have ex := n1 u0 u1 e0' e1'
  subst ex
  obtain ⟨P1, r1, r2, r3⟩ := core (up Q1 0 11 (u0 + u1)) (fun a h1 h2 => up_cell (by omega))
  simp only [k5, not_false_eq_true, ↓reduceIte, b1, ob_some, q1, e0, e1, d1, r1]
  refine ⟨_, _, _, rfl, rfl, Rel_of_C hR' (fun a ha => ?_) g2 r3⟩
  rw [r2 a ha]
  by_cases e : a = 0
  · subst e
    funext b
    unfold up
    rw [g1 0 (by omega)]
  · rw [up_cell e, up_cell e, g1 a ha]
