/-! digest -/
def mixS (h : Int64) (v : Int32) : Int64 := 31 * h + v.toInt64
theorem mixedInto_eq {F : Nat} (hF : FB ≤ F) {M : Mem} {k n most : Nat} (hl : ln (k + 1) = most) (hn : n ≤ most) (hm : most ≤ 80) (h : M k 1 = nI n) (x : Int64) : S_mixedInto F M k x = some (fo (fun i s => mixS s (M (k + 1) i)) n 0 (mixS x (nI n))) := by
  have hF' := FBL hF
  unfold S_mixedInto
  have key := lpF (fun m i (s : Int64) => L_S_mixedInto_15 F M k m s (nI i)) (fun i s => mixS s (M (k + 1) i)) (fun s => some s) n
    (fun m i s hi => by
      show B_S_mixedInto_15 F M k _ s (nI i) = _
      unfold B_S_mixedInto_15
      have hc : (nI n ≤ nI i) = False := by rw [nI_leI (by omega) (by omega)]; simp; omega
      simp only [h, hc, ↓reduceIte, ard_nI (M := M) (a := k + 1) (k := i) (by omega), Option.bind_some, nI_1, mixS])
    (fun m s => by
      show B_S_mixedInto_15 F M k _ s (nI n) = _
      unfold B_S_mixedInto_15
      rw [h, if_pos (by rw [nI_leI (by omega) (by omega)]; omega)])
    n 0 F (mixS x (nI n)) (by omega) (by omega)
  rw [h]
  show ((L_S_mixedInto_15 F M k F (mixS x (nI n)) (nI 0)).bind fun u => some u) = _
  rw [key]
  rfl
theorem mixedInto_miss {F : Nat} (hF : FB ≤ F) {M : Mem} {k : Nat} (h : M k 1 = -1) (x : Int64) : S_mixedInto F M k x = some (mixS x (-1)) := by
  have hF' := FBL hF
  unfold S_mixedInto
  obtain ⟨m, rfl⟩ : ∃ m, F = m + 1 := ⟨F - 1, by omega⟩
  have e1 : ((-1 : Int32) ≤ 0) = True := by decide
  show ((B_S_mixedInto_15 (m + 1) M k _ _ 0).bind fun u => some u) = _
  unfold B_S_mixedInto_15
  simp only [h, e1, ↓reduceIte, Option.bind_some, mixS]
theorem mrow_eq {F : Nat} (hF : FB ≤ F) {M : Mem} {r n : Nat} (hr : r < 6) (hn : n ≤ 40) (h : M 103 r = nI n) (x : Int64) : L_M_digest_162 F M (nI r) F x 0 = some (fo (fun i s => mixS s (M 104 (40 * r + i))) n 0 x) := by
  have hF' := FBL hF
  have hl : r < ln 103 := hr
  have key := lpF (fun m i (s : Int64) => L_M_digest_162 F M (nI r) m s (nI i)) (fun i s => mixS s (M 104 (40 * r + i))) (fun s => some s) n
    (fun m i s hi => by
      show B_M_digest_162 F M (nI r) _ s (nI i) = _
      unfold B_M_digest_162
      have hc : (nI n ≤ nI i) = False := by rw [nI_leI (by omega) (by omega)]; simp; omega
      simp only [ard_nI hl, h, hc, ↓reduceIte, ix40, ard_nI (M := M) (a := 104) (k := 40 * r + i) (by show _ < 240; omega), Option.bind_some, nI_1, mixS])
    (fun m s => by
      show B_M_digest_162 F M (nI r) _ s (nI n) = _
      unfold B_M_digest_162
      have hc : (nI n ≤ nI n) = True := by rw [nI_leI (by omega) (by omega)]; simp
      simp only [ard_nI hl, h, hc, ↓reduceIte, Option.bind_some])
    n 0 F x (by omega) (by omega)
  exact key
theorem mrow_miss {F : Nat} (hF : FB ≤ F) {M : Mem} {r : Nat} (hr : r < 6) (h : M 103 r = -1) (x : Int64) : L_M_digest_162 F M (nI r) F x 0 = some x := by
  have hF' := FBL hF
  have hl : r < ln 103 := hr
  obtain ⟨m, hm⟩ : ∃ m, F = m + 1 := ⟨F - 1, by omega⟩
  have e1 : ((-1 : Int32) ≤ 0) = True := by decide
  have : L_M_digest_162 F M (nI r) (m + 1) x 0 = some x := by
    show B_M_digest_162 F M (nI r) _ x 0 = _
    unfold B_M_digest_162
    simp only [ard_nI hl, h, e1, ↓reduceIte, Option.bind_some]
  rw [← hm] at this
  exact this
theorem mtxt_eq {F : Nat} (hF : FB ≤ F) {M : Mem} {r n : Nat} (hr : r < 4) (hn : n ≤ 80) (h : M 105 r = nI n) (x : Int64) : L_M_digest_229 F M (nI r) F x 0 = some (fo (fun i s => mixS s (M 106 (80 * r + i))) n 0 x) := by
  have hF' := FBL hF
  have hl : r < ln 105 := hr
  have key := lpF (fun m i (s : Int64) => L_M_digest_229 F M (nI r) m s (nI i)) (fun i s => mixS s (M 106 (80 * r + i))) (fun s => some s) n
    (fun m i s hi => by
      show B_M_digest_229 F M (nI r) _ s (nI i) = _
      unfold B_M_digest_229
      have hc : (nI n ≤ nI i) = False := by rw [nI_leI (by omega) (by omega)]; simp; omega
      simp only [ard_nI hl, h, hc, ↓reduceIte, ix80, ard_nI (M := M) (a := 106) (k := 80 * r + i) (by show _ < 320; omega), Option.bind_some, nI_1, mixS])
    (fun m s => by
      show B_M_digest_229 F M (nI r) _ s (nI n) = _
      unfold B_M_digest_229
      have hc : (nI n ≤ nI n) = True := by rw [nI_leI (by omega) (by omega)]; simp
      simp only [ard_nI hl, h, hc, ↓reduceIte, Option.bind_some])
    n 0 F x (by omega) (by omega)
  exact key
theorem mtxt_miss {F : Nat} (hF : FB ≤ F) {M : Mem} {r : Nat} (hr : r < 4) (h : M 105 r = -1) (x : Int64) : L_M_digest_229 F M (nI r) F x 0 = some x := by
  have hF' := FBL hF
  have hl : r < ln 105 := hr
  obtain ⟨m, hm⟩ : ∃ m, F = m + 1 := ⟨F - 1, by omega⟩
  have e1 : ((-1 : Int32) ≤ 0) = True := by decide
  have : L_M_digest_229 F M (nI r) (m + 1) x 0 = some x := by
    show B_M_digest_229 F M (nI r) _ x 0 = _
    unfold B_M_digest_229
    simp only [ard_nI hl, h, e1, ↓reduceIte, Option.bind_some]
  rw [← hm] at this
  exact this
def stripS (M1 : Mem) (b r : Nat) (x : Int64) : Int64 := if M1 (b + 1 + 2 * r) 1 = -1 then mixS x (-1) else fo (fun i s => mixS s (M1 (b + 1 + 2 * r + 1) i)) (M1 (b + 1 + 2 * r) 1).toNatClampNeg 0 (mixS x (M1 (b + 1 + 2 * r) 1))
theorem fo_mix {f g : Nat → Int32} {n : Nat} {x : Int64} (h : ∀ i, i < n → f i = g i) : fo (fun i s => mixS s (f i)) n 0 x = fo (fun i s => mixS s (g i)) n 0 x := fo_congr (e := n) (fun k s hk => by rw [h k hk]) n 0 x (by omega)
theorem dig_rows {F : Nat} (hF : FB ≤ F) {M1 M2 : Mem} (hR : Rel M1 M2) (x : Int64) : L_K_digest_162 F M1 F x 0 = some (fo (stripS M1 1) 6 0 x) ∧ L_M_digest_139 F M2 F x 0 = some (fo (stripS M1 1) 6 0 x) := by
  have hF' := FBL hF
  constructor
  · exact lpF (fun m r (s : Int64) => L_K_digest_162 F M1 m s (nI r)) (stripS M1 1) (fun s => some s) 6
      (fun m r s hr => by
        show B_K_digest_162 F M1 _ s (nI r) = _
        unfold B_K_digest_162
        have hc : (6 ≤ nI r) = False := by rw [lit 6, nI_leI (by omega) (by omega)]; simp; omega
        have e : S_mixedInto F M1 (1 + 1 + 2 * r) s = some (stripS M1 1 r s) := by
          unfold stripS
          rcases hR.2.1 r hr with ⟨h1, h2⟩ | ⟨n, hn, h1, h2, h3⟩
          · rw [mixedInto_miss hF h1, if_pos h1]
          · rw [mixedInto_eq hF (ln_row hr) hn (by omega) h1, h1, if_neg (nI_m1 (by omega)), cl (by omega)]
        simp only [hc, ↓reduceIte, idx_nI hr (by omega : 6 ≤ 1000000), Option.bind_some, e, nI_1])
      (fun m s => by
        show B_K_digest_162 F M1 _ s (nI 6) = _
        unfold B_K_digest_162
        rw [if_pos (by decide)])
      6 0 F x (by omega) (by omega)
  · exact lpF (fun m r (s : Int64) => L_M_digest_139 F M2 m s (nI r)) (stripS M1 1) (fun s => some s) 6
      (fun m r s hr => by
        show B_M_digest_139 F M2 _ s (nI r) = _
        unfold B_M_digest_139
        have hc : (6 ≤ nI r) = False := by rw [lit 6, nI_leI (by omega) (by omega)]; simp; omega
        have hl : r < ln 103 := hr
        unfold stripS
        rcases hR.2.1 r hr with ⟨h1, h2⟩ | ⟨n, hn, h1, h2, h3⟩
        · simp only [hc, ↓reduceIte, ard_nI hl, h1, h2, mrow_miss hF hr h2, Option.bind_some, nI_1, mixS]
        · have e1 : (nI n = -1) = False := by simp [nI_m1 (n := n) (by omega)]
          simp only [hc, e1, ↓reduceIte, ard_nI hl, h1, h2, mrow_eq hF hr hn h2, cl (k := n) (by omega), Option.bind_some, nI_1, fo_mix h3]
          rfl)
      (fun m s => by
        show B_M_digest_139 F M2 _ s (nI 6) = _
        unfold B_M_digest_139
        rw [if_pos (by decide)])
      6 0 F x (by omega) (by omega)
theorem dig_texts {F : Nat} (hF : FB ≤ F) {M1 M2 : Mem} (hR : Rel M1 M2) (x : Int64) : L_K_digest_187 F M1 F x 0 = some (fo (stripS M1 14) 4 0 x) ∧ L_M_digest_207 F M2 F x 0 = some (fo (stripS M1 14) 4 0 x) := by
  have hF' := FBL hF
  constructor
  · exact lpF (fun m r (s : Int64) => L_K_digest_187 F M1 m s (nI r)) (stripS M1 14) (fun s => some s) 4
      (fun m r s hr => by
        show B_K_digest_187 F M1 _ s (nI r) = _
        unfold B_K_digest_187
        have hc : (4 ≤ nI r) = False := by rw [lit 4, nI_leI (by omega) (by omega)]; simp; omega
        have e : S_mixedInto F M1 (14 + 1 + 2 * r) s = some (stripS M1 14 r s) := by
          unfold stripS
          rcases hR.2.2.1 r hr with ⟨h1, h2⟩ | ⟨n, hn, h1, h2, h3⟩
          · rw [mixedInto_miss hF h1, if_pos h1]
          · rw [mixedInto_eq hF (ln_text hr) hn (by omega) h1, h1, if_neg (nI_m1 (by omega)), cl (by omega)]
        simp only [hc, ↓reduceIte, idx_nI hr (by omega : 4 ≤ 1000000), Option.bind_some, e, nI_1])
      (fun m s => by
        show B_K_digest_187 F M1 _ s (nI 4) = _
        unfold B_K_digest_187
        rw [if_pos (by decide)])
      4 0 F x (by omega) (by omega)
  · exact lpF (fun m r (s : Int64) => L_M_digest_207 F M2 m s (nI r)) (stripS M1 14) (fun s => some s) 4
      (fun m r s hr => by
        show B_M_digest_207 F M2 _ s (nI r) = _
        unfold B_M_digest_207
        have hc : (4 ≤ nI r) = False := by rw [lit 4, nI_leI (by omega) (by omega)]; simp; omega
        have hl : r < ln 105 := hr
        unfold stripS
        rcases hR.2.2.1 r hr with ⟨h1, h2⟩ | ⟨n, hn, h1, h2, h3⟩
        · simp only [hc, ↓reduceIte, ard_nI hl, h1, h2, mtxt_miss hF hr h2, Option.bind_some, nI_1, mixS]
        · have e1 : (nI n = -1) = False := by simp [nI_m1 (n := n) (by omega)]
          simp only [hc, e1, ↓reduceIte, ard_nI hl, h1, h2, mtxt_eq hF hr hn h2, cl (k := n) (by omega), Option.bind_some, nI_1, fo_mix h3]
          rfl)
      (fun m s => by
        show B_M_digest_207 F M2 _ s (nI 4) = _
        unfold B_M_digest_207
        rw [if_pos (by decide)])
      4 0 F x (by omega) (by omega)
theorem dig_kept {F : Nat} (hF : FB ≤ F) {M1 M2 : Mem} {np nd D : Nat} (hc0 : RelC M1 M2 np nd D) (x : Int64) : L_K_digest_132 F M1 F x 0 = some (fo (fun k s => mixS s (M1 (56 + 1 + 3 * k) 0)) 3 0 x) ∧ L_M_digest_106 F M2 F x 1 = some (fo (fun k s => mixS s (M1 (56 + 1 + 3 * k) 0)) 3 0 x) := by
  have hF' := FBL hF
  constructor
  · exact lpF (fun m r (s : Int64) => L_K_digest_132 F M1 m s (nI r)) (fun k s => mixS s (M1 (56 + 1 + 3 * k) 0)) (fun s => some s) 3
      (fun m r s hr => by
        show B_K_digest_132 F M1 _ s (nI r) = _
        unfold B_K_digest_132
        have hc : (3 ≤ nI r) = False := by rw [lit 3, nI_leI (by omega) (by omega)]; simp; omega
        simp only [hc, ↓reduceIte, idx_nI hr (by omega : 3 ≤ 1000000), Option.bind_some, nI_1, mixS])
      (fun m s => by
        show B_K_digest_132 F M1 _ s (nI 3) = _
        unfold B_K_digest_132
        rw [if_pos (by decide)])
      3 0 F x (by omega) (by omega)
  · have key := lpF (fun m r (s : Int64) => L_M_digest_106 F M2 m s (nI r)) (fun k s => mixS s (M2 101 (2994 * k))) (fun s => some s) 4
      (fun m r s hr => by
        show B_M_digest_106 F M2 _ s (nI r) = _
        unfold B_M_digest_106
        have hc : (4 ≤ nI r) = False := by rw [lit 4, nI_leI (by omega) (by omega)]; simp; omega
        have e1 : ((2994 * nI r) + 0) = nI (2994 * r) := by rw [Int32.add_zero, lit 2994, pk_mul]
        simp only [hc, ↓reduceIte, e1, ard_nI (M := M2) (a := 101) (k := 2994 * r) (by show _ < 11976; omega), Option.bind_some, nI_1, mixS])
      (fun m s => by
        show B_M_digest_106 F M2 _ s (nI 4) = _
        unfold B_M_digest_106
        rw [if_pos (by decide)])
      3 1 F x (by omega) (by omega)
    have e2 : fo (fun k s => mixS s (M2 101 (2994 * k))) 3 1 x = fo (fun k s => mixS s (M1 (56 + 1 + 3 * k) 0)) 3 0 x := by
      have h := fo_shift (fun k s => mixS s (M2 101 (2994 * k))) 1 3 0 x
      rw [Nat.zero_add] at h
      rw [h]
      refine fo_congr (e := 3) (fun k s hk => ?_) 3 0 x (by omega)
      have : M1 (56 + 1 + 3 * k) 0 = M2 101 (2994 * (k + 1)) := by
        rcases hc0.2.2.2 k hk with ⟨h1, h2⟩ | ⟨D, ⟨hD, h1, h2, -⟩, -⟩
        · rw [h1, h2]
        · rw [h1, h2]
      rw [this]
    rw [← e2]
    exact key
theorem dig_counts {F : Nat} (hF : FB ≤ F) {M1 M2 : Mem} (hR : Rel M1 M2) {np nd D w : Nat} {kn : Nat → Int32} {dr : Nat → Nat → Int32} (hc : RelC M1 M2 np nd D) (hx : VX M1 23 np nd kn dr) (hm : VM M2 np nd kn dr) (hg : GV np nd w kn dr) (x : Int64) : L_K_digest_6 F M1 F x 0 = some (fo (fun k s => mixS s (countS M1 np nd D kn dr (nI k))) 9 0 x) ∧ L_M_digest_6 F M2 F x 0 = some (fo (fun k s => mixS s (countS M1 np nd D kn dr (nI k))) 9 0 x) := by
  have hF' := FBL hF
  constructor
  · exact lpF (fun m r (s : Int64) => L_K_digest_6 F M1 m s (nI r)) (fun k s => mixS s (countS M1 np nd D kn dr (nI k))) (fun s => some s) 9
      (fun m r s hr => by
        show B_K_digest_6 F M1 _ s (nI r) = _
        unfold B_K_digest_6
        have h9 : (9 ≤ nI r) = False := by rw [lit 9, nI_leI (by omega) (by omega)]; simp; omega
        simp only [h9, ↓reduceIte, count_X hF hx hg hc.2.2.1.2.1, Option.bind_some, nI_1, mixS])
      (fun m s => by
        show B_K_digest_6 F M1 _ s (nI 9) = _
        unfold B_K_digest_6
        rw [if_pos (by decide)])
      9 0 F x (by omega) (by omega)
  · exact lpF (fun m r (s : Int64) => L_M_digest_6 F M2 m s (nI r)) (fun k s => mixS s (countS M1 np nd D kn dr (nI k))) (fun s => some s) 9
      (fun m r s hr => by
        show B_M_digest_6 F M2 _ s (nI r) = _
        unfold B_M_digest_6
        have h9 : (9 ≤ nI r) = False := by rw [lit 9, nI_leI (by omega) (by omega)]; simp; omega
        simp only [h9, ↓reduceIte, count_M hF hR hc hm hg hr, Option.bind_some, nI_1, mixS])
      (fun m s => by
        show B_M_digest_6 F M2 _ s (nI 9) = _
        unfold B_M_digest_6
        rw [if_pos (by decide)])
      9 0 F x (by omega) (by omega)
theorem dig_persons {F : Nat} (hF : FB ≤ F) {M1 M2 : Mem} {np nd w : Nat} {kn : Nat → Int32} {dr : Nat → Nat → Int32} (hx : VX M1 23 np nd kn dr) (hm : VM M2 np nd kn dr) (hg : GV np nd w kn dr) (x : Int64) : ∃ r, L_K_digest_33 F M1 F x 0 = some r ∧ L_M_digest_33 F M2 F x 0 = some r := by
  have hF' := FBL hF
  have hnp := hg.2.1
  let G : Nat → Nat → Int64 → Int64 := fun p q s => mixS s (toldS np nd (kn p).toNatClampNeg p dr (nI q))
  have hk : ∀ p, p < np → (kn p).toNatClampNeg < 6 ∧ kn p = nI (kn p).toNatClampNeg := by
    intro p hp
    obtain ⟨k, hk, e⟩ := hg.2.2.2.2 p hp
    rw [e, cl (by omega)]
    exact ⟨hk, rfl⟩
  refine ⟨fo (fun p s => fo (G p) 5 0 s) np 0 x, ?_, ?_⟩
  · exact lpF (fun m p (s : Int64) => L_K_digest_33 F M1 m s (nI p)) (fun p s => fo (G p) 5 0 s) (fun s => some s) np
      (fun m p s hp => by
        show B_K_digest_33 F M1 _ s (nI p) = _
        unfold B_K_digest_33
        have hc : (nI np ≤ nI p) = False := by rw [nI_leI (by omega) (by omega)]; simp; omega
        have inner := lpF (fun m q (s : Int64) => L_K_digest_47 F M1 (nI p) m s (nI q)) (G p) (fun s => some s) 5
          (fun m q s hq => by
            show B_K_digest_47 F M1 (nI p) _ s (nI q) = _
            unfold B_K_digest_47
            have h5 : (5 ≤ nI q) = False := by rw [lit 5, nI_leI (by omega) (by omega)]; simp; omega
            simp only [h5, ↓reduceIte, told_X hF hx hg.bn hp (hk p hp).1 (hk p hp).2, Option.bind_some, nI_1]
            rfl)
          (fun m s => by
            show B_K_digest_47 F M1 (nI p) _ s (nI 5) = _
            unfold B_K_digest_47
            rw [if_pos (by decide)])
          5 0 F s (by omega) (by omega)
        have inner : L_K_digest_47 F M1 (nI p) F s 0 = some (fo (G p) 5 0 s) := inner
        simp only [hx.2.2.1, hc, ↓reduceIte, inner, Option.bind_some, nI_1])
      (fun m s => by
        show B_K_digest_33 F M1 _ s (nI np) = _
        unfold B_K_digest_33
        rw [hx.2.2.1, if_pos (by rw [nI_leI (by omega) (by omega)]; omega)])
      np 0 F x (by omega) (by omega)
  · have key := lpF (fun m k (s : Int64) => L_M_digest_33 F M2 m s (nI k)) (fun k => G (k / 5) (k % 5)) (fun s => some s) (5 * np)
      (fun m k s hkk => by
        show B_M_digest_33 F M2 _ s (nI k) = _
        unfold B_M_digest_33
        have e5 : 5 * nI np = nI (5 * np) := by rw [lit 5, pk_mul]
        have hc : (nI (5 * np) ≤ nI k) = False := by rw [nI_leI (by omega) (by omega)]; simp; omega
        have d1 : dvi (nI k) 5 = some (nI (k / 5)) := by
          unfold dvi
          rw [if_neg (by decide), lit 5, pk_div (by omega) (by omega) (by omega)]
        have d2 : rmi (nI k) 5 = some (nI (k % 5)) := by
          unfold rmi
          rw [if_neg (by decide), lit 5, pk_rem (by omega) (by omega) (by omega)]
        have hp : k / 5 < np := by omega
        simp only [hm.1, e5, hc, ↓reduceIte, d1, d2, told_M hF hm hg.bn hp (hk _ hp).1 (hk _ hp).2, Option.bind_some, nI_1]
        rfl)
      (fun m s => by
        show B_M_digest_33 F M2 _ s (nI (5 * np)) = _
        unfold B_M_digest_33
        have e5 : 5 * nI np = nI (5 * np) := by rw [lit 5, pk_mul]
        rw [hm.1, e5, if_pos (by rw [nI_leI (by omega) (by omega)]; omega)])
      (5 * np) 0 F x (by omega) (by omega)
    rw [← fo_nest G 5 (by omega) x np]
    exact key
theorem dig_drafts {F : Nat} (hF : FB ≤ F) {M1 M2 : Mem} {np nd : Nat} {kn : Nat → Int32} {dr : Nat → Nat → Int32} (hx : VX M1 23 np nd kn dr) (hm : VM M2 np nd kn dr) (x : Int64) : ∃ r, L_K_digest_82 F M1 F x 0 = some r ∧ L_M_digest_69 F M2 F x 0 = some r := by
  have hF' := FBL hF
  have hnd := hm.2.2.2.1
  let G : Nat → Nat → Int64 → Int64 := fun i j s => mixS s (dr i j)
  refine ⟨fo (fun p s => fo (G p) 6 0 s) nd 0 x, ?_, ?_⟩
  · exact lpF (fun m p (s : Int64) => L_K_digest_82 F M1 m s (nI p)) (fun p s => fo (G p) 6 0 s) (fun s => some s) nd
      (fun m p s hp => by
        show B_K_digest_82 F M1 _ s (nI p) = _
        unfold B_K_digest_82
        have hc : (nI nd ≤ nI p) = False := by rw [nI_leI (by omega) (by omega)]; simp; omega
        have inner := lpF (fun m q (s : Int64) => L_K_digest_96 F M1 (nI p) m s (nI q)) (G p) (fun s => some s) 6
          (fun m q s hq => by
            show B_K_digest_96 F M1 (nI p) _ s (nI q) = _
            unfold B_K_digest_96
            have h5 : (6 ≤ nI q) = False := by rw [lit 6, nI_leI (by omega) (by omega)]; simp; omega
            simp only [h5, ↓reduceIte, ofDraft_X hx hp, ofS_nI hq, Option.bind_some, nI_1]
            rfl)
          (fun m s => by
            show B_K_digest_96 F M1 (nI p) _ s (nI 6) = _
            unfold B_K_digest_96
            rw [if_pos (by decide)])
          6 0 F s (by omega) (by omega)
        have inner : L_K_digest_96 F M1 (nI p) F s 0 = some (fo (G p) 6 0 s) := inner
        simp only [hx.2.2.2.1, hc, ↓reduceIte, inner, Option.bind_some, nI_1])
      (fun m s => by
        show B_K_digest_82 F M1 _ s (nI nd) = _
        unfold B_K_digest_82
        rw [hx.2.2.2.1, if_pos (by rw [nI_leI (by omega) (by omega)]; omega)])
      nd 0 F x (by omega) (by omega)
  · have key := lpF (fun m k (s : Int64) => L_M_digest_69 F M2 m s (nI k)) (fun k => G (k / 6) (k % 6)) (fun s => some s) (6 * nd)
      (fun m k s hkk => by
        show B_M_digest_69 F M2 _ s (nI k) = _
        unfold B_M_digest_69
        have e5 : 6 * nI nd = nI (6 * nd) := by rw [lit 6, pk_mul]
        have e2 : 2 + nI k = nI (2 + k) := by rw [lit 2, nI_add]
        have hc : (nI (6 * nd) ≤ nI k) = False := by rw [nI_leI (by omega) (by omega)]; simp; omega
        have hv := hm.2.2.2.2.2 (k / 6) (by omega) (k % 6) (by omega)
        rw [show 2 + 6 * (k / 6) + k % 6 = 2 + k by omega] at hv
        simp only [hm.2.1, e5, e2, hc, ↓reduceIte, ard_nI (M := M2) (a := 101) (k := 2 + k) (by show _ < 11976; omega), hv, Option.bind_some, nI_1]
        rfl)
      (fun m s => by
        show B_M_digest_69 F M2 _ s (nI (6 * nd)) = _
        unfold B_M_digest_69
        have e5 : 6 * nI nd = nI (6 * nd) := by rw [lit 6, pk_mul]
        rw [hm.2.1, e5, if_pos (by rw [nI_leI (by omega) (by omega)]; omega)])
      (6 * nd) 0 F x (by omega) (by omega)
    rw [← fo_nest G 6 (by omega) x nd]
    exact key
theorem op_digest {F : Nat} (hF : FB ≤ F) (M1 M2 : Mem) (hR : Rel M1 M2) : ∃ (r : Int64), K_digest F M1 = some r ∧ M_digest F M2 = some r := by
  obtain ⟨np, nd, D, hc⟩ := hR.2.2.2
  obtain ⟨kn, dr, hx, hm, hg, -, -⟩ := hc.views
  obtain ⟨c1, c2⟩ := dig_counts hF hR hc hx hm hg 17
  obtain ⟨r1, p1, p2⟩ := dig_persons hF hx hm hg (fo (fun k s => mixS s (countS M1 np nd D kn dr (nI k))) 9 0 17)
  obtain ⟨r2, d1, d2⟩ := dig_drafts hF hx hm r1
  obtain ⟨k1, k2⟩ := dig_kept hF hc r2
  obtain ⟨w1, w2⟩ := dig_rows hF hR (fo (fun k s => mixS s (M1 (56 + 1 + 3 * k) 0)) 3 0 r2)
  obtain ⟨t1, t2⟩ := dig_texts hF hR (fo (stripS M1 1) 6 0 (fo (fun k s => mixS s (M1 (56 + 1 + 3 * k) 0)) 3 0 r2))
  unfold K_digest M_digest
  simp only [c1, c2, p1, p2, d1, d2, k1, k2, w1, w2, t1, t2, Option.bind_some]
  exact ⟨_, rfl, rfl⟩
