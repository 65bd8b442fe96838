/-! left -/
theorem nodup_map {g : Nat → Nat → Nat} : ∀ {b : List Nat}, (b.map (g 0)).Nodup → b.Nodup := by
  intro b
  induction b with
  | nil => intro _; exact List.nodup_nil
  | cons x b ih =>
    intro h
    rw [List.map_cons, List.nodup_cons] at h
    rw [List.nodup_cons]
    exact ⟨fun hm => h.1 (List.mem_map.mpr ⟨x, hm, rfl⟩), ih h.2⟩
theorem leftSub_M {F nd np : Nat} (hF : FB ≤ F) {g : Nat → Nat → Nat} {b : List Nat} {M : Mem} (hg : Gd g nd np) (hc : gdC g nd b) (h1 : M 100 23 = nI b.length) (h2 : M 100 24 = nI (lst g b)) (h3 : PXc 112 M b) (h4 : ∀ i, i < nd → M 110 i = nI (g 2 i)) (h5 : ∀ i, nd ≤ i → i < 12 → M 110 i = 0) : ∃ N, L_M_left_31 F F M 0 = some N ∧ (∀ i, i < nd → N 110 i = nI (gcl g b 2 i)) ∧ (∀ i, nd ≤ i → i < 12 → N 110 i = 0) ∧ ∀ a, a ≠ 110 → N a = M a := by
  have hF' := FBL hF
  have hl6 := len_C hg hc
  have hnd := hg.2.1
  have hnb := nodup_map hc.2
  obtain ⟨N, n1, n2, n3, n4⟩ := lpE (fun m k (N : Mem) => L_M_left_31 F m N (nI k)) (fun k N => (∀ i, i < nd → N 110 i = nI (if i ∈ b.drop (b.length - k) then g 2 i - lst g b else g 2 i)) ∧ (∀ i, nd ≤ i → i < 12 → N 110 i = 0) ∧ ∀ a, a ≠ 110 → N a = M a) (fun N => some N) b.length
    (fun m k N hk hI => by
      obtain ⟨i1, i2, i3⟩ := hI
      have z := hc.1 _ (el_mem hk)
      have ed := el_drop hk
      have nb : (el b k :: b.drop (b.length - k)).Nodup := by rw [← ed]; exact hnb.sublist (List.drop_sublist ..)
      rw [List.nodup_cons] at nb
      have ek : N 110 (el b k) = nI (g 2 (el b k)) := by rw [i1 _ z.1, if_neg nb.1]
      have ml := lst_min (g := g) b _ (el_mem hk)
      refine ⟨up N 110 (el b k) (nI (g 2 (el b k) - lst g b)), ?_, fun i hi => ?_, fun i h h' => by rw [up_ne (by omega), i2 i h h'], fun a ha => by rw [up_cell ha, i3 a ha]⟩
      · show B_M_left_31 F _ N (nI k) = _
        unfold B_M_left_31
        have c1 : (nI b.length ≤ nI k) = False := by rw [nI_leI (by omega) (by omega)]; simp; omega
        have e : N 112 k = nI (el b k) := by rw [i3 112 (by omega), h3 k hk]
        simp only [i3 100 (by omega), h1, h2, c1, ↓reduceIte, ard_nI (M := N) (a := 112) (k := k) (by show k < 6; omega), ob_some, e, ard_nI (M := N) (a := 110) (k := el b k) (by show _ < 12; omega), ek, sub_nI ml, awr_nI (M := N) (a := 110) (k := el b k) (by show _ < 12; omega), nI_1]
      · rw [ed]
        by_cases e : i = el b k
        · subst e
          rw [up_same, if_pos (List.mem_cons_self ..)]
        · rw [up_ne (by omega), i1 i hi]
          congr 1
          by_cases q : i ∈ b.drop (b.length - k)
          · rw [if_pos q, if_pos (List.mem_cons_of_mem _ q)]
          · rw [if_neg q, if_neg (fun h => by
              rcases List.mem_cons.mp h with h | h
              · exact e h
              · exact q h)])
    (fun m N hI => by
      show B_M_left_31 F _ N (nI b.length) = _
      unfold B_M_left_31
      rw [hI.2.2 100 (by omega), h1, if_pos (by rw [nI_leI (by omega) (by omega)]; omega)])
    b.length 0 F M (by omega) (by omega) ⟨fun i hi => by
      rw [Nat.sub_zero, List.drop_length, if_neg (by simp)]
      exact h4 i hi, h5, fun _ _ => rfl⟩
  rw [nI_0] at n1
  refine ⟨N, n1, fun i hi => ?_, n3, n4⟩
  rw [n2 i hi, Nat.sub_self, List.drop_zero]
  by_cases q : i ∈ b
  · rw [if_pos q, gcl_in q]
  · rw [if_neg q, gcl_out q]
theorem pos_cl {g : Nat → Nat → Nat} {nd np : Nat} {b : List Nat} (hg : Gd g nd np) (hc : gdC g nd b) (hb : b ≠ []) : posN (gcl g b) nd < posN g nd := by
  obtain ⟨x, h1, h2⟩ := lst_att' (g := g) hb (fun x hx => (hg.2.2 x (hc.1 x hx).1).2.2.2)
  refine posN_lt (x := x) (by rw [gcl_in h1]; omega) (hc.1 x h1).2 nd (fun i hi h => ?_) (hc.1 x h1).1
  by_cases q : i ∈ b
  · exact (hc.1 i q).2
  · rw [gcl_out q] at h
    exact h
theorem leftL {F np nd : Nat} (hF : FB ≤ F) {s : Int32} (hs2 : ¬ s = 2) {kn : Nat → Int32} {d0 : Nat → Nat → Int32} : ∀ (q n m x : Nat) (g : Nat → Nat → Nat) (dr : Nat → Nat → Int32) (M N : Mem), posN g nd ≤ q → q < n → q < m → x + posN g nd ≤ 12 → Gd g nd np → VX M 38 np nd kn dr → LK s nd dr g → KN nd dr → BN nd dr → AbsX g M (rest g nd [] 0) → SMs g np nd kn d0 N [] → LK0 nd d0 g → (∀ i, nd ≤ i → i < 12 → N 110 i = 0) → N 100 7 = nI x → ∃ (M' N' : Mem) (g' : Nat → Nat → Nat) (dr' : Nat → Nat → Int32) (x' : Nat), L_K_left_34 F s n M (nI x) = some (nI x', M') ∧ L_M_left_22 F m N = some N' ∧ VX M' 38 np nd kn dr' ∧ LK s nd dr' g' ∧ KN nd dr' ∧ (∀ i, i < nd → N' 110 i = nI (g' 2 i)) ∧ (∀ i, nd ≤ i → i < 12 → N' 110 i = 0) ∧ N' 100 7 = nI x' ∧ (∀ a, a < 38 ∨ (52 < a ∧ a < 66) ∨ 69 < a → M' a = M a) ∧ (∀ a, a ≠ 100 → a ≠ 110 → a ≠ 111 → a ≠ 112 → N' a = N a) ∧ ∀ b, b ≠ 7 → b ≠ 21 → b ≠ 23 → b ≠ 24 → N' 100 b = N 100 b := by
  intro q
  induction q with
  | zero =>
    intro n m x g dr M N hq hn hm hx hg hv lk hk hb ha hs l0 hz h7
    obtain ⟨n, rfl⟩ : ∃ j, n = j + 1 := ⟨n - 1, by omega⟩
    obtain ⟨m, rfl⟩ : ∃ j, m = j + 1 := ⟨m - 1, by omega⟩
    have hr := rest_0 (g := g) (nd := nd) (by omega)
    obtain ⟨P, p1, p2, -, -, -, p6, p7⟩ := layBest_M hF l0 hg hs
    rw [if_pos hr] at p1
    rw [hr] at ha
    have z : (M 66 0 ≤ 0) = True := by rw [ha.1]; decide
    refine ⟨M, P, g, dr, x, ?_, ?_, hv, lk, hk, p2.2.1, fun i h h' => by rw [p6 110 (by omega) (by omega) (by omega)]; exact hz i h h', by rw [p7 7 (by omega) (by omega) (by omega)]; exact h7, fun _ _ => rfl, fun a h1 h2 h3 h4 => p6 a h1 h3 h4, fun b h1 h2 h3 h4 => p7 b h2 h3 h4⟩
    · show B_K_left_34 F s _ M (nI x) = _
      unfold B_K_left_34
      simp only [z, ↓reduceIte]
    · show B_M_left_22 F _ N = _
      unfold B_M_left_22
      simp only [p1, ob_some, ↓reduceIte]
  | succ q ih =>
    intro n m x g dr M N hq hn hm hx hg hv lk hk hb ha hs l0 hz h7
    obtain ⟨n, rfl⟩ : ∃ j, n = j + 1 := ⟨n - 1, by omega⟩
    obtain ⟨m, rfl⟩ : ∃ j, m = j + 1 := ⟨m - 1, by omega⟩
    have hlen := rest_len2 hg
    obtain ⟨P, p1, p2, p3, p4, p5, p6, p7⟩ := layBest_M hF l0 hg hs
    by_cases hr : rest g nd [] 0 = []
    · rw [if_pos hr] at p1
      rw [hr] at ha
      have z : (M 66 0 ≤ 0) = True := by rw [ha.1]; decide
      refine ⟨M, P, g, dr, x, ?_, ?_, hv, lk, hk, p2.2.1, fun i h h' => by rw [p6 110 (by omega) (by omega) (by omega)]; exact hz i h h', by rw [p7 7 (by omega) (by omega) (by omega)]; exact h7, fun _ _ => rfl, fun a h1 h2 h3 h4 => p6 a h1 h3 h4, fun b h1 h2 h3 h4 => p7 b h2 h3 h4⟩
      · show B_K_left_34 F s _ M (nI x) = _
        unfold B_K_left_34
        simp only [z, ↓reduceIte]
      · show B_M_left_22 F _ N = _
        unfold B_M_left_22
        simp only [p1, ob_some, ↓reduceIte]
    · rw [if_neg hr] at p1
      have hbn := p5 hr
      have hmem : bst g (rest g nd [] 0) ∈ rest g nd [] 0 := by
        rcases fold_mem (g := g) (rest g nd [] 0) [] with h | h
        · exact absurd h hbn
        · exact h
      obtain ⟨r1, r2, r3, r4⟩ := rest_mem hg hmem
      obtain ⟨x2, x3, x4⟩ := ha.2.2.2.1 hbn
      obtain ⟨y1, y2⟩ := p3.2 hbn
      have hlp : 0 < (rest g nd [] 0).length := List.length_pos_iff.mpr hr
      have z : (M 66 0 ≤ 0) = False := by rw [ha.1, ← nI_0, nI_leI (by omega) (by omega)]; simp [hr]
      have hpos := pos_cl hg r1 hbn
      have hp1 : (12 : Int32) ≤ nI x ↔ False := by
        rw [show (12 : Int32) = nI 12 from rfl, nI_leI (by omega) (by omega)]
        constructor
        · intro h
          omega
        · exact False.elim
      have y0 := p3.1
      generalize bst g (rest g nd [] 0) = b at *
      obtain ⟨C, c1, c2, c3⟩ := clearRing_S hF hs2 hv lk hg hb hk r1 r2 r3 r4 x4
      have lk' := LK_cl lk hg r1
      have gd' : Gd (gcl g b) nd np := Gd_cl hg
      obtain ⟨S, s1, s2, s3⟩ := rings_X hF (Or.inr rfl) c2 lk' gd'
      have hvS : VX S 38 np nd kn (clS dr (el b) (lst g b) b.length) := VX_of c2 (fun a h1 h2 => s3 a (by omega))
      obtain ⟨Q, q1, q2, q3, q4⟩ := leftSub_M hF hg r1 y0 y1 y2 p2.2.1 (fun i h h' => by rw [p6 110 (by omega) (by omega) (by omega)]; exact hz i h h')
      have hQ7 : Q 100 7 = nI x := by rw [q4 100 (by omega), p7 7 (by omega) (by omega) (by omega), h7]
      have hsQ : SMs (gcl g b) np nd kn d0 (up Q 100 7 (nI (x + 1))) [] := ⟨VM_of hs.1 (by rw [up_ne (by omega), q4 100 (by omega), p7 1 (by omega) (by omega) (by omega)]) (by rw [up_cell (by omega), q4 101 (by omega), p6 101 (by omega) (by omega) (by omega)]) (by rw [up_cell (by omega), q4 102 (by omega), p6 102 (by omega) (by omega) (by omega)]), fun i hi => by rw [up_cell (by omega)]; exact q2 i hi, by rw [up_ne (by omega), q4 100 (by omega)]; exact p2.2.2.1, fun k hk => absurd hk (by simp)⟩
      obtain ⟨M', N', g', dr', x', t1, t2, t3, t4, t5, t6, t7, t8, t9, t10, t11⟩ := ih n m (x + 1) (gcl g b) _ S (up Q 100 7 (nI (x + 1))) (by omega) (by omega) (by omega) (by omega) gd' hvS lk' (KN_cl lk hg r1 hk) (BN_cl hb) s2 hsQ (fun i hi => by rw [gcl_o (by omega), gcl_o (by omega)]; exact l0 i hi) (fun i h h' => by rw [up_cell (by omega)]; exact q3 i h h') (up_same ..)
      have z10 : ((1 : Int32) = 0) = False := by decide
      refine ⟨M', N', g', dr', x', ?_, ?_, t3, t4, t5, t6, t7, t8, fun a h => by rw [t9 a h, s3 a (by omega), c3 a (by omega)], fun a h1 h2 h3 h4 => by rw [t10 a h1 h2 h3 h4, up_cell h1, q4 a h2, p6 a h1 h3 h4], fun b h1 h2 h3 h4 => by rw [t11 b h1 h2 h3 h4, up_ne (by omega), q4 100 (by omega), p7 b h2 h3 h4]⟩
      · show B_K_left_34 F s _ M (nI x) = _
        unfold B_K_left_34
        simp only [z, hp1, ↓reduceIte, x3, c1, ob_some, s1, nI_1, t1]
      · show B_M_left_22 F _ N = _
        unfold B_M_left_22
        simp only [p1, ob_some, z10, ↓reduceIte, q1, hQ7, nI_1, t2]
theorem sum_left {nd : Nat} {s : Int32} {dr : Nat → Nat → Int32} {g : Nat → Nat → Nat} (lk : LK s nd dr g) (hk : KN nd dr) : sortS nd dr s = fo (fun i (t : Int32) => t + nI (g 2 i)) nd 0 0 := by
  unfold sortS
  refine fo_congr (e := nd) (fun i t hi => ?_) nd 0 0 (by omega)
  have l := lk i hi
  have k := hk i hi
  by_cases q : dr i 2 = s
  · rw [if_pos q]
    congr 1
    by_cases z : g 2 i = 0
    · rcases l.2.2.1.mpr z with h | h
      · rw [k.1, ← nI_0, nI_leI (by have := k.2; omega) (by omega)] at h
        rw [k.1, z, show kN dr i = 0 by omega]
      · exact absurd q h
    · exact (l.2.2.2 (by omega)).1
  · rw [if_neg q, l.2.2.1.mp (Or.inr q), nI_0, Int32.add_zero]
theorem op_left {F : Nat} (hF : FB ≤ F) (M1 M2 : Mem) (a0 : Int32) (hR : Rel M1 M2) : ∃ (r : Int32) (M1' : Mem) (M2' : Mem), K_left F M1 a0 = some (r, M1') ∧ M_left F M2 a0 = some (r, M2') ∧ Rel M1' M2' := by
  have hF' := FBL hF
  obtain ⟨np, nd, D, hc⟩ := hR.2.2.2
  obtain ⟨kn, dr, hx, hm, hg, -, -⟩ := hc.views
  rcases ringSort (F := F) (M1 := M1) (M2 := M2) a0 with ⟨e1, e2⟩ | ⟨e0, e1, e2⟩
  · exact ⟨-1, M1, M2, by simp only [K_left, e1, ob_some, ↓reduceIte], by simp only [M_left, e2, ob_some, ↓reduceIte], hR⟩
  have hs2 : ¬ a0 = 2 := by
    rcases e0 with rfl | rfl <;> decide
  have lk := LK_of a0 hg.2.1 hg.2.2.2.1
  have gd := Gd_of a0 hg.2.1 hg.2.2.1 hg.2.2.2.1
  obtain ⟨L, l1, l2, l3⟩ := like_eq hF hx
  obtain ⟨S, s1, s2, s3⟩ := rings_X hF (Or.inr rfl) l2 lk gd
  have hm7 : VM (up M2 100 7 0) np nd kn dr := VM_of hm (up_ne (by omega)) (up_cell (by omega)) (up_cell (by omega))
  obtain ⟨B, b1, b2, b0, b3, b4⟩ := begin_M hF a0 hm7 hg
  have hvS : VX S 38 np nd kn dr := VX_of l2 (fun a h1 h2 => s3 a (by omega))
  have hpl := posN_le (gOf a0 dr) nd
  have hnd := hg.2.2.1
  obtain ⟨P, Q, g', dr', x', t1, t2, t3, t4, t5, t6, t7, t8, t9, t10, t11⟩ := leftL hF hs2 (posN (gOf a0 dr) nd) F F 0 (gOf a0 dr) dr S B (Nat.le_refl _) (by omega) (by omega) (by omega) gd hvS lk hg.kn hg.bn s2 b2 (LK0_of lk) b0 (by rw [b4 7 (by omega), up_same]; rfl)
  rw [nI_0] at t1
  have z10 : ((1 : Int32) = 0) = False := by decide
  have hvP : VX (up P 0 11 (nI x')) 38 np nd kn dr' := VX_of t3 (fun a h1 h2 => up_cell (by omega))
  have sm : L_M_left_80 F Q F 0 0 = some (fo (fun i (t : Int32) => t + Q 110 i) 12 0 0) :=
    lpF (fun m i (t : Int32) => L_M_left_80 F Q m t (nI i)) (fun i t => t + Q 110 i) (fun t => some t) 12
      (fun m i t hi => by
        show B_M_left_80 F Q _ t (nI i) = _
        unfold B_M_left_80
        have c1 : ((12 : Int32) ≤ nI i) = False := by rw [show (12 : Int32) = nI 12 from rfl, nI_leI (by omega) (by omega)]; simp; omega
        simp only [c1, ↓reduceIte, ard_nI (M := Q) (a := 110) (k := i) (by show i < 12; omega), ob_some, nI_1])
      (fun m t => by
        show B_M_left_80 F Q _ t (nI 12) = _
        unfold B_M_left_80
        rw [if_pos (by decide)])
      12 0 F 0 (by omega) (by omega)
  have es : fo (fun i (t : Int32) => t + Q 110 i) 12 0 0 = sortS nd dr' a0 := by
    rw [sum_left t4 t5]
    have h12 : 12 = nd + (12 - nd) := by omega
    rw [h12, fo_add, fo_id (12 - nd) (0 + nd) _ (fun k h1 h2 => by rw [t7 k (by omega) (by omega), Int32.add_zero])]
    exact fo_congr (e := nd) (fun k t hk => by rw [t6 k hk]) nd 0 0 (by omega)
  refine ⟨sortS nd dr' a0, up P 0 11 (nI x'), Q, ?_, ?_, ?_⟩
  · simp only [K_left, e1, ob_some, z10, ↓reduceIte, l1, s1, t1, V_kissesOfSort_eq hF hvP]
  · simp only [M_left, e2, ob_some, z10, ↓reduceIte, b1, t2, sm, es]
  · refine Rel_scr hR (fun a h0 h => by rw [up_cell h0, t9 a (by omega), s3 a (by omega), l3 a (by omega)]) (fun b hb => by rw [up_ne (by omega), t9 0 (by omega), s3 0 (by omega), l3 0 (by omega)]) (fun a h h' => by rw [t10 a (by omega) (by omega) (by omega) (by omega), b3 a (by omega) (by omega), up_cell (by omega)]) (fun b hb => by rw [t11 b (by omega) (by omega) (by omega) (by omega), b4 b (by omega), up_ne (by omega)]) ?_
    rw [up_same, t8]
