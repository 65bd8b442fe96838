/-! mean, copy -/
theorem nI_bmod {a : Int} (h1 : -9223372036854775808 ≤ a) (h2 : a < 9223372036854775808) : a.bmod (2 ^ 64) = a := by
  rw [Int.bmod_def]
  split <;> omega
theorem add64 (a b : Int32) : (a.toInt64 + b.toInt64).toInt = a.toInt + b.toInt := by
  have h1 := i32_lo a; have h2 := i32_hi a; have h3 := i32_lo b; have h4 := i32_hi b
  rw [Int64.toInt_add, i64_wide, i64_wide]
  exact nI_bmod (by omega) (by omega)
def sumR (f : Nat → Int32) (n : Nat) : Int64 := fo (fun i (s : Int64) => s + (f i).toInt64) n 0 0
theorem sumR_congr {f g : Nat → Int32} {n : Nat} (h : ∀ i, i < n → f i = g i) : sumR f n = sumR g n := fo_congr (e := n) (fun k s hk => by rw [h k hk]) n 0 0 (by omega)
theorem kmean_eq {F : Nat} (hF : FB ≤ F) {M : Mem} {k n : Nat} (hl : n ≤ ln (k + 1)) (h : M k 1 = nI n) (hn : n ≤ 40) : L_K_mean_47 F M k F 0 0 = some (sumR (M (k + 1)) n) := by
  have hF' := FBL hF
  have key := lpF (fun m i (s : Int64) => L_K_mean_47 F M k m s (nI i)) (fun i s => s + (M (k + 1) i).toInt64) (fun s => some s) n
    (fun m i s hi => by
      show B_K_mean_47 F M k _ s (nI i) = _
      unfold B_K_mean_47
      rw [h, if_neg (by rw [nI_leI (by omega) (by omega)]; omega), ard_nI (by omega)]
      simp only [Option.bind_some]
      rw [nI_1])
    (fun m s => by
      show B_K_mean_47 F M k _ s (nI n) = _
      unfold B_K_mean_47
      rw [h, if_pos (by rw [nI_leI (by omega) (by omega)]; omega)])
    n 0 F 0 (by omega) (by omega)
  exact key
theorem mmean_eq {F : Nat} (hF : FB ≤ F) {M : Mem} {r n : Nat} (hr : r < 6) (h : M 103 r = nI n) (hn : n ≤ 40) : L_M_mean_44 F M (nI r) F 0 0 = some (sumR (fun i => M 104 (40 * r + i)) n) := by
  have hF' := FBL hF
  have hl : r < ln 103 := hr
  have key := lpF (fun m i (s : Int64) => L_M_mean_44 F M (nI r) m s (nI i)) (fun i s => s + (M 104 (40 * r + i)).toInt64) (fun s => some s) n
    (fun m i s hi => by
      show B_M_mean_44 F M (nI r) _ s (nI i) = _
      unfold B_M_mean_44
      rw [ard_nI hl, h]
      simp only [Option.bind_some]
      rw [if_neg (by rw [nI_leI (by omega) (by omega)]; omega), ix40, ard_nI (by show _ < 240; omega)]
      simp only [Option.bind_some]
      rw [nI_1])
    (fun m s => by
      show B_M_mean_44 F M (nI r) _ s (nI n) = _
      unfold B_M_mean_44
      rw [ard_nI hl, h]
      simp only [Option.bind_some]
      rw [if_pos (by rw [nI_leI (by omega) (by omega)]; omega)])
    n 0 F 0 (by omega) (by omega)
  exact key
theorem dvl_nI {s : Int64} {n : Nat} (h0 : 0 < n) (hn : n ≤ 1000) : dvl s (nI n).toInt64 = some (s / (nI n).toInt64) := by
  unfold dvl
  rw [if_neg]
  intro h
  have := congrArg Int64.toInt h
  rw [i64_wide, tI (by omega)] at this
  have e0 : (0 : Int64).toInt = 0 := rfl
  omega
theorem op_mean {F : Nat} (hF : FB ≤ F) (M1 M2 : Mem) (a0 : Int32) (hR : Rel M1 M2) : ∃ (r : Int32) (M1' : Mem) (M2' : Mem), K_mean F M1 a0 = some (r, M1') ∧ M_mean F M2 a0 = some (r, M2') ∧ Rel M1' M2' := by
  have hno : ∀ h : (a0 < 0 ∨ (0 ≤ a0 ∧ nI 6 ≤ a0)), ∃ (r : Int32) (M1' : Mem) (M2' : Mem), K_mean F M1 a0 = some (r, M1') ∧ M_mean F M2 a0 = some (r, M2') ∧ Rel M1' M2' := by
    intro h
    have e := isRow_no (M1 := M1) (M2 := M2) (F := F) h
    simp only [K_mean, M_mean, e.1, e.2, Option.bind_some, ↓reduceIte]
    exact ⟨_, _, _, rfl, rfl, hR⟩
  rcases ixc a0 (n := 6) (by omega) with h | h | ⟨r, hr, rfl⟩
  · exact hno (Or.inl h)
  · exact hno (Or.inr h)
  · have e := isRow_yes (M1 := M1) (M2 := M2) (F := F) hr
    have hl : r < ln 103 := hr
    rcases hR.2.1 r hr with ⟨p1, p2⟩ | ⟨n, hn, p1, p2, p3⟩
    · simp only [K_mean, M_mean, e.1, e.2, miss_yes p1, ard_nI hl, p2, m1_lt, idx_nI hr (by omega : 6 ≤ 1000000), Option.bind_some, ↓reduceIte, i10, ref1, fin1]
      exact ⟨_, _, _, rfl, rfl, refuse_rel hR (by omega) (by omega)⟩
    · by_cases h0 : n = 0
      · subst h0
        have e0 : (nI 0 = 0) = True := by simp [nI_0]
        simp only [K_mean, M_mean, e.1, e.2, miss_no (by omega : 0 ≤ 80) p1, ard_nI hl, p1, p2, e0, nI_ge0' (n := 0) (by omega), idx_nI hr (by omega : 6 ≤ 1000000), Option.bind_some, ↓reduceIte, i10, ref4, fin4]
        exact ⟨_, _, _, rfl, rfl, refuse_rel hR (by omega) (by omega)⟩
      · have e0 : (nI n = 0) = False := by simp [nI_ne0 (n := n) (by omega) (by omega)]
        have hl2 : n ≤ ln (1 + 1 + 2 * r + 1) := by rw [ln_row hr]; exact hn
        simp only [K_mean, M_mean, e.1, e.2, miss_no (by omega : n ≤ 80) p1, ard_nI hl, p1, p2, e0, nI_ge0' (n := n) (by omega), idx_nI hr (by omega : 6 ≤ 1000000), Option.bind_some, ↓reduceIte, i10, kmean_eq hF hl2 p1 hn, mmean_eq hF hr p2 hn, dvl_nI (n := n) (by omega) (by omega), K_tell, M_tell, sumR_congr p3]
        exact ⟨_, _, _, rfl, rfl, tell_rel hR _⟩
/-- n places of the reference's items come from src to dst -/
def cpM (M : Mem) (src dst n : Nat) : Mem := fun k j => if k = 104 ∧ dst ≤ j ∧ j < dst + n then M 104 (src + (j - dst)) else M k j
theorem cp_fwd (M : Mem) (src dst n : Nat) (h : dst ≤ src ∨ src + n ≤ dst) : ∀ c, c ≤ n → fo (fun k (N : Mem) => up N 104 (dst + k) (N 104 (src + k))) c 0 M = cpM M src dst c := by
  intro c
  induction c with
  | zero =>
    intro _
    funext k j
    show M k j = _
    unfold cpM
    rw [if_neg (by omega)]
  | succ c ih =>
    intro hc
    rw [fo_succ, ih (by omega), Nat.zero_add]
    funext k j
    simp only [up_eqn, cpM]
    by_cases hk : k = 104
    · by_cases hj : j = dst + c
      · rw [if_pos ⟨hk, hj⟩, if_neg (by omega), if_pos (by omega)]
        congr 1; omega
      · rw [if_neg (by omega)]
        by_cases hj2 : dst ≤ j ∧ j < dst + c
        · rw [if_pos (by omega), if_pos (by omega)]
        · rw [if_neg (by omega), if_neg (by omega)]
    · rw [if_neg (by omega), if_neg (by omega), if_neg (by omega)]
theorem cp_bwd (M : Mem) (src dst n : Nat) (h : src ≤ dst ∨ dst + n ≤ src) : ∀ c, c ≤ n → fo (fun k (N : Mem) => up N 104 (dst + (n - 1 - k)) (N 104 (src + (n - 1 - k)))) c 0 M = cpM M (src + (n - c)) (dst + (n - c)) c := by
  intro c
  induction c with
  | zero =>
    intro _
    funext k j
    show M k j = _
    unfold cpM
    rw [if_neg (by omega)]
  | succ c ih =>
    intro hc
    rw [fo_succ, ih (by omega), Nat.zero_add]
    funext k j
    simp only [up_eqn, cpM]
    by_cases hk : k = 104
    · by_cases hj : j = dst + (n - 1 - c)
      · rw [if_pos ⟨hk, hj⟩, if_neg (by omega), if_pos (by omega)]
        congr 1; omega
      · rw [if_neg (by omega)]
        by_cases hj2 : dst + (n - c) ≤ j ∧ j < dst + (n - c) + c
        · rw [if_pos (by omega), if_pos (by omega)]
          congr 1; omega
        · rw [if_neg (by omega), if_neg (by omega)]
    · rw [if_neg (by omega), if_neg (by omega), if_neg (by omega)]
theorem mcopy_eq {F : Nat} (hF : FB ≤ F) {M : Mem} {r i t j n : Nat} (hr : r < 6) (ht : t < 6) (h1 : i + n ≤ 40) (h2 : j + n ≤ 40) : ((if nI j ≤ nI i then some (0 : Int32) else some 1).bind fun (b : Int32) => L_M_copy_96 F (nI r) (nI i) (nI t) (nI j) (nI n) b F M 0) = some (cpM M (40 * r + i) (40 * t + j) n) := by
  have hF' := FBL hF
  by_cases hij : j ≤ i
  · have e1 : (nI j ≤ nI i) = True := by rw [nI_leI (by omega) (by omega)]; simp [hij]
    simp only [e1, ↓reduceIte, Option.bind_some]
    have key := lpF (fun m k (M : Mem) => L_M_copy_96 F (nI r) (nI i) (nI t) (nI j) (nI n) 0 m M (nI k)) (fun k M => up M 104 ((40 * t + j) + k) (M 104 ((40 * r + i) + k))) (fun M => some M) n
      (fun m k M hk => by
        show B_M_copy_96 F (nI r) (nI i) (nI t) (nI j) (nI n) 0 _ M (nI k) = _
        unfold B_M_copy_96
        rw [if_neg (by rw [nI_leI (by omega) (by omega)]; omega), if_pos rfl]
        simp only [Option.bind_some]
        rw [ix40, ix40, nI_add, nI_add, ard_nI (by show _ < 240; omega)]
        simp only [Option.bind_some]
        rw [awr_nI (by show _ < 240; omega)]
        simp only [Option.bind_some]
        rw [nI_1])
      (fun m M => by
        show B_M_copy_96 F (nI r) (nI i) (nI t) (nI j) (nI n) 0 _ M (nI n) = _
        unfold B_M_copy_96
        rw [if_pos (by rw [nI_leI (by omega) (by omega)]; omega)])
      n 0 F M (by omega) (by omega)
    show L_M_copy_96 F (nI r) (nI i) (nI t) (nI j) (nI n) 0 F M (nI 0) = _
    rw [key, cp_fwd M (40 * r + i) (40 * t + j) n (by
      rcases Nat.lt_trichotomy r t with g | g | g
      · right; omega
      · left; omega
      · left; omega) n (by omega)]
  · have e1 : (nI j ≤ nI i) = False := by rw [nI_leI (by omega) (by omega)]; simp; omega
    simp only [e1, ↓reduceIte, Option.bind_some]
    have key := lpF (fun m k (M : Mem) => L_M_copy_96 F (nI r) (nI i) (nI t) (nI j) (nI n) 1 m M (nI k)) (fun k M => up M 104 ((40 * t + j) + (n - 1 - k)) (M 104 ((40 * r + i) + (n - 1 - k)))) (fun M => some M) n
      (fun m k M hk => by
        show B_M_copy_96 F (nI r) (nI i) (nI t) (nI j) (nI n) 1 _ M (nI k) = _
        unfold B_M_copy_96
        rw [if_neg (by rw [nI_leI (by omega) (by omega)]; omega), if_neg (by decide)]
        simp only [Option.bind_some]
        rw [lit 1, pk_sub (by omega : 1 ≤ n), pk_sub (by omega : k ≤ n - 1), ix40, ix40, nI_add, nI_add, ard_nI (by show _ < 240; omega)]
        simp only [Option.bind_some]
        rw [awr_nI (by show _ < 240; omega)]
        simp only [Option.bind_some]
        rw [nI_add])
      (fun m M => by
        show B_M_copy_96 F (nI r) (nI i) (nI t) (nI j) (nI n) 1 _ M (nI n) = _
        unfold B_M_copy_96
        rw [if_pos (by rw [nI_leI (by omega) (by omega)]; omega)])
      n 0 F M (by omega) (by omega)
    show L_M_copy_96 F (nI r) (nI i) (nI t) (nI j) (nI n) 1 F M (nI 0) = _
    rw [key, cp_bwd M (40 * r + i) (40 * t + j) n (by
      rcases Nat.lt_trichotomy r t with g | g | g
      · left; omega
      · left; omega
      · right; omega) n (by omega), Nat.sub_self, Nat.add_zero, Nat.add_zero]
theorem copy_rel {M1 M2 : Mem} (hR : Rel M1 M2) {r i t j n sr st : Nat} (hr : r < 6) (ht : t < 6) (hsr : sr ≤ 40) (hst : st ≤ 40) (h1 : i + n ≤ sr) (h2 : j + n ≤ st) (p3 : ∀ i, i < sr → M1 (1 + 1 + 2 * r + 1) i = M2 104 (40 * r + i)) (q1 : M1 (1 + 1 + 2 * t) 1 = nI st) (q2 : M2 103 t = nI st) (q3 : ∀ i, i < st → M1 (1 + 1 + 2 * t + 1) i = M2 104 (40 * t + i)) : Rel (upR M1 (1 + 1 + 2 * t + 1) (va_cpy (M1 (1 + 1 + 2 * r + 1)) (M1 (1 + 1 + 2 * t + 1)) i j n)) (cpM M2 (40 * r + i) (40 * t + j) n) := by
  obtain ⟨⟨a1, a2, a3, a4, a5⟩, hrr, htt, np, nd, D, hc⟩ := hR
  have u1 : ∀ k, k ≠ 1 + 1 + 2 * t + 1 → upR M1 (1 + 1 + 2 * t + 1) (va_cpy (M1 (1 + 1 + 2 * r + 1)) (M1 (1 + 1 + 2 * t + 1)) i j n) k = M1 k := fun k hk => by simp only [upR, if_neg hk]
  have u2 : ∀ k, k ≠ 104 → cpM M2 (40 * r + i) (40 * t + j) n k = M2 k := fun k hk => by funext q; simp only [cpM]; rw [if_neg (by omega)]
  refine ⟨⟨?_, ?_, ?_, ?_, ?_⟩, ?_, RelT_of htt (fun k h h' => u1 k (by omega)) (u2 _ (by decide)) (u2 _ (by decide)), np, nd, D, RelC_of hc (fun k h => u1 k (by omega)) (by rw [u2 _ (by decide)]) (u2 _ (by decide)) (u2 _ (by decide))⟩
  · rw [u1 _ (by omega), u2 _ (by decide)]; exact a1
  · rw [u1 _ (by omega), u2 _ (by decide)]; exact a2
  · rw [u1 _ (by omega), u2 _ (by decide)]; exact a3
  · rw [u1 _ (by omega), u2 _ (by decide)]; exact a4
  · intro f g1 g5
    rw [u1 _ (by omega), u2 _ (by decide)]; exact a5 f g1 g5
  · refine RelS_upd (b := 1) (c := 103) (a := 104) (most := 40) (cnt := 6) hrr (r := t) (fun q hq hqr => ⟨u1 _ (by omega), u1 _ (by omega)⟩) (fun q hq => by rw [u2 _ (by decide)]) (fun q hq => by simp only [cpM]; rw [if_neg (by omega)]) (Or.inr ⟨st, hst, ?_, ?_, fun q hq => ?_⟩)
    · rw [u1 _ (by omega)]; exact q1
    · rw [u2 _ (by decide)]; exact q2
    · unfold upR cpM
      rw [if_pos rfl]
      by_cases hin : j ≤ q ∧ q < j + n
      · rw [pk_cpy_in hin.1 hin.2, if_pos ⟨rfl, by omega, by omega⟩, p3 (i + (q - j)) (by omega)]
        congr 1; omega
      · rw [pk_cpy_out (by omega), if_neg (by omega)]
        exact q3 q hq
/-- a stretch: whether there are so many places -/
theorem str_eq {F : Nat} {M1 M2 : Mem} {r n : Nat} {x y : Int32} (hr : r < 6) (hn : n ≤ 40) (p1 : M1 (1 + 1 + 2 * r) 1 = nI n) (p2 : M2 103 r = nI n) (hy : 0 ≤ y) : (S_hasStretch F M1 (1 + 1 + 2 * r) x y = some 0 ∧ M_isSpan F M2 (nI r) x y = some 0) ∨ ∃ i c : Nat, x = nI i ∧ y = nI c ∧ i + c ≤ n ∧ S_hasStretch F M1 (1 + 1 + 2 * r) x y = some 1 ∧ M_isSpan F M2 (nI r) x y = some 1 := by
  have hl : r < ln 103 := hr
  rw [i32_le] at hy
  have e0 : (0 : Int32).toInt = 0 := rfl
  rw [e0] at hy
  by_cases hx : x < 0
  · left
    simp only [S_hasStretch, M_isSpan, hx, ↓reduceIte, and_self]
  · have hx' : (x < 0) = False := by simp only [hx]
    rw [i32_lt, e0] at hx
    have hsp : (0 < lg_cmp (x.toInt64 + y.toInt64) (nI n).toInt64) ↔ (n : Int) < x.toInt + y.toInt := by
      rw [lg_gt, i64_lt, add64, i64_wide, tI (by omega)]
    by_cases h1 : nI n < x
    · left
      have h1' := h1
      rw [i32_lt, tI (by omega)] at h1
      have h2 : (0 < lg_cmp (x.toInt64 + y.toInt64) (nI n).toInt64) = True := by rw [hsp]; simp; omega
      simp only [S_hasStretch, M_isSpan, hx', p1, h1', ard_nI hl, p2, h2, ↓reduceIte, Option.bind_some, and_self]
    · have h1' : (nI n < x) = False := by simp only [h1]
      rw [i32_lt, tI (by omega)] at h1
      obtain ⟨i, hi, rfl⟩ : ∃ i : Nat, i ≤ n ∧ x = nI i := by
        rcases ixc x (n := n + 1) (by omega) with g | ⟨-, g⟩ | ⟨j, hj, e⟩
        · rw [i32_lt] at g; omega
        · rw [i32_le, tI (by omega)] at g; omega
        · exact ⟨j, by omega, e⟩
      rw [tI (by omega)] at hsp
      have hsub : (nI n - nI i).toInt = (n : Int) - i := pk_sub_toInt (by omega) (by omega)
      by_cases h3 : nI n - nI i < y
      · left
        have h3' := h3
        rw [i32_lt, hsub] at h3
        have h2 : (0 < lg_cmp ((nI i).toInt64 + y.toInt64) (nI n).toInt64) = True := by rw [hsp]; simp; omega
        simp only [S_hasStretch, M_isSpan, hx', p1, h1', h3', ard_nI hl, p2, h2, ↓reduceIte, Option.bind_some, and_self]
      · right
        have h3' : (nI n - nI i < y) = False := by simp only [h3]
        rw [i32_lt, hsub] at h3
        obtain ⟨c, hc, rfl⟩ : ∃ c : Nat, c ≤ n ∧ y = nI c := by
          rcases ixc y (n := n + 1) (by omega) with g | ⟨-, g⟩ | ⟨j, hj, e⟩
          · rw [i32_lt] at g; omega
          · rw [i32_le, tI (by omega)] at g; omega
          · exact ⟨j, by omega, e⟩
        rw [tI (by omega)] at hsp h3
        have h2 : (0 < lg_cmp ((nI i).toInt64 + (nI c).toInt64) (nI n).toInt64) = False := by rw [hsp]; simp; omega
        refine ⟨i, c, rfl, rfl, by omega, ?_, ?_⟩
        · simp only [S_hasStretch, hx', p1, h1', h3', ↓reduceIte]
        · simp only [M_isSpan, hx', ard_nI hl, p2, h2, ↓reduceIte, Option.bind_some]
theorem acp_eq {M : Mem} {a b i j n : Nat} (h1 : i + n ≤ ln a) (h2 : j + n ≤ ln b) : acp M a (nI i) b (nI j) (nI n) = some (upR M b (va_cpy (M a) (M b) i j n)) := by
  have l1 := ln_le a
  have l2 := ln_le b
  unfold acp
  rw [cl (by omega), cl (by omega), cl (by omega), if_pos ⟨nI_ge0 (by omega), nI_ge0 (by omega), nI_ge0 (by omega), h1, h2⟩]
theorem op_copy {F : Nat} (hF : FB ≤ F) (M1 M2 : Mem) (a0 : Int32) (a1 : Int32) (a2 : Int32) (a3 : Int32) (a4 : Int32) (hR : Rel M1 M2) : ∃ (r : Int32) (M1' : Mem) (M2' : Mem), K_copy F M1 a0 a1 a2 a3 a4 = some (r, M1') ∧ M_copy F M2 a0 a1 a2 a3 a4 = some (r, M2') ∧ Rel M1' M2' := by
  have hno : ∀ h : (a0 < 0 ∨ (0 ≤ a0 ∧ nI 6 ≤ a0)), ∃ (r : Int32) (M1' : Mem) (M2' : Mem), K_copy F M1 a0 a1 a2 a3 a4 = some (r, M1') ∧ M_copy F M2 a0 a1 a2 a3 a4 = some (r, M2') ∧ Rel M1' M2' := by
    intro h
    have e := isRow_no (M1 := M1) (M2 := M2) (F := F) h
    simp only [K_copy, M_copy, e.1, e.2, Option.bind_some, ↓reduceIte]
    exact ⟨_, _, _, rfl, rfl, hR⟩
  rcases ixc a0 (n := 6) (by omega) with h | h | ⟨r, hr, rfl⟩
  · exact hno (Or.inl h)
  · exact hno (Or.inr h)
  have e := isRow_yes (M1 := M1) (M2 := M2) (F := F) hr
  have hno2 : ∀ h : (a2 < 0 ∨ (0 ≤ a2 ∧ nI 6 ≤ a2)), ∃ (q : Int32) (M1' : Mem) (M2' : Mem), K_copy F M1 (nI r) a1 a2 a3 a4 = some (q, M1') ∧ M_copy F M2 (nI r) a1 a2 a3 a4 = some (q, M2') ∧ Rel M1' M2' := by
    intro h
    have e2 := isRow_no (M1 := M1) (M2 := M2) (F := F) h
    simp only [K_copy, M_copy, e.1, e.2, e2.1, e2.2, i10, Option.bind_some, ↓reduceIte]
    exact ⟨_, _, _, rfl, rfl, hR⟩
  rcases ixc a2 (n := 6) (by omega) with h | h | ⟨t, ht, rfl⟩
  · exact hno2 (Or.inl h)
  · exact hno2 (Or.inr h)
  have e2 := isRow_yes (M1 := M1) (M2 := M2) (F := F) ht
  by_cases h4 : 0 ≤ a4
  · have hl : r < ln 103 := hr
    have hl2 : t < ln 103 := ht
    have d1 := idx_nI hr (by omega : 6 ≤ 1000000)
    have d2 := idx_nI ht (by omega : 6 ≤ 1000000)
    have m1n : ((-1 : Int32) < 0) = True := by decide
    rcases hR.2.1 r hr with ⟨p1, p2⟩ | ⟨n, hn, p1, p2, p3⟩
    · simp only [K_copy, M_copy, e.1, e.2, e2.1, e2.2, i10, Option.bind_some, ↓reduceIte, h4, d1, d2, miss_yes p1, ard_nI hl, p2, m1n, ref1, fin1]
      exact ⟨_, _, _, rfl, rfl, refuse_rel hR (by omega) (by omega)⟩
    · have nlt : (nI n < 0) = False := by simp [nI_nlt0 (n := n) (by omega)]
      rcases hR.2.1 t ht with ⟨q1, q2⟩ | ⟨w, hw, q1, q2, q3⟩
      · simp only [K_copy, M_copy, e.1, e.2, e2.1, e2.2, i10, Option.bind_some, ↓reduceIte, h4, d1, d2, miss_no (by omega : n ≤ 80) p1, miss_yes q1, ard_nI hl, ard_nI hl2, p2, q2, nlt, m1_lt, ref1, fin1]
        exact ⟨_, _, _, rfl, rfl, refuse_rel hR (by omega) (by omega)⟩
      · have wge : (0 ≤ nI w) = True := by simp [nI_ge0 (n := w) (by omega)]
        rcases str_eq (F := F) (x := a1) hr hn p1 p2 h4 with ⟨s1, s2⟩ | ⟨i, c, rfl, rfl, hic, s1, s2⟩
        · simp only [K_copy, M_copy, e.1, e.2, e2.1, e2.2, i10, Option.bind_some, ↓reduceIte, h4, d1, d2, miss_no (by omega : n ≤ 80) p1, miss_no (by omega : w ≤ 80) q1, ard_nI hl, ard_nI hl2, p2, q2, nlt, wge, s1, s2, ref2, fin2]
          exact ⟨_, _, _, rfl, rfl, refuse_rel hR (by omega) (by omega)⟩
        · rcases str_eq (F := F) (x := a3) ht hw q1 q2 h4 with ⟨u1, u2⟩ | ⟨j, c', rfl, hcc, hjc, u1, u2⟩
          · simp only [K_copy, M_copy, e.1, e.2, e2.1, e2.2, i10, Option.bind_some, ↓reduceIte, h4, d1, d2, miss_no (by omega : n ≤ 80) p1, miss_no (by omega : w ≤ 80) q1, ard_nI hl, ard_nI hl2, p2, q2, nlt, wge, s1, s2, u1, u2, ref2, fin2]
            exact ⟨_, _, _, rfl, rfl, refuse_rel hR (by omega) (by omega)⟩
          · have hc' : c' = c := (nI_inj (by omega) (by omega) hcc).symm
            subst hc'
            have mc := mcopy_eq hF (M := M2) (r := r) (i := i) (t := t) (j := j) (n := c') hr ht (by omega) (by omega)
            have ac := acp_eq (M := M1) (a := 1 + 1 + 2 * r + 1) (b := 1 + 1 + 2 * t + 1) (i := i) (j := j) (n := c') (by rw [ln_row hr]; omega) (by rw [ln_row ht]; omega)
            have mc2 : ((if nI j ≤ nI i then some (0 : Int32) else some 1).bind fun (b : Int32) => (L_M_copy_96 F (nI r) (nI i) (nI t) (nI j) (nI c') b F M2 0).bind fun u22 => some ((1 : Int32), u22)) = some (1, cpM M2 (40 * r + i) (40 * t + j) c') := by
              by_cases hq : nI j ≤ nI i
              · simp only [hq, ↓reduceIte, Option.bind_some] at mc ⊢
                rw [mc]; rfl
              · simp only [hq, ↓reduceIte, Option.bind_some] at mc ⊢
                rw [mc]; rfl
            simp only [K_copy, M_copy, e.1, e.2, e2.1, e2.2, i10, Option.bind_some, ↓reduceIte, h4, d1, d2, miss_no (by omega : n ≤ 80) p1, miss_no (by omega : w ≤ 80) q1, ard_nI hl, ard_nI hl2, p2, q2, nlt, wge, s1, s2, u1, u2, ac, mc2]
            exact ⟨_, _, _, rfl, rfl, copy_rel hR hr ht hn hw hic hjc p3 q1 q2 q3⟩
  · simp only [K_copy, M_copy, e.1, e.2, e2.1, e2.2, i10, Option.bind_some, ↓reduceIte, h4, ref5, fin5]
    exact ⟨_, _, _, rfl, rfl, refuse_rel hR (by omega) (by omega)⟩
