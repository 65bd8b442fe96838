/-! cells: their kinds and places (by program: wip/whole/emit.py) -/
theorem mc_0 : 0 ∈ LX := by decide
theorem kc_0 : kd 0 = 10 := rfl
theorem mc_1 : 1 ∈ LX := by decide
theorem kc_1 : kd 1 = 1 := rfl
theorem mc_2 : 2 ∈ LX := by decide
theorem kc_2 : kd 2 = 11 := rfl
theorem mc_3 : 3 ∈ LX := by decide
theorem kc_3 : kd 3 = 0 := rfl
theorem mc_4 : 4 ∈ LX := by decide
theorem kc_4 : kd 4 = 11 := rfl
theorem mc_5 : 5 ∈ LX := by decide
theorem kc_5 : kd 5 = 0 := rfl
theorem mc_6 : 6 ∈ LX := by decide
theorem kc_6 : kd 6 = 11 := rfl
theorem mc_7 : 7 ∈ LX := by decide
theorem kc_7 : kd 7 = 0 := rfl
theorem mc_8 : 8 ∈ LX := by decide
theorem kc_8 : kd 8 = 11 := rfl
theorem mc_9 : 9 ∈ LX := by decide
theorem kc_9 : kd 9 = 0 := rfl
theorem mc_10 : 10 ∈ LX := by decide
theorem kc_10 : kd 10 = 11 := rfl
theorem mc_11 : 11 ∈ LX := by decide
theorem kc_11 : kd 11 = 0 := rfl
theorem mc_12 : 12 ∈ LX := by decide
theorem kc_12 : kd 12 = 11 := rfl
theorem mc_13 : 13 ∈ LX := by decide
theorem kc_13 : kd 13 = 0 := rfl
theorem mc_14 : 14 ∈ LX := by decide
theorem kc_14 : kd 14 = 1 := rfl
theorem mc_15 : 15 ∈ LX := by decide
theorem kc_15 : kd 15 = 11 := rfl
theorem mc_16 : 16 ∈ LX := by decide
theorem kc_16 : kd 16 = 0 := rfl
theorem mc_17 : 17 ∈ LX := by decide
theorem kc_17 : kd 17 = 11 := rfl
theorem mc_18 : 18 ∈ LX := by decide
theorem kc_18 : kd 18 = 0 := rfl
theorem mc_19 : 19 ∈ LX := by decide
theorem kc_19 : kd 19 = 11 := rfl
theorem mc_20 : 20 ∈ LX := by decide
theorem kc_20 : kd 20 = 0 := rfl
theorem mc_21 : 21 ∈ LX := by decide
theorem kc_21 : kd 21 = 11 := rfl
theorem mc_22 : 22 ∈ LX := by decide
theorem kc_22 : kd 22 = 0 := rfl
theorem mc_23 : 23 ∈ LX := by decide
theorem kc_23 : kd 23 = 12 := rfl
theorem mc_24 : 24 ∈ LX := by decide
theorem kc_24 : kd 24 = 0 := rfl
theorem mc_25 : 25 ∈ LX := by decide
theorem kc_25 : kd 25 = 2 := rfl
theorem mc_26 : 26 ∈ LX := by decide
theorem kc_26 : kd 26 = 13 := rfl
theorem mc_27 : 27 ∈ LX := by decide
theorem kc_27 : kd 27 = 13 := rfl
theorem mc_28 : 28 ∈ LX := by decide
theorem kc_28 : kd 28 = 13 := rfl
theorem mc_29 : 29 ∈ LX := by decide
theorem kc_29 : kd 29 = 13 := rfl
theorem mc_30 : 30 ∈ LX := by decide
theorem kc_30 : kd 30 = 13 := rfl
theorem mc_31 : 31 ∈ LX := by decide
theorem kc_31 : kd 31 = 13 := rfl
theorem mc_32 : 32 ∈ LX := by decide
theorem kc_32 : kd 32 = 13 := rfl
theorem mc_33 : 33 ∈ LX := by decide
theorem kc_33 : kd 33 = 13 := rfl
theorem mc_34 : 34 ∈ LX := by decide
theorem kc_34 : kd 34 = 13 := rfl
theorem mc_35 : 35 ∈ LX := by decide
theorem kc_35 : kd 35 = 13 := rfl
theorem mc_36 : 36 ∈ LX := by decide
theorem kc_36 : kd 36 = 13 := rfl
theorem mc_37 : 37 ∈ LX := by decide
theorem kc_37 : kd 37 = 13 := rfl
theorem mc_38 : 38 ∈ LX := by decide
theorem kc_38 : kd 38 = 12 := rfl
theorem mc_39 : 39 ∈ LX := by decide
theorem kc_39 : kd 39 = 0 := rfl
theorem mc_40 : 40 ∈ LX := by decide
theorem kc_40 : kd 40 = 2 := rfl
theorem mc_41 : 41 ∈ LX := by decide
theorem kc_41 : kd 41 = 13 := rfl
theorem mc_42 : 42 ∈ LX := by decide
theorem kc_42 : kd 42 = 13 := rfl
theorem mc_43 : 43 ∈ LX := by decide
theorem kc_43 : kd 43 = 13 := rfl
theorem mc_44 : 44 ∈ LX := by decide
theorem kc_44 : kd 44 = 13 := rfl
theorem mc_45 : 45 ∈ LX := by decide
theorem kc_45 : kd 45 = 13 := rfl
theorem mc_46 : 46 ∈ LX := by decide
theorem kc_46 : kd 46 = 13 := rfl
theorem mc_47 : 47 ∈ LX := by decide
theorem kc_47 : kd 47 = 13 := rfl
theorem mc_48 : 48 ∈ LX := by decide
theorem kc_48 : kd 48 = 13 := rfl
theorem mc_49 : 49 ∈ LX := by decide
theorem kc_49 : kd 49 = 13 := rfl
theorem mc_50 : 50 ∈ LX := by decide
theorem kc_50 : kd 50 = 13 := rfl
theorem mc_51 : 51 ∈ LX := by decide
theorem kc_51 : kd 51 = 13 := rfl
theorem mc_52 : 52 ∈ LX := by decide
theorem kc_52 : kd 52 = 13 := rfl
theorem mc_53 : 53 ∈ LX := by decide
theorem kc_53 : kd 53 = 14 := rfl
theorem mc_54 : 54 ∈ LX := by decide
theorem kc_54 : kd 54 = 0 := rfl
theorem mc_55 : 55 ∈ LX := by decide
theorem kc_55 : kd 55 = 0 := rfl
theorem mc_56 : 56 ∈ LX := by decide
theorem kc_56 : kd 56 = 3 := rfl
theorem mc_57 : 57 ∈ LX := by decide
theorem kc_57 : kd 57 = 14 := rfl
theorem mc_58 : 58 ∈ LX := by decide
theorem kc_58 : kd 58 = 0 := rfl
theorem mc_59 : 59 ∈ LX := by decide
theorem kc_59 : kd 59 = 0 := rfl
theorem mc_60 : 60 ∈ LX := by decide
theorem kc_60 : kd 60 = 14 := rfl
theorem mc_61 : 61 ∈ LX := by decide
theorem kc_61 : kd 61 = 0 := rfl
theorem mc_62 : 62 ∈ LX := by decide
theorem kc_62 : kd 62 = 0 := rfl
theorem mc_63 : 63 ∈ LX := by decide
theorem kc_63 : kd 63 = 14 := rfl
theorem mc_64 : 64 ∈ LX := by decide
theorem kc_64 : kd 64 = 0 := rfl
theorem mc_65 : 65 ∈ LX := by decide
theorem kc_65 : kd 65 = 0 := rfl
theorem mc_66 : 66 ∈ LX := by decide
theorem kc_66 : kd 66 = 15 := rfl
theorem mc_67 : 67 ∈ LX := by decide
theorem kc_67 : kd 67 = 0 := rfl
theorem mc_68 : 68 ∈ LX := by decide
theorem kc_68 : kd 68 = 0 := rfl
theorem mc_69 : 69 ∈ LX := by decide
theorem kc_69 : kd 69 = 0 := rfl
theorem mc_70 : 70 ∈ LX := by decide
theorem kc_70 : kd 70 = 16 := rfl
theorem mc_71 : 71 ∈ LX := by decide
theorem kc_71 : kd 71 = 0 := rfl
theorem mc_72 : 72 ∈ LX := by decide
theorem kc_72 : kd 72 = 0 := rfl
theorem mc_73 : 73 ∈ LX := by decide
theorem kc_73 : kd 73 = 0 := rfl
theorem mc_74 : 74 ∈ LX := by decide
theorem kc_74 : kd 74 = 17 := rfl
theorem mc_75 : 75 ∈ LX := by decide
theorem kc_75 : kd 75 = 0 := rfl
theorem mc_76 : 76 ∈ LX := by decide
theorem kc_76 : kd 76 = 0 := rfl
theorem mc_100 : 100 ∈ LM := by decide
theorem kc_100 : kd 100 = 18 := rfl
theorem mc_101 : 101 ∈ LM := by decide
theorem kc_101 : kd 101 = 0 := rfl
theorem mc_102 : 102 ∈ LM := by decide
theorem kc_102 : kd 102 = 0 := rfl
theorem mc_103 : 103 ∈ LM := by decide
theorem kc_103 : kd 103 = 0 := rfl
theorem mc_104 : 104 ∈ LM := by decide
theorem kc_104 : kd 104 = 0 := rfl
theorem mc_105 : 105 ∈ LM := by decide
theorem kc_105 : kd 105 = 0 := rfl
theorem mc_106 : 106 ∈ LM := by decide
theorem kc_106 : kd 106 = 0 := rfl
theorem mc_107 : 107 ∈ LM := by decide
theorem kc_107 : kd 107 = 0 := rfl
theorem mc_108 : 108 ∈ LM := by decide
theorem kc_108 : kd 108 = 0 := rfl
theorem mc_109 : 109 ∈ LM := by decide
theorem kc_109 : kd 109 = 0 := rfl
theorem mc_110 : 110 ∈ LM := by decide
theorem kc_110 : kd 110 = 0 := rfl
theorem mc_111 : 111 ∈ LM := by decide
theorem kc_111 : kd 111 = 0 := rfl
theorem mc_112 : 112 ∈ LM := by decide
theorem kc_112 : kd 112 = 0 := rfl
theorem mc_113 : 113 ∈ LM := by decide
theorem kc_113 : kd 113 = 0 := rfl
theorem mc_114 : 114 ∈ LM := by decide
theorem kc_114 : kd 114 = 0 := rfl
theorem kd_lt {k : Nat} (h : kd k ≠ 99) : k < 115 := by
  rcases Nat.lt_or_ge k 115 with q | q
  · exact q
  · exact absurd (by simp [kd, List.getD_eq_getElem?_getD, List.getElem?_eq_none (l := kdL) (by simpa [kdL] using q)]) h
theorem kd_SA : ∀ k, k < 115 → kd k = 1 → k = 1 ∨ k = 14 := by decide +kernel
theorem kd_DA : ∀ k, k < 115 → kd k = 2 → k = 25 ∨ k = 40 := by decide +kernel
theorem kd_HA : ∀ k, k < 115 → kd k = 3 → k = 56 := by decide +kernel
theorem kd_S : ∀ k, k < 115 → kd k = 11 → k = 2 ∨ k = 4 ∨ k = 6 ∨ k = 8 ∨ k = 10 ∨ k = 12 ∨ k = 15 ∨ k = 17 ∨ k = 19 ∨ k = 21 := by decide +kernel
theorem kd_V : ∀ k, k < 115 → kd k = 12 → k = 23 ∨ k = 38 := by decide +kernel
theorem kd_H : ∀ k, k < 115 → kd k = 14 → k = 53 ∨ k = 57 ∨ k = 60 ∨ k = 63 := by decide +kernel
theorem m_S_places {k : Nat} (h : kd k = 11) : k + 1 ∈ LX := by
  rcases kd_S k (kd_lt (by rw [h]; decide)) h with rfl | rfl | rfl | rfl | rfl | rfl | rfl | rfl | rfl | rfl <;> decide
theorem k_S_places {k : Nat} (h : kd k = 11) : kd (k + 1) = 0 := by
  rcases kd_S k (kd_lt (by rw [h]; decide)) h with rfl | rfl | rfl | rfl | rfl | rfl | rfl | rfl | rfl | rfl <;> rfl
theorem m_V_kinds {k : Nat} (h : kd k = 12) : k + 1 ∈ LX := by
  rcases kd_V k (kd_lt (by rw [h]; decide)) h with rfl | rfl <;> decide
theorem k_V_kinds {k : Nat} (h : kd k = 12) : kd (k + 1) = 0 := by
  rcases kd_V k (kd_lt (by rw [h]; decide)) h with rfl | rfl <;> rfl
theorem m_V_drafts {k : Nat} (h : kd k = 12) : k + 2 ∈ LX := by
  rcases kd_V k (kd_lt (by rw [h]; decide)) h with rfl | rfl <;> decide
theorem k_V_drafts {k : Nat} (h : kd k = 12) : kd (k + 2) = 2 := by
  rcases kd_V k (kd_lt (by rw [h]; decide)) h with rfl | rfl <;> rfl
theorem m_H_counts {k : Nat} (h : kd k = 14) : k + 1 ∈ LX := by
  rcases kd_H k (kd_lt (by rw [h]; decide)) h with rfl | rfl | rfl | rfl <;> decide
theorem k_H_counts {k : Nat} (h : kd k = 14) : kd (k + 1) = 0 := by
  rcases kd_H k (kd_lt (by rw [h]; decide)) h with rfl | rfl | rfl | rfl <;> rfl
theorem m_H_pages {k : Nat} (h : kd k = 14) : k + 2 ∈ LX := by
  rcases kd_H k (kd_lt (by rw [h]; decide)) h with rfl | rfl | rfl | rfl <;> decide
theorem k_H_pages {k : Nat} (h : kd k = 14) : kd (k + 2) = 0 := by
  rcases kd_H k (kd_lt (by rw [h]; decide)) h with rfl | rfl | rfl | rfl <;> rfl
theorem l_V_kinds {k : Nat} (h : kd k = 12) : ln (k + 1) = 6 := by
  rcases kd_V k (kd_lt (by rw [h]; decide)) h with rfl | rfl <;> rfl
theorem l_V_drafts {k : Nat} (h : kd k = 12) : ln (k + 2) = 12 := by
  rcases kd_V k (kd_lt (by rw [h]; decide)) h with rfl | rfl <;> rfl
theorem l_H_counts {k : Nat} (h : kd k = 14) : ln (k + 1) = 41 := by
  rcases kd_H k (kd_lt (by rw [h]; decide)) h with rfl | rfl | rfl | rfl <;> rfl
theorem l_H_pages {k : Nat} (h : kd k = 14) : ln (k + 2) = 492 := by
  rcases kd_H k (kd_lt (by rw [h]; decide)) h with rfl | rfl | rfl | rfl <;> rfl
theorem idx_lt {i : Int32} {n z : Nat} (h : idx i n = some z) : z < n := by
  obtain ⟨h1, rfl⟩ := gd h
  simp only [inb, Bool.and_eq_true, decide_eq_true_eq] at h1
  exact h1.2
theorem kz_S : (∀ z, z < 6 → kd (1 + 1 + 2 * z) = 11 ∧ (1 + 1 + 2 * z) ∈ LX) ∧ (∀ z, z < 4 → kd (14 + 1 + 2 * z) = 11 ∧ (14 + 1 + 2 * z) ∈ LX) := by decide +kernel
theorem ka_S {a z : Nat} {i : Int32} (h : kd a = 1) (hz : idx i (ln a) = some z) : kd (a + 1 + 2 * z) = 11 := by
  have hl := idx_lt hz
  rcases kd_SA a (kd_lt (by rw [h]; decide)) h with rfl | rfl
  · exact (kz_S.1 z hl).1
  · exact (kz_S.2 z hl).1
theorem ma_S {a z : Nat} {i : Int32} (h : kd a = 1) (hz : idx i (ln a) = some z) : a + 1 + 2 * z ∈ LX := by
  have hl := idx_lt hz
  rcases kd_SA a (kd_lt (by rw [h]; decide)) h with rfl | rfl
  · exact (kz_S.1 z hl).2
  · exact (kz_S.2 z hl).2
theorem kz_D : (∀ z, z < 12 → kd (25 + 1 + z) = 13 ∧ (25 + 1 + z) ∈ LX) ∧ (∀ z, z < 12 → kd (40 + 1 + z) = 13 ∧ (40 + 1 + z) ∈ LX) := by decide +kernel
theorem ka_D {a z : Nat} {i : Int32} (h : kd a = 2) (hz : idx i (ln a) = some z) : kd (a + 1 + z) = 13 := by
  have hl := idx_lt hz
  rcases kd_DA a (kd_lt (by rw [h]; decide)) h with rfl | rfl
  · exact (kz_D.1 z hl).1
  · exact (kz_D.2 z hl).1
theorem ma_D {a z : Nat} {i : Int32} (h : kd a = 2) (hz : idx i (ln a) = some z) : a + 1 + z ∈ LX := by
  have hl := idx_lt hz
  rcases kd_DA a (kd_lt (by rw [h]; decide)) h with rfl | rfl
  · exact (kz_D.1 z hl).2
  · exact (kz_D.2 z hl).2
theorem kz_H : (∀ z, z < 3 → kd (56 + 1 + 3 * z) = 14 ∧ (56 + 1 + 3 * z) ∈ LX) := by decide +kernel
theorem ka_H {a z : Nat} {i : Int32} (h : kd a = 3) (hz : idx i (ln a) = some z) : kd (a + 1 + 3 * z) = 14 := by
  have hl := idx_lt hz
  rcases kd_HA a (kd_lt (by rw [h]; decide)) h with rfl
  · exact (kz_H z hl).1
theorem ma_H {a z : Nat} {i : Int32} (h : kd a = 3) (hz : idx i (ln a) = some z) : a + 1 + 3 * z ∈ LX := by
  have hl := idx_lt hz
  rcases kd_HA a (kd_lt (by rw [h]; decide)) h with rfl
  · exact (kz_H z hl).2
theorem ac_69_0 (M : Mem) : ard M 69 0 = some (M 69 0) := rfl
theorem ac_101_0 (M : Mem) : ard M 101 0 = some (M 101 0) := rfl
theorem ac_101_1 (M : Mem) : ard M 101 1 = some (M 101 1) := rfl
theorem ac_111_0 (M : Mem) : ard M 111 0 = some (M 111 0) := rfl
