def FB : Nat := 1000000000000000000000000000000
theorem rel_init : Rel MX0 MM0 := sorry
/-! stubs -/
theorem op_row {F : Nat} (hF : FB ≤ F) (M1 M2 : Mem) (a0 : Int32) (a1 : Int32) (hR : Rel M1 M2) : ∃ (r : Int32) (M1' : Mem) (M2' : Mem), K_row F M1 a0 a1 = some (r, M1') ∧ M_row F M2 a0 a1 = some (r, M2') ∧ Rel M1' M2' := sorry
theorem op_lay {F : Nat} (hF : FB ≤ F) (M1 M2 : Mem) (a0 : Int32) (a1 : Int32) (a2 : Int32) (hR : Rel M1 M2) : ∃ (r : Int32) (M1' : Mem) (M2' : Mem), K_lay F M1 a0 a1 a2 = some (r, M1') ∧ M_lay F M2 a0 a1 a2 = some (r, M2') ∧ Rel M1' M2' := sorry
theorem op_at {F : Nat} (hF : FB ≤ F) (M1 M2 : Mem) (a0 : Int32) (a1 : Int32) (hR : Rel M1 M2) : ∃ (r : Int32) (M1' : Mem) (M2' : Mem), K_at F M1 a0 a1 = some (r, M1') ∧ M_at F M2 a0 a1 = some (r, M2') ∧ Rel M1' M2' := sorry
theorem op_tear {F : Nat} (hF : FB ≤ F) (M1 M2 : Mem) (a0 : Int32) (hR : Rel M1 M2) : ∃ (r : Int32) (M1' : Mem) (M2' : Mem), K_tear F M1 a0 = some (r, M1') ∧ M_tear F M2 a0 = some (r, M2') ∧ Rel M1' M2' := sorry
theorem op_copy {F : Nat} (hF : FB ≤ F) (M1 M2 : Mem) (a0 : Int32) (a1 : Int32) (a2 : Int32) (a3 : Int32) (a4 : Int32) (hR : Rel M1 M2) : ∃ (r : Int32) (M1' : Mem) (M2' : Mem), K_copy F M1 a0 a1 a2 a3 a4 = some (r, M1') ∧ M_copy F M2 a0 a1 a2 a3 a4 = some (r, M2') ∧ Rel M1' M2' := sorry
theorem op_mean {F : Nat} (hF : FB ≤ F) (M1 M2 : Mem) (a0 : Int32) (hR : Rel M1 M2) : ∃ (r : Int32) (M1' : Mem) (M2' : Mem), K_mean F M1 a0 = some (r, M1') ∧ M_mean F M2 a0 = some (r, M2') ∧ Rel M1' M2' := sorry
theorem op_text {F : Nat} (hF : FB ≤ F) (M1 M2 : Mem) (a0 : Int32) (a1 : Int32) (hR : Rel M1 M2) : ∃ (r : Int32) (M1' : Mem) (M2' : Mem), K_text F M1 a0 a1 = some (r, M1') ∧ M_text F M2 a0 a1 = some (r, M2') ∧ Rel M1' M2' := sorry
theorem op_put {F : Nat} (hF : FB ≤ F) (M1 M2 : Mem) (a0 : Int32) (a1 : Int32) (a2 : Int32) (hR : Rel M1 M2) : ∃ (r : Int32) (M1' : Mem) (M2' : Mem), K_put F M1 a0 a1 a2 = some (r, M1') ∧ M_put F M2 a0 a1 a2 = some (r, M2') ∧ Rel M1' M2' := sorry
theorem op_fault {F : Nat} (hF : FB ≤ F) (M1 M2 : Mem) (a0 : Int32) (hR : Rel M1 M2) : ∃ (r : Int32) (M1' : Mem) (M2' : Mem), K_fault F M1 a0 = some (r, M1') ∧ M_fault F M2 a0 = some (r, M2') ∧ Rel M1' M2' := sorry
theorem op_village {F : Nat} (hF : FB ≤ F) (M1 M2 : Mem) (a0 : Int32) (hR : Rel M1 M2) : ∃ (r : Int32) (M1' : Mem) (M2' : Mem), K_village F M1 a0 = some (r, M1') ∧ M_village F M2 a0 = some (r, M2') ∧ Rel M1' M2' := sorry
theorem op_person {F : Nat} (hF : FB ≤ F) (M1 M2 : Mem) (a0 : Int32) (a1 : Int32) (hR : Rel M1 M2) : ∃ (r : Int32) (M1' : Mem) (M2' : Mem), K_person F M1 a0 a1 = some (r, M1') ∧ M_person F M2 a0 a1 = some (r, M2') ∧ Rel M1' M2' := sorry
theorem op_draft {F : Nat} (hF : FB ≤ F) (M1 M2 : Mem) (a0 : Int32) (a1 : Int32) (hR : Rel M1 M2) : ∃ (r : Int32) (M1' : Mem) (M2' : Mem), K_draft F M1 a0 a1 = some (r, M1') ∧ M_draft F M2 a0 a1 = some (r, M2') ∧ Rel M1' M2' := sorry
theorem op_mark {F : Nat} (hF : FB ≤ F) (M1 M2 : Mem) (a0 : Int32) (a1 : Int32) (hR : Rel M1 M2) : ∃ (r : Int32) (M1' : Mem) (M2' : Mem), K_mark F M1 a0 a1 = some (r, M1') ∧ M_mark F M2 a0 a1 = some (r, M2') ∧ Rel M1' M2' := sorry
theorem op_owe {F : Nat} (hF : FB ≤ F) (M1 M2 : Mem) (a0 : Int32) (a1 : Int32) (hR : Rel M1 M2) : ∃ (r : Int32) (M1' : Mem) (M2' : Mem), K_owe F M1 a0 a1 = some (r, M1') ∧ M_owe F M2 a0 a1 = some (r, M2') ∧ Rel M1' M2' := sorry
theorem op_meet {F : Nat} (hF : FB ≤ F) (M1 M2 : Mem) (a0 : Int32) (a1 : Int32) (hR : Rel M1 M2) : ∃ (r : Int32) (M1' : Mem) (M2' : Mem), K_meet F M1 a0 a1 = some (r, M1') ∧ M_meet F M2 a0 a1 = some (r, M2') ∧ Rel M1' M2' := sorry
theorem op_clear {F : Nat} (hF : FB ≤ F) (M1 M2 : Mem) (a0 : Int32) (hR : Rel M1 M2) : ∃ (r : Int32) (M1' : Mem) (M2' : Mem), K_clear F M1 a0 = some (r, M1') ∧ M_clear F M2 a0 = some (r, M2') ∧ Rel M1' M2' := sorry
theorem op_endorse {F : Nat} (hF : FB ≤ F) (M1 M2 : Mem) (a0 : Int32) (a1 : Int32) (hR : Rel M1 M2) : ∃ (r : Int32) (M1' : Mem) (M2' : Mem), K_endorse F M1 a0 a1 = some (r, M1') ∧ M_endorse F M2 a0 a1 = some (r, M2') ∧ Rel M1' M2' := sorry
theorem op_week {F : Nat} (hF : FB ≤ F) (M1 M2 : Mem) (hR : Rel M1 M2) : ∃ (r : Int32) (M1' : Mem) (M2' : Mem), K_week F M1 = some (r, M1') ∧ M_week F M2 = some (r, M2') ∧ Rel M1' M2' := sorry
theorem op_undo {F : Nat} (hF : FB ≤ F) (M1 M2 : Mem) (a0 : Int32) (hR : Rel M1 M2) : ∃ (r : Int32) (M1' : Mem) (M2' : Mem), K_undo F M1 a0 = some (r, M1') ∧ M_undo F M2 a0 = some (r, M2') ∧ Rel M1' M2' := sorry
theorem op_keep {F : Nat} (hF : FB ≤ F) (M1 M2 : Mem) (a0 : Int32) (hR : Rel M1 M2) : ∃ (r : Int32) (M1' : Mem) (M2' : Mem), K_keep F M1 a0 = some (r, M1') ∧ M_keep F M2 a0 = some (r, M2') ∧ Rel M1' M2' := sorry
theorem op_on {F : Nat} (hF : FB ≤ F) (M1 M2 : Mem) (a0 : Int32) (hR : Rel M1 M2) : ∃ (r : Int32) (M1' : Mem) (M2' : Mem), K_on F M1 a0 = some (r, M1') ∧ M_on F M2 a0 = some (r, M2') ∧ Rel M1' M2' := sorry
theorem op_between {F : Nat} (hF : FB ≤ F) (M1 M2 : Mem) (a0 : Int32) (a1 : Int32) (a2 : Int32) (hR : Rel M1 M2) : ∃ (r : Int32), K_between F M1 a0 a1 a2 = some r ∧ M_between F M2 a0 a1 a2 = some r := sorry
theorem op_all {F : Nat} (hF : FB ≤ F) (M1 M2 : Mem) (a0 : Int32) (hR : Rel M1 M2) : ∃ (r : Int32) (M1' : Mem) (M2' : Mem), K_all F M1 a0 = some (r, M1') ∧ M_all F M2 a0 = some (r, M2') ∧ Rel M1' M2' := sorry
theorem op_ring {F : Nat} (hF : FB ≤ F) (M1 M2 : Mem) (a0 : Int32) (a1 : Int32) (hR : Rel M1 M2) : ∃ (r : Int32) (M1' : Mem) (M2' : Mem), K_ring F M1 a0 a1 = some (r, M1') ∧ M_ring F M2 a0 a1 = some (r, M2') ∧ Rel M1' M2' := sorry
theorem op_net {F : Nat} (hF : FB ≤ F) (M1 M2 : Mem) (a0 : Int32) (hR : Rel M1 M2) : ∃ (r : Int32), K_net F M1 a0 = some r ∧ M_net F M2 a0 = some r := sorry
theorem op_left {F : Nat} (hF : FB ≤ F) (M1 M2 : Mem) (a0 : Int32) (hR : Rel M1 M2) : ∃ (r : Int32) (M1' : Mem) (M2' : Mem), K_left F M1 a0 = some (r, M1') ∧ M_left F M2 a0 = some (r, M2') ∧ Rel M1' M2' := sorry
theorem op_falls {F : Nat} (hF : FB ≤ F) (M1 M2 : Mem) (a0 : Int32) (hR : Rel M1 M2) : ∃ (r : Int32), K_falls F M1 a0 = some r ∧ M_falls F M2 a0 = some r := sorry
theorem op_worst {F : Nat} (hF : FB ≤ F) (M1 M2 : Mem) (hR : Rel M1 M2) : ∃ (r : Int32) (M1' : Mem) (M2' : Mem), K_worst F M1 = some (r, M1') ∧ M_worst F M2 = some (r, M2') ∧ Rel M1' M2' := sorry
theorem op_saved {F : Nat} (hF : FB ≤ F) (M1 M2 : Mem) (a0 : Int32) (a1 : Int32) (hR : Rel M1 M2) : ∃ (r : Int32), K_saved F M1 a0 a1 = some r ∧ M_saved F M2 a0 a1 = some r := sorry
theorem op_pairs {F : Nat} (hF : FB ≤ F) (M1 M2 : Mem) (hR : Rel M1 M2) : ∃ (r : Int32) (M1' : Mem) (M2' : Mem), K_pairs F M1 = some (r, M1') ∧ M_pairs F M2 = some (r, M2') ∧ Rel M1' M2' := sorry
theorem op_rounds {F : Nat} (hF : FB ≤ F) (M1 M2 : Mem) (hR : Rel M1 M2) : ∃ (r : Int32) (M1' : Mem) (M2' : Mem), K_rounds F M1 = some (r, M1') ∧ M_rounds F M2 = some (r, M2') ∧ Rel M1' M2' := sorry
theorem op_mistletoe {F : Nat} (hF : FB ≤ F) (M1 M2 : Mem) (hR : Rel M1 M2) : ∃ (r : Int32) (M1' : Mem) (M2' : Mem), K_mistletoe F M1 = some (r, M1') ∧ M_mistletoe F M2 = some (r, M2') ∧ Rel M1' M2' := sorry
theorem op_gain {F : Nat} (hF : FB ≤ F) (M1 M2 : Mem) (a0 : Int32) (hR : Rel M1 M2) : ∃ (r : Int32) (M1' : Mem) (M2' : Mem), K_gain F M1 a0 = some (r, M1') ∧ M_gain F M2 a0 = some (r, M2') ∧ Rel M1' M2' := sorry
theorem op_trust {F : Nat} (hF : FB ≤ F) (M1 M2 : Mem) (a0 : Int32) (a1 : Int32) (hR : Rel M1 M2) : ∃ (r : Int32), K_trust F M1 a0 a1 = some r ∧ M_trust F M2 a0 a1 = some r := sorry
theorem op_blushes {F : Nat} (hF : FB ≤ F) (M1 M2 : Mem) (a0 : Int32) (hR : Rel M1 M2) : ∃ (r : Int32) (M1' : Mem) (M2' : Mem), K_blushes F M1 a0 = some (r, M1') ∧ M_blushes F M2 a0 = some (r, M2') ∧ Rel M1' M2' := sorry
theorem op_sure {F : Nat} (hF : FB ≤ F) (M1 M2 : Mem) (a0 : Int32) (hR : Rel M1 M2) : ∃ (r : Int32) (M1' : Mem) (M2' : Mem), K_sure F M1 a0 = some (r, M1') ∧ M_sure F M2 a0 = some (r, M2') ∧ Rel M1' M2' := sorry
theorem op_odds {F : Nat} (hF : FB ≤ F) (M1 M2 : Mem) (hR : Rel M1 M2) : ∃ (r : Int32) (M1' : Mem) (M2' : Mem), K_odds F M1 = some (r, M1') ∧ M_odds F M2 = some (r, M2') ∧ Rel M1' M2' := sorry
theorem op_lots {F : Nat} (hF : FB ≤ F) (M1 M2 : Mem) (a0 : Int32) (a1 : Int32) (hR : Rel M1 M2) : ∃ (r : Int32) (M1' : Mem) (M2' : Mem), K_lots F M1 a0 a1 = some (r, M1') ∧ M_lots F M2 a0 a1 = some (r, M2') ∧ Rel M1' M2' := sorry
theorem op_asked {F : Nat} (hF : FB ≤ F) (M1 M2 : Mem) (hR : Rel M1 M2) : ∃ (r : Int32), K_asked F M1 = some r ∧ M_asked F M2 = some r := sorry
theorem op_upper {F : Nat} (hF : FB ≤ F) (M1 M2 : Mem) (hR : Rel M1 M2) : ∃ (r : Int64), K_upper F M1 = some r ∧ M_upper F M2 = some r := sorry
theorem op_lower {F : Nat} (hF : FB ≤ F) (M1 M2 : Mem) (hR : Rel M1 M2) : ∃ (r : Int64), K_lower F M1 = some r ∧ M_lower F M2 = some r := sorry
theorem op_count {F : Nat} (hF : FB ≤ F) (M1 M2 : Mem) (a0 : Int32) (hR : Rel M1 M2) : ∃ (r : Int32), K_count F M1 a0 = some r ∧ M_count F M2 a0 = some r := sorry
theorem op_finding {F : Nat} (hF : FB ≤ F) (M1 M2 : Mem) (hR : Rel M1 M2) : ∃ (r : Int32), K_finding F M1 = some r ∧ M_finding F M2 = some r := sorry
theorem op_findings {F : Nat} (hF : FB ≤ F) (M1 M2 : Mem) (a0 : Int32) (hR : Rel M1 M2) : ∃ (r : Int32), K_findings F M1 a0 = some r ∧ M_findings F M2 a0 = some r := sorry
theorem op_digest {F : Nat} (hF : FB ≤ F) (M1 M2 : Mem) (hR : Rel M1 M2) : ∃ (r : Int64), K_digest F M1 = some r ∧ M_digest F M2 = some r := sorry
