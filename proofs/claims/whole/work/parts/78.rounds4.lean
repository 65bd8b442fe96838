/-! rounds: the reference -/
def GMa (a : Nat → Nat → Nat) (S : Nat) (M : Mem) : Prop := M 100 26 = nI S ∧ ∀ k, k < S → M 113 (2 * k) = nI (a 0 k) ∧ M 113 (2 * k + 1) = nI (a 1 k)
theorem GMa_of {a : Nat → Nat → Nat} {S : Nat} {M N : Mem} (h : GMa a S M) (e : ∀ b, b ≠ 114 → N b = M b) : GMa a S N := ⟨by rw [e 100 (by omega)]; exact h.1, fun k hk => by rw [e 113 (by omega)]; exact h.2 k hk⟩
theorem ix2 (j : Nat) : 2 * nI j = nI (2 * j) := by rw [show (2 : Int32) = nI 2 from rfl, pk_mul]
def bzB (a : Nat → Nat → Nat) (k f : Nat) (d : List Nat) : Bool := usd a d (a 0 k) f || usd a d (a 1 k) f
theorem busy_M {F S f : Nat} (hF : FB ≤ F) {a : Nat → Nat → Nat} (ha : GA a S) {M : Mem} {c : List Nat} (hg : GMa a S M) (hk : c.length < S) (hx : ∀ x, x ∈ c → x < 100) (hf : f < 100) (hp : PXc 114 M c) (he : M 114 c.length = nI f) : M_isBusy F M (nI c.length) = some (if okc a c f = true then 0 else 1) := by
  have hF' := FBL hF
  have hS := ha.1
  obtain ⟨s', n1, n2⟩ := lpE (fun m j (s : Int32) => L_M_isBusy_4 F M (nI c.length) m s (nI j)) (fun j s => s = if bzB a c.length f (c.drop (c.length - j)) = true then 1 else 0) (fun s => some s) c.length
    (fun m j s hj hI => by
      subst hI
      refine ⟨if bzB a c.length f (c.drop (c.length - (j + 1))) = true then 1 else 0, ?_, rfl⟩
      show B_M_isBusy_4 F M (nI c.length) _ _ (nI j) = _
      unfold B_M_isBusy_4
      obtain ⟨g1, g2⟩ := hg.2 j (by omega)
      obtain ⟨g3, g4⟩ := hg.2 c.length hk
      obtain ⟨a1, a2, -⟩ := ha.2 j (by omega)
      obtain ⟨a3, a4, -⟩ := ha.2 c.length hk
      have r1 := hp j hj
      have z := hx _ (el_mem hj)
      have c1 : (nI c.length ≤ nI j) = False := by rw [nI_leI (by omega) (by omega)]; simp; omega
      have dl : (c.drop (c.length - j)).length = j := by rw [List.length_drop]; omega
      have eb : bzB a c.length f (c.drop (c.length - (j + 1))) = ((decide (el c j = f) && (inPr a j (a 0 c.length) || inPr a j (a 1 c.length))) || bzB a c.length f (c.drop (c.length - j))) := by
        rw [el_drop hj]
        have us : ∀ p, usd a (el c j :: c.drop (c.length - j)) p f = ((decide (el c j = f) && inPr a (c.drop (c.length - j)).length p) || usd a (c.drop (c.length - j)) p f) := fun _ => rfl
        unfold bzB
        rw [us, us, dl]
        cases decide (el c j = f) <;> cases inPr a j (a 0 c.length) <;> cases inPr a j (a 1 c.length) <;> cases usd a (c.drop (c.length - j)) (a 0 c.length) f <;> cases usd a (c.drop (c.length - j)) (a 1 c.length) f <;> rfl
      have u0 : ard M 113 (nI (2 * j)) = some (nI (a 0 j)) := by rw [ard_nI (by show _ < 30; omega), g1]
      have u1 : ard M 113 (nI (2 * j + 1)) = some (nI (a 1 j)) := by rw [ard_nI (by show _ < 30; omega), g2]
      have u2 : ard M 113 (nI (2 * c.length)) = some (nI (a 0 c.length)) := by rw [ard_nI (by show _ < 30; omega), g3]
      have u3 : ard M 113 (nI (2 * c.length + 1)) = some (nI (a 1 c.length)) := by rw [ard_nI (by show _ < 30; omega), g4]
      have v0 : ard M 114 (nI j) = some (nI (el c j)) := by rw [ard_nI (by show _ < 16; omega), r1]
      have v1 : ard M 114 (nI c.length) = some (nI f) := by rw [ard_nI (by show _ < 16; omega), he]
      have e1 : (nI (a 0 j) = nI (a 0 c.length)) = (a 0 j = a 0 c.length) := by rw [nI_eq (by omega) (by omega)]
      have e2 : (nI (a 0 j) = nI (a 1 c.length)) = (a 0 j = a 1 c.length) := by rw [nI_eq (by omega) (by omega)]
      have e3 : (nI (a 1 j) = nI (a 0 c.length)) = (a 1 j = a 0 c.length) := by rw [nI_eq (by omega) (by omega)]
      have e4 : (nI (a 1 j) = nI (a 1 c.length)) = (a 1 j = a 1 c.length) := by rw [nI_eq (by omega) (by omega)]
      have e5 : (nI (el c j) = nI f) = (el c j = f) := by rw [nI_eq (by omega) (by omega)]
      have z10 : ((1 : Int32) = 0) = False := by decide
      simp only [c1, ↓reduceIte, ix2, nI_1, u0, u1, u2, u3, v0, v1, ob_some, e1, e2, e3, e4, e5, eb, inPr]
      by_cases q0 : bzB a c.length f (c.drop (c.length - j)) = true
      · simp only [q0, ↓reduceIte, z10, Bool.or_true]
        by_cases p1 : a 0 j = a 0 c.length
        · simp [p1]
        by_cases p2 : a 0 j = a 1 c.length
        · simp [p1, p2]
        by_cases p3 : a 1 j = a 0 c.length
        · simp [p1, p2, p3]
        by_cases p4 : a 1 j = a 1 c.length
        · simp [p1, p2, p3, p4]
        · simp [p1, p2, p3, p4]
      · have q0' : bzB a c.length f (c.drop (c.length - j)) = false := by simpa using q0
        simp only [q0', ↓reduceIte, Bool.or_false, Bool.false_eq_true]
        by_cases p1 : a 0 j = a 0 c.length
        · by_cases q : el c j = f <;> simp [p1, q, z10]
        by_cases p2 : a 0 j = a 1 c.length
        · by_cases q : el c j = f <;> simp [p1, p2, q, z10]
        by_cases p3 : a 1 j = a 0 c.length
        · by_cases q : el c j = f <;> simp [p1, p2, p3, q, z10]
        by_cases p4 : a 1 j = a 1 c.length
        · by_cases q : el c j = f <;> simp [p1, p2, p3, p4, q, z10]
        · simp [p1, p2, p3, p4])
    (fun m s hI => by
      show B_M_isBusy_4 F M (nI c.length) _ s (nI c.length) = _
      unfold B_M_isBusy_4
      rw [if_pos (by rw [nI_leI (by omega) (by omega)]; omega)])
    c.length 0 F 0 (by omega) (by omega) (by rw [Nat.sub_zero, List.drop_length]; rfl)
  rw [nI_0] at n1
  unfold M_isBusy
  rw [n1, ob_some, n2, Nat.sub_self, List.drop_zero]
  have ho : okc a c f = !(bzB a c.length f c) := rfl
  rw [ho]
  rcases bzB a c.length f c with _ | _ <;> rfl
theorem step_M {F L S : Nat} (hF : FB ≤ F) (hL : L ≤ 15) {a : Nat → Nat → Nat} (ha : GA a S) {c : List Nat} (hk : c.length < S) (hx : ∀ x, x ∈ c → x < L) : ∀ (j f n : Nat) (M : Mem), f + j = L → j < n → GMa a S M → PXc 114 M c → M 114 c.length = nI f → ∃ f', f ≤ f' ∧ f' ≤ L ∧ (f' < L → okc a c f' = true) ∧ (∀ r, f ≤ r → r < f' → okc a c r = false) ∧ L_M_canMeet_45 F (nI L) (nI c.length) n M = some (up M 114 c.length (nI f')) := by
  have hS := ha.1
  intro j
  induction j with
  | zero =>
    intro f n M hf hn hg hp he
    obtain ⟨n, rfl⟩ : ∃ j, n = j + 1 := ⟨n - 1, by omega⟩
    refine ⟨f, Nat.le_refl _, by omega, fun h => absurd h (by omega), fun r h1 h2 => absurd h1 (by omega), ?_⟩
    show B_M_canMeet_45 F (nI L) (nI c.length) _ M = _
    unfold B_M_canMeet_45
    rw [ard_nI (by show _ < 16; omega), ob_some, he, if_pos (by rw [nI_leI (by omega) (by omega)]; omega), ← he]
    congr 1
    funext x y
    simp only [up_eqn]
    by_cases e : x = 114 ∧ y = c.length
    · rw [if_pos e, e.1, e.2]
    · rw [if_neg e]
  | succ j ih =>
    intro f n M hf hn hg hp he
    obtain ⟨n, rfl⟩ : ∃ j, n = j + 1 := ⟨n - 1, by omega⟩
    have v1 : ard M 114 (nI c.length) = some (nI f) := by rw [ard_nI (by show _ < 16; omega), he]
    have c1 : (nI L ≤ nI f) = False := by rw [nI_leI (by omega) (by omega)]; simp; omega
    have bs := busy_M hF ha hg hk (fun x h => by have := hx x h; omega) (show f < 100 by omega) hp he
    show ∃ f', _ ∧ _ ∧ _ ∧ _ ∧ B_M_canMeet_45 F (nI L) (nI c.length) _ M = _
    unfold B_M_canMeet_45
    simp only [v1, ob_some, c1, ↓reduceIte, bs, i01, awr_nI (M := M) (a := 114) (k := c.length) (by show _ < 16; omega), nI_1]
    by_cases q : okc a c f = true
    · refine ⟨f, Nat.le_refl _, by omega, fun _ => q, fun r h1 h2 => absurd h1 (by omega), ?_⟩
      rw [if_pos q]
      congr 1
      funext x y
      simp only [up_eqn]
      by_cases e : x = 114 ∧ y = c.length
      · rw [if_pos e, e.1, e.2, he]
      · rw [if_neg e]
    · obtain ⟨f', h1, h2, h3, h4, h5⟩ := ih (f + 1) n (up M 114 c.length (nI (f + 1))) (by omega) (by omega) (GMa_of hg (fun b hb => up_cell hb)) (fun k hk => by rw [up_ne (by omega)]; exact hp k hk) (up_same ..)
      refine ⟨f', by omega, h2, h3, fun r r1 r2 => ?_, ?_⟩
      · by_cases e : r = f
        · rw [e]; simpa using q
        · exact h4 r (by omega) r2
      · rw [if_neg q, h5]
        congr 1
        funext x y
        simp only [up_eqn]
        by_cases e : x = 114 ∧ y = c.length
        · rw [if_pos e, if_pos e]
        · rw [if_neg e, if_neg e, if_neg e]
def kdR (L : Nat) (a : Nat → Nat → Nat) (S : Nat) (c : List Nat) (r : Nat) : Bool := okc a c r && ext L a (S - (c.length + 1)) (r :: c)
def rst (L : Nat) (a : Nat → Nat → Nat) (S : Nat) : List Nat → Nat → Bool
  | [], f => anyN (kdR L a S []) (L - f) f
  | x :: c, f => anyN (kdR L a S (x :: c)) (L - f) f || rst L a S c (x + 1)
theorem rst_step {L S f : Nat} {a : Nat → Nat → Nat} {c : List Nat} (h : f < L) : rst L a S c f = (kdR L a S c f || rst L a S c (f + 1)) := by
  cases c with
  | nil => exact anyN_step h
  | cons x c =>
    show (anyN _ _ _ || _) = (_ || (anyN _ _ _ || _))
    rw [anyN_step h, Bool.or_assoc]
theorem rst_skip {L S : Nat} {a : Nat → Nat → Nat} {c : List Nat} : ∀ (j f f' : Nat), f + j = f' → f' ≤ L → (∀ r, f ≤ r → r < f' → okc a c r = false) → rst L a S c f = rst L a S c f' := by
  intro j
  induction j with
  | zero => intro f f' h _ _; rw [show f = f' by omega]
  | succ j ih =>
    intro f f' h hl hno
    rw [rst_step (by omega)]
    unfold kdR
    rw [hno f (by omega) (by omega), Bool.false_and, Bool.false_or]
    exact ih (f + 1) f' (by omega) hl (fun r h1 h2 => hno r (by omega) h2)
theorem rst_push {L S f : Nat} {a : Nat → Nat → Nat} {c : List Nat} (h : f < L) (ho : okc a c f = true) (hl : c.length + 1 < S) : rst L a S c f = rst L a S (f :: c) 0 := by
  rw [rst_step h]
  show _ = (anyN (kdR L a S (f :: c)) (L - 0) 0 || rst L a S c (f + 1))
  congr 1
  have e1 : kdR L a S c f = (okc a c f && ext L a (S - (c.length + 1)) (f :: c)) := rfl
  rw [e1, ho, Bool.true_and, show S - (c.length + 1) = (S - (c.length + 2)) + 1 by omega]
  rfl
def rrT : List Nat → Nat
  | [] => 0
  | x :: c => (17 - (x + 1)) * 20 ^ (16 - c.length) + rrT c
def rrN (c : List Nat) (f : Nat) : Nat := (17 - f) * 20 ^ (16 - c.length) + rrT c
theorem rr_pop {x f : Nat} {c : List Nat} (h : f ≤ 15) : rrN c (x + 1) < rrN (x :: c) f := by
  show _ < (17 - f) * 20 ^ (16 - (x :: c).length) + rrN c (x + 1)
  have : 0 < (17 - f) * 20 ^ (16 - (x :: c).length) := Nat.mul_pos (by omega) (Nat.pow_pos (by omega))
  omega
theorem rr_push {f i : Nat} {c : List Nat} (h : f ≤ i) (hi : i ≤ 15) (hl : c.length ≤ 15) : rrN (i :: c) 0 < rrN c f := by
  show (17 - 0) * 20 ^ (16 - (i :: c).length) + rrN c (i + 1) < _
  have e : (17 - (i + 1) + 1) * 20 ^ (16 - c.length) ≤ (17 - f) * 20 ^ (16 - c.length) := Nat.mul_le_mul_right _ (by omega)
  rw [Nat.add_mul, Nat.one_mul] at e
  have h2 : 20 ^ (16 - c.length) = 20 * 20 ^ (16 - (i :: c).length) := by
    rw [List.length_cons, show 16 - c.length = (16 - (c.length + 1)) + 1 by omega, Nat.pow_succ, Nat.mul_comm]
  have h3 : 0 < 20 ^ (16 - (i :: c).length) := Nat.pow_pos (by omega)
  unfold rrN
  omega
def MSr (a : Nat → Nat → Nat) (S : Nat) (M : Mem) (c : List Nat) (f : Nat) : Prop := GMa a S M ∧ PXc 114 M c ∧ M 114 c.length = nI f - 1 ∧ ∀ j, c.length < j → j < 16 → M 114 j = -1
theorem canL_M {F L S : Nat} (hF : FB ≤ F) (hL : L ≤ 15) {a : Nat → Nat → Nat} (ha : GA a S) : ∀ (w n f : Nat) (c : List Nat) (M : Mem), rrN c f ≤ w → w + 1 < n → f ≤ L → c.length < S → (∀ x, x ∈ c → x < L) → MSr a S M c f → ∃ N, L_M_canMeet_23 F (nI L) n M (nI c.length) = some (if rst L a S c f = true then nI S else -1, N) ∧ ∀ b, b ≠ 114 → N b = M b := by
  have hF' := FBL hF
  have hS := ha.1
  intro w
  induction w with
  | zero =>
    intro n f c M h1 _ hf
    have : 0 < rrN c f := by
      unfold rrN
      have : 0 < (17 - f) * 20 ^ (16 - c.length) := Nat.mul_pos (by omega) (Nat.pow_pos (by omega))
      omega
    omega
  | succ w ih =>
    intro n f c M h1 hn hf hk hx hs
    obtain ⟨n, rfl⟩ : ∃ j, n = j + 2 := ⟨n - 2, by omega⟩
    obtain ⟨hg, hp, he, hrest⟩ := hs
    have c0 : (nI c.length < (0 : Int32)) = False := eq_false (nI_nlt0 (by omega))
    have c1 : (nI S ≤ nI c.length) = False := by rw [nI_leI (by omega) (by omega)]; simp; omega
    have ef : nI f - 1 + 1 = nI f := by grind
    have gU : GMa a S (up M 114 c.length (nI f)) := GMa_of hg (fun b hb => up_cell hb)
    obtain ⟨f', h2, h3, h4, h5, h6⟩ := step_M hF hL ha hk hx (L - f) f F (up M 114 c.length (nI f)) (by omega) (by omega) gU (fun k hk => by rw [up_ne (by omega)]; exact hp k hk) (up_same ..)
    have hr := rst_skip (S := S) (c := c) (f' - f) f f' (by omega) h3 h5
    generalize hW : up (up M 114 c.length (nI f)) 114 c.length (nI f') = W at h6
    have wf : ∀ b, b ≠ 114 → W b = M b := fun b hb => by rw [← hW, up_cell hb, up_cell hb]
    have wk : W 114 c.length = nI f' := by rw [← hW, up_same]
    have wo : ∀ j, j ≠ c.length → W 114 j = M 114 j := fun j hj => by rw [← hW, up_ne (by omega), up_ne (by omega)]
    have gW : GMa a S W := GMa_of hg wf
    show ∃ N, B_M_canMeet_23 F (nI L) (L_M_canMeet_23 F (nI L) (n + 1)) M (nI c.length) = _ ∧ _
    unfold B_M_canMeet_23
    have c2 : (nI L ≤ nI f') = (L ≤ f') := by rw [nI_leI (by omega) (by omega)]
    simp only [c0, hg.1, c1, ↓reduceIte, ard_nI (M := M) (a := 114) (k := c.length) (by show _ < 16; omega), he, ob_some, ef, awr_nI (M := M) (a := 114) (k := c.length) (by show _ < 16; omega), h6, ard_nI (M := W) (a := 114) (k := c.length) (by show _ < 16; omega), wk, c2, nI_1, awr_nI (M := W) (a := 114) (k := c.length) (by show _ < 16; omega)]
    by_cases q : L ≤ f'
    · rw [if_pos q]
      cases c with
      | nil =>
        have hf0 : rst L a S [] f = false := by rw [hr]; exact anyN_end q
        refine ⟨up W 114 0 (-1), ?_, fun b hb => by rw [up_cell hb, wf b hb]⟩
        rw [hf0]
        show B_M_canMeet_23 F (nI L) _ _ (nI 0 + -1) = _
        unfold B_M_canMeet_23
        have : ((nI 0 + -1 : Int32) < 0) = True := by decide
        simp only [this, ↓reduceIte]
        rfl
      | cons x c =>
        rw [List.length_cons] at *
        have hx0 := hx x (List.mem_cons_self ..)
        have ek : nI (c.length + 1) + -1 = nI c.length := by rw [← nI_1]; grind
        have gV : GMa a S (up W 114 (c.length + 1) (-1)) := GMa_of gW (fun b hb => up_cell hb)
        have hpx : M 114 c.length = nI x := by rw [hp c.length (by rw [List.length_cons]; omega), el_top]
        obtain ⟨N, n1, n2⟩ := ih (n + 1) (x + 1) c (up W 114 (c.length + 1) (-1)) (by have := rr_pop (x := x) (c := c) (show f ≤ 15 by omega); omega) (by omega) (by omega) (by omega) (fun y hy => hx y (List.mem_cons_of_mem _ hy)) ⟨gV, fun k hk => by
            rw [up_ne (by omega), wo k (by omega)]
            exact (PXc_low hp) k hk, by rw [up_ne (by omega), wo _ (by omega), hpx, nI_pred], fun j j1 j2 => by
            by_cases e : j = c.length + 1
            · rw [e, up_same]
            · rw [up_ne (by omega), wo j (by omega)]
              exact hrest j (by omega) j2⟩
        refine ⟨N, ?_, fun b hb => by rw [n2 b hb, up_cell hb, wf b hb]⟩
        rw [ek, n1, hr]
        have : rst L a S (x :: c) f' = rst L a S c (x + 1) := by
          show (anyN _ _ _ || _) = _
          rw [anyN_end q, Bool.false_or]
        rw [this]
    · rw [if_neg q]
      have ho := h4 (by omega)
      by_cases qs : c.length + 1 < S
      · obtain ⟨N, n1, n2⟩ := ih (n + 1) 0 (f' :: c) W (by have := rr_push (c := c) h2 (show f' ≤ 15 by omega) (by omega); omega) (by omega) (by omega) (by rw [List.length_cons]; omega) (fun y hy => by
            rcases List.mem_cons.mp hy with rfl | hy
            · omega
            · exact hx y hy) ⟨gW, fun k hk => by
            rw [List.length_cons] at hk
            by_cases e : k = c.length
            · rw [e, wk, el_top]
            · rw [wo k e, el_low (by omega)]
              exact hp k (by omega), by
            rw [List.length_cons, wo _ (by omega), hrest _ (by omega) (by omega)]
            decide, fun j j1 j2 => by
            rw [List.length_cons] at j1
            rw [wo j (by omega)]
            exact hrest j (by omega) j2⟩
        refine ⟨N, ?_, fun b hb => by rw [n2 b hb, wf b hb]⟩
        rw [List.length_cons] at n1
        rw [n1, hr, rst_push (by omega) ho qs]
      · have hS1 : c.length + 1 = S := by omega
        have ht : rst L a S c f = true := by
          rw [hr, rst_step (by omega)]
          unfold kdR
          rw [ho, hS1, Nat.sub_self]
          simp [ext]
        refine ⟨W, ?_, wf⟩
        rw [ht]
        rw [hS1]
        show B_M_canMeet_23 F (nI L) _ W (nI S) = _
        unfold B_M_canMeet_23
        have d0 : (nI S < (0 : Int32)) = False := eq_false (nI_nlt0 (by omega))
        have d1 : (nI S ≤ nI S) = True := by rw [nI_leI (by omega) (by omega)]; simp
        simp only [d0, gW.1, d1, ↓reduceIte]
