/-! the class's reader: from one token to the next -/
theorem jsI_y {m : jMe} {a i : Nat} {x : Int32} : jI (jsI m a i x) a i = x := by rw [jsI_g, if_pos ⟨rfl, rfl⟩]
theorem jsI_no {m : jMe} {a i b j : Nat} {x : Int32} (h : ¬ (b = a ∧ j = i)) : jI (jsI m a i x) b j = jI m b j := by rw [jsI_g, if_neg h]
theorem jsL_y {m : jMe} {a i : Nat} {x : Int64} : jL (jsL m a i x) a i = x := by rw [jsL_g, if_pos ⟨rfl, rfl⟩]
theorem jsL_no {m : jMe} {a i b j : Nat} {x : Int64} (h : ¬ (b = a ∧ j = i)) : jL (jsL m a i x) b j = jL m b j := by rw [jsL_g, if_neg h]
theorem jzb_y {b : Nat → Nat} {n t i : Nat} (h : i < n ∧ (b i = 32 ∨ b i = 10)) : jzb b n (t + 1) i = jzb b n t (i + 1) := by
  rw [jzb, if_pos h]
theorem jzb_n {b : Nat → Nat} {n t i : Nat} (h : ¬ (i < n ∧ (b i = 32 ∨ b i = 10))) : jzb b n (t + 1) i = i := by
  rw [jzb, if_neg h]
theorem jze_y {lo hi : Nat} {b : Nat → Nat} {n t i : Nat} (h : i < n ∧ lo ≤ b i ∧ b i ≤ hi) : jze lo hi b n (t + 1) i = jze lo hi b n t (i + 1) := by
  rw [jze, if_pos h]
theorem jze_no {lo hi : Nat} {b : Nat → Nat} {n t i : Nat} (h : ¬ (i < n ∧ lo ≤ b i ∧ b i ≤ hi)) : jze lo hi b n (t + 1) i = i := by
  rw [jze, if_neg h]
def jzC (s : jS0) (m : jMe) : Prop := jI m 36 6 = Int32.ofNat s.1 ∧ jI m 36 5 = Int32.ofNat s.2.2.1 ∧ jI m 36 4 = Int32.ofNat s.2.2.2 ∧ (s.1 = 2 ∨ s.1 = 3 → jI m 36 7 = Int32.ofNat s.2.1) ∧ jI m 36 8 = -1
/-- the reader has stopped at a fault -/
def jzD (p : Nat) (m : jMe) : Prop := jI m 36 6 = 0 ∧ jI m 36 8 = Int32.ofNat p ∧ p ≤ 160
theorem ji_m1 {p : Nat} (h : p < 2147483648) : ¬ Int32.ofNat p = -1 := ji_ne1 h
section RTOK
variable {F : Nat} {b : Nat → Nat} {n : Nat}
theorem q_rfail {m : jMe} (hT : jzT m) {p : Nat} (hp : p ≤ 160) (h : (jI m 36 8 = -1 ∧ jI m 36 5 = Int32.ofNat p) ∨ jI m 36 8 = Int32.ofNat p) : ∃ m', c_X3_fail F m 36 = some m' ∧ jzFs m m' ∧ jzD p m' := by
  unfold c_X3_fail c_X3_fail_j16
  rw [jgd_t hT.1]
  rcases h with ⟨h1, h2⟩ | h
  · refine ⟨jsI (jsI m 36 8 (jI m 36 5)) 36 6 0, ?_, (jfx_I (S := fun a i => a = 36 ∧ 4 ≤ i) ⟨rfl, by omega⟩).trans (jfx_I ⟨rfl, by omega⟩), ?_, ?_, hp⟩
    · rw [if_pos h1, jK_sI, jgd_t hT.1]
    · rw [jsI_y]
    · rw [jsI_no (by omega), jsI_y, h2]
  · refine ⟨jsI m 36 6 0, ?_, jfx_I (S := fun a i => a = 36 ∧ 4 ≤ i) ⟨rfl, by omega⟩, ?_, ?_, hp⟩
    · rw [if_neg (by rw [h]; exact ji_m1 (by omega)), jgd_t hT.1]
    · rw [jsI_y]
    · rw [jsI_no (by omega), h]
theorem q_rstep_l0 : ∀ (t i f : Nat) (m : jMe), i + t = n → t < f → jzB b n m → jI m 36 4 = Int32.ofNat i → ∃ m', c_X3_step_l0 F f m 36 = some (m', 36) ∧ jfx (fun a j => a = 36 ∧ j = 4) m m' ∧ jI m' 36 4 = Int32.ofNat (jzb b n t i) := by
  intro t
  induction t with
  | zero =>
    intro i f m h1 h2 hB h4
    obtain ⟨f, rfl⟩ := jsucc h2
    refine ⟨m, ?_, jfx.rfl, h4⟩
    have := hB.2.2.1
    show c_X3_step_l0_b F _ m _ = _
    unfold c_X3_step_l0_b
    rw [jgd_t hB.1.1, hB.2.1, h4, if_pos (ji_lep (by omega) (by omega) (by omega))]
  | succ t ih =>
    intro i f m h1 h2 hB h4
    obtain ⟨f, rfl⟩ := jsucc h2
    obtain ⟨hT, hn, hn160, hb⟩ := hB
    have hbi := hb i (by omega)
    have hst : ∀ z, (if b i = 32 ∨ b i = 10 then c_X3_step_l0 F f (jsI m 36 4 (Int32.ofNat (i + 1))) 36 else some (m, 36)) = z → c_X3_step_l0 F (f + 1) m 36 = z := by
      intro z h
      rw [← h]
      show c_X3_step_l0_b F _ m _ = _
      unfold c_X3_step_l0_b c_X3_step_j39_l0
      have e1 : Int32.ofNat (b i) = (32 : Int32) ↔ b i = 32 := ji_eq (b := 32) (by omega) (by omega)
      have e2 : Int32.ofNat (b i) = (10 : Int32) ↔ b i = 10 := ji_eq (b := 10) (by omega) (by omega)
      rw [jgd_t hT.1, hn, h4, if_neg (ji_len (by omega) (by omega) (by omega)), hT.2.1, jgd_t hT.2.2.2.1, hT.2.2.2.2.1, jgd_t (ji_int (by omega) (by omega)), jgd_t (ji_int (by omega) (by omega)), ji_n (by omega), hbi.1, jgd_t hT.1, jl_1, ji_add]
      by_cases q1 : b i = 32
      · rw [if_pos (e1.mpr q1), if_pos (Or.inl q1)]
      · rw [if_neg (fun h => q1 (e1.mp h))]
        by_cases q2 : b i = 10
        · rw [if_pos (e2.mpr q2), if_pos (Or.inr q2)]
        · rw [if_neg (fun h => q2 (e2.mp h)), if_neg (by omega)]
    by_cases q : b i = 32 ∨ b i = 10
    · have hf : jfx (fun a j => a = 36 ∧ j = 4) m (jsI m 36 4 (Int32.ofNat (i + 1))) := jfx_I ⟨rfl, rfl⟩
      obtain ⟨m', a1, a2, a3⟩ := ih (i + 1) f _ (by omega) (by omega) (jzB_of (hf.weak (fun a j h => Or.inl ⟨h.1, by omega⟩)) ⟨hT, hn, hn160, hb⟩) (by rw [jsI_y])
      refine ⟨m', hst _ (by rw [if_pos q]; exact a1), hf.trans a2, ?_⟩
      rw [a3, jzb_y ⟨by omega, q⟩]
    · refine ⟨m, hst _ (if_neg q), jfx.rfl, ?_⟩
      rw [h4, jzb_n (fun h => q h.2)]
theorem q_rword_l0 : ∀ (t i f : Nat) (m : jMe), i + t = n → t < f → jzB b n m → jI m 36 4 = Int32.ofNat i → ∃ m', c_X3_stepWord_l0 F f m 36 = some (m', 36) ∧ jfx (fun a j => a = 36 ∧ j = 4) m m' ∧ jI m' 36 4 = Int32.ofNat (jze 97 122 b n t i) := by
  intro t
  induction t with
  | zero =>
    intro i f m h1 h2 hB h4
    obtain ⟨f, rfl⟩ := jsucc h2
    refine ⟨m, ?_, jfx.rfl, h4⟩
    have := hB.2.2.1
    show c_X3_stepWord_l0_b F _ m _ = _
    unfold c_X3_stepWord_l0_b
    rw [jgd_t hB.1.1, hB.2.1, h4, if_pos (ji_lep (by omega) (by omega) (by omega))]
  | succ t ih =>
    intro i f m h1 h2 hB h4
    obtain ⟨f, rfl⟩ := jsucc h2
    obtain ⟨hT, hn, hn160, hb⟩ := hB
    have hst : ∀ z, (if 97 ≤ b i ∧ b i ≤ 122 then c_X3_stepWord_l0 F f (jsI m 36 4 (Int32.ofNat (i + 1))) 36 else some (m, 36)) = z → c_X3_stepWord_l0 F (f + 1) m 36 = z := by
      intro z h
      rw [← h]
      show c_X3_stepWord_l0_b F _ m _ = _
      unfold c_X3_stepWord_l0_b
      rw [jgd_t hT.1, hn, h4, if_neg (ji_len (by omega) (by omega) (by omega)), q_risL ⟨hT, hn, hn160, hb⟩ (by omega), jb_some, jl_1, ji_add]
      by_cases q : 97 ≤ b i ∧ b i ≤ 122
      · rw [decide_eq_true ⟨by omega, q⟩, if_neg (by decide), if_pos q]
      · rw [decide_eq_false (fun h => q h.2), if_pos (by decide), if_neg q]
    by_cases q : 97 ≤ b i ∧ b i ≤ 122
    · have hf : jfx (fun a j => a = 36 ∧ j = 4) m (jsI m 36 4 (Int32.ofNat (i + 1))) := jfx_I ⟨rfl, rfl⟩
      obtain ⟨m', a1, a2, a3⟩ := ih (i + 1) f _ (by omega) (by omega) (jzB_of (hf.weak (fun a j h => Or.inl ⟨h.1, by omega⟩)) ⟨hT, hn, hn160, hb⟩) (by rw [jsI_y])
      refine ⟨m', hst _ (by rw [if_pos q]; exact a1), hf.trans a2, ?_⟩
      rw [a3, jze_y ⟨by omega, q⟩]
    · refine ⟨m, hst _ (if_neg q), jfx.rfl, ?_⟩
      rw [h4, jze_no (fun h => q h.2)]
theorem q_rnum_l10 : ∀ (t i v f : Nat) (m : jMe), i + t = n → t < f → jzB b n m → jI m 36 4 = Int32.ofNat i → jI m 36 7 = Int32.ofNat v → ∃ m', c_X3_stepNumber_l10 F f m 36 = some (m', 36) ∧ jfx (fun a j => a = 36 ∧ (j = 4 ∨ j = 7)) m m' ∧ jI m' 36 4 = Int32.ofNat (jze 48 57 b n t i) ∧ jI m' 36 7 = Int32.ofNat (jzv b (jze 48 57 b n t i - i) i v) := by
  intro t
  induction t with
  | zero =>
    intro i v f m h1 h2 hB h4 h7
    obtain ⟨f, rfl⟩ := jsucc h2
    refine ⟨m, ?_, jfx.rfl, h4, ?_⟩
    · have := hB.2.2.1
      show c_X3_stepNumber_l10_b F _ m _ = _
      unfold c_X3_stepNumber_l10_b
      rw [jgd_t hB.1.1, hB.2.1, h4, if_pos (ji_lep (by omega) (by omega) (by omega))]
    · show _ = Int32.ofNat (jzv b (i - i) i v)
      rw [Nat.sub_self]
      exact h7
  | succ t ih =>
    intro i v f m h1 h2 hB h4 h7
    obtain ⟨f, rfl⟩ := jsucc h2
    obtain ⟨hT, hn, hn160, hb⟩ := hB
    have hbi := hb i (by omega)
    have hst : ∀ z, (if 48 ≤ b i ∧ b i ≤ 57 then c_X3_stepNumber_l10 F f (jsI (jsI m 36 7 (Int32.ofNat (v * 10 + (b i - 48)))) 36 4 (Int32.ofNat (i + 1))) 36 else some (m, 36)) = z → c_X3_stepNumber_l10 F (f + 1) m 36 = z := by
      intro z h
      rw [← h]
      show c_X3_stepNumber_l10_b F _ m _ = _
      unfold c_X3_stepNumber_l10_b
      rw [jgd_t hT.1, jsI_no (by omega), hn, h4, if_neg (ji_len (by omega) (by omega) (by omega)), q_risD ⟨hT, hn, hn160, hb⟩ (by omega), jb_some, hT.2.1, jgd_t hT.2.2.2.1, hT.2.2.2.2.1, jgd_t (ji_int (by omega) (by omega)), ji_n (by omega), hbi.1, h7, jl_1, ji_add]
      by_cases q : 48 ≤ b i ∧ b i ≤ 57
      · rw [decide_eq_true ⟨by omega, q⟩, if_neg (by decide), if_pos q, show (48 : Int32) = Int32.ofNat 48 from rfl, ji_sub q.1, show (10 : Int32) = Int32.ofNat 10 from rfl, ji_mul, ji_add]
      · rw [decide_eq_false (fun h => q h.2), if_pos (by decide), if_neg q]
    by_cases q : 48 ≤ b i ∧ b i ≤ 57
    · have hf : jfx (fun a j => a = 36 ∧ (j = 4 ∨ j = 7)) m (jsI (jsI m 36 7 (Int32.ofNat (v * 10 + (b i - 48)))) 36 4 (Int32.ofNat (i + 1))) := (jfx_I (S := fun a j => a = 36 ∧ (j = 4 ∨ j = 7)) ⟨rfl, Or.inr rfl⟩).trans (jfx_I ⟨rfl, Or.inl rfl⟩)
      obtain ⟨m', a1, a2, a3, a4⟩ := ih (i + 1) (v * 10 + (b i - 48)) f _ (by omega) (by omega) (jzB_of (hf.weak (fun a j h => Or.inl ⟨h.1, by omega⟩)) ⟨hT, hn, hn160, hb⟩) (by rw [jsI_y]) (by rw [jsI_no (by omega), jsI_y])
      have e : jze 48 57 b n (t + 1) i = jze 48 57 b n t (i + 1) := jze_y ⟨by omega, q⟩
      have hle := jze_le (lo := 48) (hi := 57) (b := b) (n := n) t (i + 1) (by omega)
      refine ⟨m', hst _ (by rw [if_pos q]; exact a1), hf.trans a2, ?_, ?_⟩
      · rw [a3, e]
      · rw [a4, e, show jze 48 57 b n t (i + 1) - i = (jze 48 57 b n t (i + 1) - (i + 1)) + 1 by omega]
        rfl
    · have e : jze 48 57 b n (t + 1) i = i := jze_no (fun h => q h.2)
      refine ⟨m, hst _ (if_neg q), jfx.rfl, ?_, ?_⟩
      · rw [h4, e]
      · rw [e, Nat.sub_self]
        exact h7
def jzU (m' : jMe) (x : Nat ⊕ jS0) : Prop := match x with
  | .inl p => jzD p m'
  | .inr s => jzC s m'
theorem q_rstepWord (hF : 1000 < F) {m : jMe} {p : Nat} (hB : jzB b n m) (h4 : jI m 36 4 = Int32.ofNat p) (h5 : jI m 36 5 = Int32.ofNat p) (h8 : jI m 36 8 = -1) (hp : p < n) (hl : 97 ≤ b p ∧ b p ≤ 122) : ∃ m', c_X3_stepWord F m 36 = some m' ∧ jzFs m m' ∧ jzU m' (jztw b p (jze 97 122 b n (n - p) p)) := by
  have hn160 := hB.2.2.1
  obtain ⟨m1, a1, a2, a3⟩ := q_rword_l0 (F := F) (n - p) p F m (by omega) (by omega) hB h4
  have hlt := jze_lt (b := b) (n := n) (i := p) hp hl.1 hl.2
  have hle := (jze_le (lo := 97) (hi := 122) (b := b) (n := n) (n - p) p (by omega)).2
  generalize jze 97 122 b n (n - p) p = q at a3 hlt hle ⊢
  have f1 : jzFs m m1 := a2.weak (fun a j h => ⟨h.1, by omega⟩)
  have hB1 := jzB_of (jzFs_F f1) hB
  have h5' : jI m1 36 5 = Int32.ofNat p := by rw [a2.I (by omega)]; exact h5
  have h8' : jI m1 36 8 = -1 := by rw [a2.I (by omega)]; exact h8
  have hnm := q_rname hF hB1 h5' a3 hle hlt hl.1
  have hlt4 := jzn_lt (b := b) (p := p) (q := q) hl.1
  generalize hx7 : (if (jzn b p q).1 = 3 then Int32.ofNat (jzn b p q).2 else -1) = x7 at hnm
  have f2 : jzFs m1 (jsI m1 36 7 x7) := jfx_I ⟨rfl, by omega⟩
  have hB2 := jzB_of (jzFs_F f2) hB1
  have h52 : jI (jsI m1 36 7 x7) 36 5 = Int32.ofNat p := by rw [jsI_no (by omega)]; exact h5'
  have h42 : jI (jsI m1 36 7 x7) 36 4 = Int32.ofNat q := by rw [jsI_no (by omega)]; exact a3
  have hw := fun i hi => q_risWord (F := F) hF hB2 (i := i) hi h52 h42 hle (by omega)
  have hj : ∀ tk, tk < 8 → tk ≠ 0 → tk = (jzn b p q).1 → ∃ m', c_X3_stepWord_j111 F (jsI m1 36 7 x7) 36 (Int32.ofNat tk) 36 = some m' ∧ jzFs m m' ∧ jzU m' (jztw b p q) := by
    intro tk h1 h2 h3
    have f3 : jzFs (jsI m1 36 7 x7) (jsI (jsI m1 36 7 x7) 36 6 (Int32.ofNat tk)) := jfx_I ⟨rfl, by omega⟩
    refine ⟨jsI (jsI m1 36 7 x7) 36 6 (Int32.ofNat tk), ?_, (f1.trans f2).trans f3, ?_⟩
    · unfold c_X3_stepWord_j111
      rw [jK_sI, jgd_t hB1.1.1, jgd_t hB1.1.1, jsI_y, if_neg (show ¬ Int32.ofNat tk = 0 from ji_eqn (b := 0) (by omega) (by omega) h2)]
    · unfold jztw
      rw [if_neg (by omega)]
      refine ⟨?_, ?_, ?_, fun h => ?_, ?_⟩
      · show jI _ 36 6 = Int32.ofNat (jzn b p q).1
        rw [jsI_y, h3]
      · rw [jsI_no (by omega)]; exact h52
      · rw [jsI_no (by omega)]; exact h42
      · have h : (jzn b p q).1 = 2 ∨ (jzn b p q).1 = 3 := h
        show jI _ 36 7 = Int32.ofNat (jzn b p q).2
        rw [jsI_no (by omega), jsI_y, ← hx7, if_pos (by omega)]
      · rw [jsI_no (by omega), jsI_no (by omega)]; exact h8'
  unfold c_X3_stepWord c_X3_stepWord_j35
  rw [a1, jb_some]
  dsimp only
  rw [jgd_t hB1.1.1, hnm, jb_some, jsI_y]
  have hw6 : c_X3_isWord F (jsI m1 36 7 x7) 36 6 = some (jbi (jzw b p q [102, 105, 116, 115])) := hw 3 (by omega)
  have hw7 : c_X3_isWord F (jsI m1 36 7 x7) 36 7 = some (jbi (jzw b p q [111, 114])) := hw 4 (by omega)
  have hw8 : c_X3_isWord F (jsI m1 36 7 x7) 36 8 = some (jbi (jzw b p q [97, 110, 100])) := hw 5 (by omega)
  have hw9 : c_X3_isWord F (jsI m1 36 7 x7) 36 9 = some (jbi (jzw b p q [110, 111, 116])) := hw 6 (by omega)
  by_cases h3 : (jzn b p q).1 = 3
  · rw [if_pos h3] at hx7
    rw [← hx7, if_neg (ji_m1 (by omega)), hx7]
    exact hj 3 (by omega) (by omega) h3.symm
  · rw [if_neg h3] at hx7
    rw [if_pos hx7.symm, hw6, hw7, hw8, hw9, jb_some, jb_some, jb_some, jb_some]
    have hz : (jzn b p q).1 = if jzw b p q [102, 105, 116, 115] = true then 4 else if jzw b p q [111, 114] = true then 5 else if jzw b p q [97, 110, 100] = true then 6 else if jzw b p q [110, 111, 116] = true then 7 else 0 := by
      unfold jzn at h3 ⊢
      split at h3
      · exact absurd rfl h3
      · rename_i g0
        rw [if_neg g0]
        split at h3
        · exact absurd rfl h3
        · rename_i g1
          rw [if_neg g1]
          split at h3
          · exact absurd rfl h3
          · rename_i g2
            rw [if_neg g2]
            split at h3
            · exact absurd rfl h3
            · rename_i g3
              rw [if_neg g3]
              repeat' split
              all_goals rfl
    cases c4 : jzw b p q [102, 105, 116, 115] with
    | true =>
      rw [c4, if_pos rfl] at hz
      rw [if_neg (by decide)]
      exact hj 4 (by omega) (by omega) hz.symm
    | false =>
      rw [c4, if_neg (by decide)] at hz
      rw [if_pos (show jbi false = 0 from rfl)]
      cases c5 : jzw b p q [111, 114] with
      | true =>
        rw [c5, if_pos rfl] at hz
        rw [if_neg (by decide)]
        exact hj 5 (by omega) (by omega) hz.symm
      | false =>
        rw [c5, if_neg (by decide)] at hz
        rw [if_pos (show jbi false = 0 from rfl)]
        cases c6 : jzw b p q [97, 110, 100] with
        | true =>
          rw [c6, if_pos rfl] at hz
          rw [if_neg (by decide)]
          exact hj 6 (by omega) (by omega) hz.symm
        | false =>
          rw [c6, if_neg (by decide)] at hz
          rw [if_pos (show jbi false = 0 from rfl)]
          cases c7 : jzw b p q [110, 111, 116] with
          | true =>
            rw [c7, if_pos rfl] at hz
            rw [if_neg (by decide)]
            exact hj 7 (by omega) (by omega) hz.symm
          | false =>
            rw [c7, if_neg (by decide)] at hz
            rw [if_pos (show jbi false = 0 from rfl)]
            have f3 : jzFs (jsI m1 36 7 x7) (jsI (jsI m1 36 7 x7) 36 6 0) := jfx_I ⟨rfl, by omega⟩
            have hB3 := jzB_of (jzFs_F f3) hB2
            obtain ⟨m', y1, y2, y3⟩ := q_rfail (F := F) hB3.1 (p := p) (by omega) (Or.inl ⟨by rw [jsI_no (by omega), jsI_no (by omega)]; exact h8', by rw [jsI_no (by omega)]; exact h52⟩)
            refine ⟨m', ?_, ((f1.trans f2).trans f3).trans y2, ?_⟩
            · unfold c_X3_stepWord_j111
              rw [jK_sI, jgd_t hB1.1.1, jgd_t hB1.1.1, jsI_y, if_pos rfl, y1, jb_some]
            · unfold jztw
              rw [if_pos hz]
              exact y3
theorem q_rstep (hF : 1000 < F) {m : jMe} {i : Nat} (hB : jzB b n m) (h4 : jI m 36 4 = Int32.ofNat i) (hi : i ≤ n) (h8 : jI m 36 8 = -1) : ∃ m', c_X3_step F m 36 = some m' ∧ jzFs m m' ∧ jzU m' (jzs b n i) := by
  have hn160 := hB.2.2.1
  obtain ⟨m1, a1, a2, a3⟩ := q_rstep_l0 (F := F) (n - i) i F m (by omega) (by omega) hB h4
  have hle := jzb_le (b := b) (n := n) (n - i) i hi
  unfold jzs
  generalize jzb b n (n - i) i = p at a3 hle ⊢
  have f1 : jzFs m m1 := a2.weak (fun a j h => ⟨h.1, by omega⟩)
  have h8' : jI m1 36 8 = -1 := by rw [a2.I (by omega)]; exact h8
  have hB1 := jzB_of (jzFs_F f1) hB
  generalize hm2 : jsI m1 36 5 (jI m1 36 4) = m2
  have f2 : jzFs m1 m2 := by rw [← hm2]; exact jfx_I ⟨rfl, by omega⟩
  have hB2 := jzB_of (jzFs_F f2) hB1
  have h52 : jI m2 36 5 = Int32.ofNat p := by rw [← hm2, jsI_y]; exact a3
  have h42 : jI m2 36 4 = Int32.ofNat p := by rw [← hm2, jsI_no (by omega)]; exact a3
  have h82 : jI m2 36 8 = -1 := by rw [← hm2, jsI_no (by omega)]; exact h8'
  have hK2 : jK m1 = jK m2 := (f2.K).symm
  have hP2 : jP m1 = jP m2 := (f2.P).symm
  have hZ2 : jZ m1 = jZ m2 := (f2.Z).symm
  unfold c_X3_step c_X3_step_j52
  rw [a1, jb_some]
  dsimp only
  rw [hm2, hK2, hZ2, jgd_t hB2.1.1, h42, hB2.2.1]
  unfold jzt
  by_cases q0 : n ≤ p
  · rw [if_neg (ji_ltn (by omega) (by omega) (by omega)), if_pos q0]
    refine ⟨_, rfl, (f1.trans f2).trans (jfx_I ⟨rfl, by omega⟩), ?_⟩
    refine ⟨?_, ?_, ?_, fun h => ?_, ?_⟩
    · rw [jsI_y]; rfl
    · rw [jsI_no (by omega)]; exact h52
    · rw [jsI_no (by omega)]; exact h42
    · have h : (1 : Nat) = 2 ∨ (1 : Nat) = 3 := h
      omega
    · rw [jsI_no (by omega)]; exact h82
  · rw [if_pos (ji_ltp (by omega) (by omega) (by omega)), if_neg q0, q_risL hB2 (by omega), jb_some]
    by_cases q1 : 97 ≤ b p ∧ b p ≤ 122
    · rw [decide_eq_true ⟨by omega, q1⟩, if_neg (by decide), if_pos q1]
      obtain ⟨m', y1, y2, y3⟩ := q_rstepWord hF hB2 h42 h52 h82 (by omega) q1
      exact ⟨m', by rw [y1, jb_some], (f1.trans f2).trans y2, y3⟩
    · rw [decide_eq_false (fun h => q1 h.2), if_pos (show jbi false = 0 from rfl), if_neg q1, q_risD hB2 (by omega), jb_some]
      by_cases q2 : 48 ≤ b p ∧ b p ≤ 57
      · rw [decide_eq_true ⟨by omega, q2⟩, if_neg (by decide), if_pos q2]
        generalize hm3 : jsI (jsI m2 36 6 2) 36 7 0 = m3
        have f3 : jzFs m2 m3 := by rw [← hm3]; exact (jfx_I (S := fun a i => a = 36 ∧ 4 ≤ i) ⟨rfl, by omega⟩).trans (jfx_I ⟨rfl, by omega⟩)
        have hB3 := jzB_of (jzFs_F f3) hB2
        have g4 : jI m3 36 4 = Int32.ofNat p := by rw [← hm3, jsI_no (by omega), jsI_no (by omega)]; exact h42
        have g5 : jI m3 36 5 = Int32.ofNat p := by rw [← hm3, jsI_no (by omega), jsI_no (by omega)]; exact h52
        have g8 : jI m3 36 8 = -1 := by rw [← hm3, jsI_no (by omega), jsI_no (by omega)]; exact h82
        have g6 : jI m3 36 6 = 2 := by rw [← hm3, jsI_no (by omega), jsI_y]
        have g7 : jI m3 36 7 = Int32.ofNat 0 := by rw [← hm3, jsI_y]; rfl
        obtain ⟨m4, b1, b2, b3, b4⟩ := q_rnum_l10 (F := F) (n - p) p 0 F m3 (by omega) (by omega) hB3 g4 g7
        have hlt := jze_lt (b := b) (n := n) (i := p) (by omega) q2.1 q2.2
        have hle2 := (jze_le (lo := 48) (hi := 57) (b := b) (n := n) (n - p) p (by omega)).2
        generalize jze 48 57 b n (n - p) p = q at b3 b4 hlt hle2 ⊢
        have f4 : jzFs m3 m4 := b2.weak (fun a j h => ⟨h.1, by omega⟩)
        have hB4 := jzB_of (jzFs_F f4) hB3
        have k5 : jI m4 36 5 = Int32.ofNat p := by rw [b2.I (by omega)]; exact g5
        have k8 : jI m4 36 8 = -1 := by rw [b2.I (by omega)]; exact g8
        have k6 : jI m4 36 6 = 2 := by rw [b2.I (by omega)]; exact g6
        unfold c_X3_stepNumber c_X3_stepNumber_j69 jztn
        rw [jgd_t hB2.1.1, hm3, b1, jb_some]
        dsimp only
        rw [jgd_t hB4.1.1, b3, k5, ji_sub (by omega)]
        by_cases q3 : q - p ≤ 4
        · rw [if_pos (show Int32.ofNat (q - p) ≤ 4 from ji_lep (b := 4) (by omega) (by omega) q3), if_neg (by omega)]
          exact ⟨m4, by rw [jb_some], ((f1.trans f2).trans f3).trans f4, k6, k5, b3, fun _ => b4, k8⟩
        · rw [if_neg (show ¬ Int32.ofNat (q - p) ≤ 4 from ji_len (b := 4) (by omega) (by omega) q3), if_pos (by omega)]
          obtain ⟨m', y1, y2, y3⟩ := q_rfail (F := F) hB4.1 (p := p) (by omega) (Or.inl ⟨k8, k5⟩)
          exact ⟨m', by rw [y1, jb_some, jb_some], (((f1.trans f2).trans f3).trans f4).trans y2, y3⟩
      · rw [decide_eq_false (fun h => q2 h.2), if_pos (show jbi false = 0 from rfl), if_neg q2]
        have hbp := hB2.2.2.2 p (by omega)
        rw [show jP m2 36 0 = 37 from hB2.1.2.1, jgd_t hB2.1.2.2.2.1, hB2.1.2.2.2.2.1, jgd_t (ji_int (by omega) (by omega)), ji_n (by omega), hbp.1, jlet_m]
        generalize hm3 : jsI (jsI m2 36 6 (Int32.ofNat (b p))) 36 4 (jI (jsI m2 36 6 (Int32.ofNat (b p))) 36 4 + 1) = m3
        have f3 : jzFs m2 m3 := by rw [← hm3]; exact (jfx_I (S := fun a i => a = 36 ∧ 4 ≤ i) ⟨rfl, by omega⟩).trans (jfx_I ⟨rfl, by omega⟩)
        have hB3 := jzB_of (jzFs_F f3) hB2
        have g4 : jI m3 36 4 = Int32.ofNat (p + 1) := by rw [← hm3, jsI_y, jsI_no (by omega), h42, jl_1, ji_add]
        have g5 : jI m3 36 5 = Int32.ofNat p := by rw [← hm3, jsI_no (by omega), jsI_no (by omega)]; exact h52
        have g8 : jI m3 36 8 = -1 := by rw [← hm3, jsI_no (by omega), jsI_no (by omega)]; exact h82
        have g6 : jI m3 36 6 = Int32.ofNat (b p) := by rw [← hm3, jsI_no (by omega), jsI_y]
        rw [jgd_t hB3.1.1, g6, q_risSign hF hB3.1 hbp.2, jb_some]
        cases c : jzg (b p) with
        | true =>
          rw [if_neg (by decide), if_pos rfl]
          refine ⟨m3, rfl, (f1.trans f2).trans f3, g6, g5, g4, fun h => ?_, g8⟩
          have h : b p = 2 ∨ b p = 3 := h
          unfold jzg at c
          simp only [Bool.or_eq_true, decide_eq_true_eq] at c
          omega
        | false =>
          rw [if_pos (show jbi false = 0 from rfl), if_neg (by decide)]
          obtain ⟨m', y1, y2, y3⟩ := q_rfail (F := F) hB3.1 (p := p) (by omega) (Or.inl ⟨g8, g5⟩)
          exact ⟨m', by rw [y1, jb_some], ((f1.trans f2).trans f3).trans y2, y3⟩
end RTOK
