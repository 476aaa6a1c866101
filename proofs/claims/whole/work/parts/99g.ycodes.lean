/-! answers counted, as the reference counts them -/
section YCODES
variable {F : Nat} {D : jD} {S : jTS}
def jaq (D : jD) (R : Nat → Nat) (r q : Nat) : Bool := !(jDq D).testBit r || (jpb D r (R r) && (!(jDq D).testBit q || q == r || jmt D r (R r) q (R q)))
def jyFc (a i : Nat) : Prop := jSpp a i ∨ a = 117
theorem jSpp_r {D : jD} {P : Nat → Bool} {R : Nat → Nat} {m m' : jMe} (h : jfx jSpp m m') (k : jyRw D P R m) : jyRw D P R m' := jyRw_fx h (fun i q => by unfold jSpp at q; omega) k
theorem y_isAnswer_l9 (hF : 1000 < F) (hDS : jDS D S) {r : Nat} (hr : r < 4) {R : Nat → Nat} : ∀ (t q f : Nat) (m : jMe), q + t = 4 → t < f → jRf D S m → jyRw D (fun x => (jDq D).testBit x) R m → ∃ m', c_X10_isAnswer_l9 F f m 101 (Int32.ofNat r) (Int32.ofNat q) = some (if (List.range' q t).all (jaq D R r) = true then .inr (m', 101, Int32.ofNat r) else .inl (0, m')) ∧ jfx jSpp m m' ∧ jRf D S m' := by
  have hD := hDS.1
  have hq16 := jDok_q hD
  intro t
  induction t with
  | zero =>
    intro q f m h1 h2 hR hw
    obtain ⟨f, rfl⟩ := jsucc h2
    refine ⟨m, ?_, jfx.rfl, hR⟩
    show c_X10_isAnswer_l9_b F _ m _ _ _ = _
    unfold c_X10_isAnswer_l9_b
    rw [if_pos (show (4 : Int32) ≤ Int32.ofNat q from ji_lep (a := 4) (by omega) (by omega) (by omega))]
    rfl
  | succ t ih =>
    intro q f m h1 h2 hR hw
    obtain ⟨f, rfl⟩ := jsucc h2
    have hL := hR.1
    rw [jall_s]
    show ∃ m', c_X10_isAnswer_l9_b F _ m _ _ _ = _ ∧ _
    unfold c_X10_isAnswer_l9_b
    rw [if_neg (show ¬ (4 : Int32) ≤ Int32.ofNat q from ji_len (a := 4) (by omega) (by omega) (by omega)), jgd_t hL.1, y_isIn hL hR.2.1 hq16 (by omega), jb_some, show Int32.ofNat q + 1 = Int32.ofNat (q + 1) from ji_add q 1]
    dsimp only
    have hne : ¬ jbi true = 0 := by decide
    cases e1 : (jDq D).testBit r with
    | false =>
      rw [if_pos (show jbi false = 0 from rfl)]
      obtain ⟨m', a1, a2, a3⟩ := ih (q + 1) f m (by omega) (by omega) hR hw
      refine ⟨m', ?_, a2, a3⟩
      rw [a1, show jaq D R r q = true by unfold jaq; rw [e1]; rfl, Bool.true_and]
    | true =>
      obtain ⟨w1, w2⟩ := hw r (by omega) e1
      rw [if_neg hne, jp_117 hL, jgd_t (jk_117 hL), jz_117 hL, jgd_t (ji_int (by omega) (by omega)), ji_n (by omega), w1]
      obtain ⟨m1, b1, b2, b3⟩ := y_isPassing (F := F) hF hDS hr w2 hR
      rw [b1, jb_some]
      dsimp only
      cases ep : jpb D r (R r) with
      | false =>
        rw [if_pos (show jbi false = 0 from rfl)]
        refine ⟨m1, ?_, b2, b3⟩
        rw [show jaq D R r q = false by unfold jaq; rw [e1, ep]; rfl, Bool.false_and, if_neg (by decide)]
      | true =>
        have hL1 := b3.1
        have hw1 := jSpp_r b2 hw
        rw [if_neg hne, jgd_t hL1.1, y_isIn hL1 b3.2.1 hq16 (by omega), jb_some, jp_117 hL1, jgd_t (jk_117 hL1), jz_117 hL1, jgd_t (ji_int (by omega) (by omega)), jgd_t (ji_int (by omega) (by omega)), ji_n (by omega)]
        obtain ⟨m', a1, a2, a3⟩ := ih (q + 1) f m1 (by omega) (by omega) b3 hw1
        rw [a1]
        cases e2 : (jDq D).testBit q with
        | false =>
          rw [if_pos (show jbi false = 0 from rfl)]
          refine ⟨m', ?_, b2.trans a2, a3⟩
          rw [show jaq D R r q = true by unfold jaq; rw [e1, ep, e2]; rfl, Bool.true_and]
        | true =>
          rw [if_neg hne]
          by_cases e : q = r
          · rw [if_pos (by rw [e])]
            refine ⟨m', ?_, b2.trans a2, a3⟩
            rw [show jaq D R r q = true by unfold jaq; rw [e1, ep, e2, e]; simp, Bool.true_and]
          · have e' : (q == r) = false := by simp [e]
            obtain ⟨v1, v2⟩ := hw1 q (by omega) e2
            rw [if_neg (ji_eqn (by omega) (by omega) e), (hw1 r (by omega) e1).1, v1, y_isMatching (by omega) hL1 b3.2.1 hr (by omega) (hD.2.2.1 r hr) (hD.2.2.1 q (by omega)) w2 v2, jb_some]
            cases em : jmt D r (R r) q (R q) with
            | false =>
              rw [if_pos (show jbi false = 0 from rfl)]
              refine ⟨m1, ?_, b2, b3⟩
              rw [show jaq D R r q = false by unfold jaq; rw [e1, ep, e2, e', em]; rfl, Bool.false_and, if_neg (by decide)]
            | true =>
              rw [if_neg hne]
              refine ⟨m', ?_, b2.trans a2, a3⟩
              rw [show jaq D R r q = true by unfold jaq; rw [e1, ep, e2, e', em]; rfl, Bool.true_and]
theorem y_isAnswer_l2 (hF : 1000 < F) (hDS : jDS D S) {R : Nat → Nat} : ∀ (t r f : Nat) (m : jMe), r + t = 4 → t < f → jRf D S m → jyRw D (fun x => (jDq D).testBit x) R m → ∃ m', c_X10_isAnswer_l2 F f m 101 (Int32.ofNat r) = some (if (List.range' r t).all (fun r => (List.range' 0 4).all (jaq D R r)) = true then .inr m' else .inl (0, m')) ∧ jfx jSpp m m' ∧ jRf D S m' := by
  intro t
  induction t with
  | zero =>
    intro r f m h1 h2 hR hw
    obtain ⟨f, rfl⟩ := jsucc h2
    refine ⟨m, ?_, jfx.rfl, hR⟩
    show c_X10_isAnswer_l2_b F _ m _ _ = _
    unfold c_X10_isAnswer_l2_b
    rw [if_pos (show (4 : Int32) ≤ Int32.ofNat r from ji_lep (a := 4) (by omega) (by omega) (by omega))]
    rfl
  | succ t ih =>
    intro r f m h1 h2 hR hw
    obtain ⟨f, rfl⟩ := jsucc h2
    rw [jall_s]
    show ∃ m', c_X10_isAnswer_l2_b F _ m _ _ = _ ∧ _
    unfold c_X10_isAnswer_l2_b
    obtain ⟨m1, a1, a2, a3⟩ := y_isAnswer_l9 (F := F) hF hDS (r := r) (by omega) 4 0 F m (by omega) (by omega) hR hw
    have a1 : c_X10_isAnswer_l9 F F m 101 (Int32.ofNat r) (0 : Int32) = _ := a1
    rw [if_neg (show ¬ (4 : Int32) ≤ Int32.ofNat r from ji_len (a := 4) (by omega) (by omega) (by omega)), a1]
    cases e : (List.range' 0 4).all (jaq D R r) with
    | false =>
      rw [if_neg (by decide), jb2_l]
      refine ⟨m1, ?_, a2, a3⟩
      rw [Bool.false_and, if_neg (by decide)]
    | true =>
      rw [if_pos rfl, jb2_r]
      dsimp only
      rw [show Int32.ofNat r + 1 = Int32.ofNat (r + 1) from ji_add r 1, Bool.true_and]
      obtain ⟨m', b1, b2, b3⟩ := ih (r + 1) f m1 (by omega) (by omega) a3 (jSpp_r a2 hw)
      exact ⟨m', b1, a2.trans b2, b3⟩
theorem jaq_all {R : Nat → Nat} : (List.range' 0 4).all (fun r => (List.range' 0 4).all (jaq D R r)) = jall4 (jok D R) := by
  have key : ∀ r, r < 4 → ∀ q, q < 4 → (jaq D R r q = true ↔ ((jDq D).testBit r = true → jpb D r (R r) = true ∧ ((jDq D).testBit q = true → q ≠ r → jmt D r (R r) q (R q) = true))) := by
    intro r _ q _
    unfold jaq
    cases (jDq D).testBit r <;> cases (jDq D).testBit q <;> cases jpb D r (R r) <;> by_cases e : q = r <;> simp [e]
  have kok : ∀ r, r < 4 → (jok D R r = true ↔ ((jDq D).testBit r = true → jpb D r (R r) = true ∧ ∀ q, q < 4 → (jDq D).testBit q = true → q < r → jmt D r (R r) q (R q) = true)) := by
    intro r _
    unfold jok jMq jPq
    cases e1 : (jDq D).testBit r with
    | false => simp
    | true =>
      rw [Bool.not_true, Bool.false_or, Bool.and_eq_true, List.all_eq_true]
      constructor
      · intro h _
        refine ⟨h.1, fun q hq q1 q2 => ?_⟩
        have := h.2 q (List.mem_range.mpr hq)
        rw [q1, decide_eq_true q2, Bool.and_true, Bool.not_true, Bool.false_or] at this
        rw [jmt_sym]
        exact this
      · intro h
        obtain ⟨g1, g2⟩ := h rfl
        refine ⟨g1, fun q hq => ?_⟩
        have hq := List.mem_range.mp hq
        cases e2 : (jDq D).testBit q with
        | false => rfl
        | true =>
          by_cases e3 : q < r
          · rw [decide_eq_true e3, ← jmt_sym, g2 q hq e2 e3]
            rfl
          · rw [decide_eq_false e3]
            rfl
  rw [Bool.eq_iff_iff]
  constructor
  · intro h
    have h : ∀ r, r < 4 → ∀ q, q < 4 → jaq D R r q = true := fun r hr q hq => by
      have h1 := List.all_eq_true.mp h r (List.mem_range'_1.mpr (by omega))
      exact List.all_eq_true.mp h1 q (List.mem_range'_1.mpr (by omega))
    have go : ∀ r, r < 4 → jok D R r = true := fun r hr => (kok r hr).mpr (fun e => ⟨((key r hr r hr).mp (h r hr r hr) e).1, fun q hq e2 e3 => ((key r hr q hq).mp (h r hr q hq) e).2 e2 (by omega)⟩)
    unfold jall4
    rw [go 0 (by omega), go 1 (by omega), go 2 (by omega), go 3 (by omega)]
    rfl
  · intro h
    have go : ∀ r, r < 4 → jok D R r = true := by
      unfold jall4 at h
      simp only [Bool.and_eq_true] at h
      intro r hr
      rcases (by omega : r = 0 ∨ r = 1 ∨ r = 2 ∨ r = 3) with rfl | rfl | rfl | rfl
      · exact h.1
      · exact h.2.1
      · exact h.2.2.1
      · exact h.2.2.2
    refine List.all_eq_true.mpr (fun r hr => List.all_eq_true.mpr (fun q hq => ?_))
    have hr := (List.mem_range'_1.mp hr).2
    have hq := (List.mem_range'_1.mp hq).2
    refine (key r (by omega) q (by omega)).mpr (fun e => ?_)
    have g := (kok r (by omega)).mp (go r (by omega)) e
    refine ⟨g.1, fun e2 e3 => ?_⟩
    by_cases e4 : q < r
    · exact g.2 q (by omega) e2 e4
    · rw [jmt_sym]
      exact ((kok q (by omega)).mp (go q (by omega)) e2).2 r (by omega) e (by omega)
theorem y_isAnswer (hF : 1000 < F) (hDS : jDS D S) {R : Nat → Nat} {m : jMe} (hR : jRf D S m) (hw : jyRw D (fun x => (jDq D).testBit x) R m) : ∃ m', c_X10_isAnswer F m 101 = some (jbi (jall4 (jok D R)), m') ∧ jfx jSpp m m' ∧ jRf D S m' := by
  obtain ⟨m', a1, a2, a3⟩ := y_isAnswer_l2 (F := F) hF hDS 4 0 F m (by omega) (by omega) hR hw
  have a1 : c_X10_isAnswer_l2 F F m 101 (0 : Int32) = _ := a1
  refine ⟨m', ?_, a2, a3⟩
  unfold c_X10_isAnswer
  rw [a1, jaq_all]
  cases jall4 (jok D R) <;> rfl
/-- a product from r on -/
def jprw (D : jD) (R : Nat → Nat) : Nat → Nat → Nat
  | 0, _ => 1
  | t + 1, r => jwq D R r * jprw D R t (r + 1)
theorem y_timesNow_l4 {m : jMe} (hR : jRf D S m) (hD : jDok D) {R : Nat → Nat} (hw : jyRw D (fun x => (jDq D).testBit x) R m) : ∀ (t r f p : Nat), r + t = 4 → t < f → c_X10_timesNow_l4 F m f 101 (Int64.ofNat p) (Int32.ofNat r) = some (Int64.ofNat (p * jprw D R t r)) := by
  have hL := hR.1
  have hq := jDok_q hD
  intro t
  induction t with
  | zero =>
    intro r f p h1 h2
    obtain ⟨f, rfl⟩ := jsucc h2
    show c_X10_timesNow_l4_b F _ m _ _ _ = _
    unfold c_X10_timesNow_l4_b jprw
    rw [if_pos (show (4 : Int32) ≤ Int32.ofNat r from ji_lep (a := 4) (by omega) (by omega) (by omega)), Nat.mul_one]
  | succ t ih =>
    intro r f p h1 h2
    obtain ⟨f, rfl⟩ := jsucc h2
    show c_X10_timesNow_l4_b F _ m _ _ _ = _
    unfold c_X10_timesNow_l4_b
    rw [jprw, if_neg (show ¬ (4 : Int32) ≤ Int32.ofNat r from ji_len (a := 4) (by omega) (by omega) (by omega)), jgd_t hL.1, y_isIn hL hR.2.1 hq (by omega), jb_some, show Int32.ofNat r + 1 = Int32.ofNat (r + 1) from ji_add r 1, jp_117 hL, jgd_t (jk_117 hL), jz_117 hL, jgd_t (ji_int (by omega) (by omega)), ji_n (by omega), show (1 : Int64) = Int64.ofNat 1 from rfl, jq_mul]
    dsimp only
    rw [ih (r + 1) f _ (by omega) (by omega)]
    unfold jwq
    by_cases e : (jDq D).testBit r = true
    · obtain ⟨w1, w2⟩ := hw r (by omega) e
      rw [e, if_neg (show ¬ jbi true = 0 by decide), w1, y_worthOf hL hR.2.1 (by omega) (hD.2.2.1 r (by omega)) w2, jb_some, jq_mul, ih (r + 1) f _ (by omega) (by omega), if_pos rfl, Nat.mul_assoc]
    · have e' : (jDq D).testBit r = false := by cases z : (jDq D).testBit r with | false => rfl | true => exact absurd z e
      rw [e', if_pos (show jbi false = 0 from rfl), if_neg (by decide), Nat.mul_one, Nat.one_mul]
theorem y_timesNow (hF : 100 < F) {m : jMe} (hR : jRf D S m) (hD : jDok D) {R : Nat → Nat} (hw : jyRw D (fun x => (jDq D).testBit x) R m) : c_X10_timesNow F m 101 = some (Int64.ofNat (jprw D R 4 0)) := by
  unfold c_X10_timesNow
  have h := y_timesNow_l4 (F := F) hR hD hw 4 0 F 1 (by omega) (by omega)
  have h : c_X10_timesNow_l4 F m F 101 (1 : Int64) (0 : Int32) = _ := h
  rw [h, jb_some, Nat.one_mul]
theorem jsh7 {n i : Nat} (hn : n < 4096) (hi : i < 4) : (jshr (Int32.ofNat n) ((3 : Int32) * Int32.ofNat i)) &&& (7 : Int32) = Int32.ofNat (jRc n i) := by
  have : ∀ a : Fin 64, ∀ b : Fin 64, ∀ i : Fin 4, (jshr (Int32.ofNat (a.1 * 64 + b.1)) ((3 : Int32) * Int32.ofNat i.1)) &&& (7 : Int32) = Int32.ofNat (jRc (a.1 * 64 + b.1) i.1) := by decide +kernel
  have := this ⟨n / 64, by omega⟩ ⟨n % 64, by omega⟩ ⟨i, hi⟩
  dsimp only at this
  rw [show n / 64 * 64 + n % 64 = n by omega] at this
  exact this
end YCODES
