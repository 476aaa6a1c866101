/-! answers by digits, as the class checks them -/
section XANS
variable {F b : Nat} {D : jD}
theorem jMx_e {P : Nat → Bool} {r : Nat} {m : jMe} {R : Nat → Nat} (hs : jsd D P R b m) (y : Nat) : jmg D r y (jSs D P) (jnb (jI m b 16)) = (List.range 4).all fun q => !P q || jmt D q (R q) r y := by
  rw [Bool.eq_iff_iff, jmg_iff, List.all_eq_true]
  constructor
  · intro h q hq
    have hq4 := List.mem_range.mp hq
    cases hp : P q with
    | false => rfl
    | true =>
      rw [Bool.not_true, Bool.false_or]
      unfold jmt
      rw [jmg_iff]
      intro a ha h3 h4
      rw [← hs.2.1 a q (by omega) hq4 hp h4]
      exact h a ha h3 (jSs_iff.mpr ⟨q, hq4, hp, h4⟩)
  · intro h a ha h3 h4
    obtain ⟨q, q1, q2, q3⟩ := jSs_iff.mp h4
    have := h q (List.mem_range.mpr q1)
    rw [q2, Bool.not_true, Bool.false_or] at this
    unfold jmt at this
    rw [jmg_iff] at this
    rw [hs.2.1 a q (by omega) q1 q2 q3]
    exact this a ha h3 q3
def jokc (D : jD) (R : Nat → Nat) (r : Nat) : Bool := jpb D r (R r) && ((List.range 4).all fun q => !((jDq D).testBit q && decide (r < q)) || jmt D q (R q) r (R r))
def jokd (D : jD) (R : Nat → Nat) : Nat → Bool
  | 0 => true
  | t + 1 => (!(jDq D).testBit t || jokc D R t) && jokd D R t
theorem jokd_iff {R : Nat → Nat} : ∀ {t : Nat}, jokd D R t = true ↔ ∀ r, r < t → (jDq D).testBit r = true → jokc D R r = true := by
  intro t
  induction t with
  | zero => exact ⟨fun _ r hr => absurd hr (Nat.not_lt_zero r), fun _ => rfl⟩
  | succ t ih =>
    rw [jokd, Bool.and_eq_true, ih]
    constructor
    · rintro ⟨h1, h2⟩ r hr hq
      by_cases e : r = t
      · subst e
        rw [hq] at h1
        simpa using h1
      · exact h2 r (by omega) hq
    · intro h
      refine ⟨?_, fun r hr hq => h r (by omega) hq⟩
      cases e : (jDq D).testBit t with
      | false => rfl
      | true => rw [h t (by omega) e]; rfl
theorem jall4_iff {p : Nat → Bool} : jall4 p = true ↔ ∀ r, r < 4 → p r = true := by
  constructor
  · intro h r hr
    exact jall4_i h hr
  · intro h
    unfold jall4
    rw [h 0 (by omega), h 1 (by omega), h 2 (by omega), h 3 (by omega)]
    rfl
theorem jokc_iff {R : Nat → Nat} {r : Nat} : jokc D R r = true ↔ jpb D r (R r) = true ∧ ∀ q, q < 4 → (jDq D).testBit q = true → r < q → jmt D q (R q) r (R r) = true := by
  unfold jokc
  rw [Bool.and_eq_true, List.all_eq_true]
  refine and_congr_right (fun _ => ?_)
  constructor
  · intro h q hq h1 h2
    have := h q (List.mem_range.mpr hq)
    rw [h1, decide_eq_true h2] at this
    simpa using this
  · intro h q hq
    have hq := List.mem_range.mp hq
    cases e : (jDq D).testBit q with
    | false => rfl
    | true =>
      by_cases e2 : r < q
      · rw [h q hq e e2, Bool.or_true]
      · rw [decide_eq_false e2]
        rfl
theorem jok_iff {R : Nat → Nat} {r : Nat} : jok D R r = true ↔ ((jDq D).testBit r = true → jpb D r (R r) = true ∧ ∀ q, q < 4 → (jDq D).testBit q = true → q < r → jmt D q (R q) r (R r) = true) := by
  unfold jok jMq jPq
  cases e0 : (jDq D).testBit r with
  | false => exact ⟨fun _ h => (by cases h), fun _ => rfl⟩
  | true =>
    rw [Bool.not_true, Bool.false_or, Bool.and_eq_true, List.all_eq_true]
    constructor
    · rintro ⟨h1, h2⟩ -
      refine ⟨h1, fun q hq h3 h4 => ?_⟩
      have := h2 q (List.mem_range.mpr hq)
      rw [h3, decide_eq_true h4] at this
      simpa using this
    · intro h
      obtain ⟨h1, h2⟩ := h rfl
      refine ⟨h1, fun q hq => ?_⟩
      have hq := List.mem_range.mp hq
      cases e : (jDq D).testBit q with
      | false => rfl
      | true =>
        by_cases e2 : q < r
        · rw [h2 q hq e e2, Bool.or_true]
        · rw [decide_eq_false e2]
          rfl
/-- rows that pass and match, told either way -/
theorem jokd_ok {R : Nat → Nat} : jokd D R 4 = jall4 (jok D R) := by
  rw [Bool.eq_iff_iff, jokd_iff, jall4_iff]
  constructor
  · intro h r hr
    rw [jok_iff]
    intro hq
    refine ⟨(jokc_iff.mp (h r hr hq)).1, fun q hq4 h1 h2 => ?_⟩
    rw [jmt_sym]
    exact (jokc_iff.mp (h q hq4 h1)).2 r hr hq h2
  · intro h r hr hq
    rw [jokc_iff]
    refine ⟨(jok_iff.mp (h r hr) hq).1, fun q hq4 h1 h2 => ?_⟩
    rw [jmt_sym]
    exact (jok_iff.mp (h q hq4) h1).2 r hr hq h2
theorem jfdg_keep : ∀ (t : Nat) (y : Int32) (R : Nat → Nat) (R' : Nat → Nat) (y' : Int32), jfdg D t y R = some (R', y') → ∀ x, t ≤ x → R' x = R x := by
  intro t
  induction t with
  | zero =>
    intro y R R' y' h x _
    cases h
    rfl
  | succ t ih =>
    intro y R R' y' h x hx
    rw [jfdg] at h
    by_cases e : (jDq D).testBit t = true
    · rw [if_pos e] at h
      by_cases e2 : jin (jrem y 10 - 1) (jDz D t) = true
      · rw [if_pos e2] at h
        rw [ih _ _ _ _ h x (by omega)]
        exact if_neg (by omega)
      · rw [if_neg e2] at h
        cases h
    · rw [if_neg e] at h
      exact ih _ _ _ _ h x (by omega)
/-- which rows' bits: a number that may be none -/
theorem xisIn_n {m : jMe} {s : Nat} {x : Int32} (hs : s < 256) (h : ∀ k, k < 2147483648 → x = Int32.ofNat k → s.testBit k = false) : c_X9_isIn F m (Int32.ofNat s) x = some 0 := by
  by_cases hx : x < 0
  · unfold c_X9_isIn
    rw [if_pos hx]
  · obtain ⟨k, rfl, hk⟩ := ji_nat hx
    by_cases h32 : k < 32
    · rw [q_isIn h32 (by omega), h k hk rfl]
      rfl
    · unfold c_X9_isIn
      rw [if_neg hx, if_pos (show (32 : Int32) ≤ Int32.ofNat k from ji_lep (a := 32) (by omega) hk (by omega))]
theorem q_isAnswer_l14 (hD : jDok D) (hq : jDq D < 16) : ∀ (t f : Nat) (y : Int32) (m : jMe) (R : Nat → Nat), t ≤ 4 → t < f → jIn D b m → jI m b 13 = Int32.ofNat (jDq D) → (∀ r, r < 4 → jI m (b + 11) r = Int32.ofNat (if (jDq D).testBit r = true then jpw D r else 0)) → jsd D (fun x => (jDq D).testBit x && decide (t ≤ x)) R b m → ∃ z m', c_X2_isAnswer_l14 F f m b y (Int32.ofNat t - 1) = some z ∧ jfr (jSle b) m m' ∧ jL m' = jL m ∧ (∀ j, j ≠ 16 → j ≠ 17 → jI m' b j = jI m b j) ∧ match jfdg D t y R with
    | none => z = .inl (0, m')
    | some (R', y') => if jokd D R' t = true then z = .inr (m', y') ∧ jsd D (fun x => (jDq D).testBit x) R' b m' else z = .inl (0, m') := by
  intro t
  induction t with
  | zero =>
    intro f y m R _ h2 hI h13 hp hs
    obtain ⟨f, rfl⟩ := jsucc h2
    refine ⟨.inr (m, y), m, ?_, jfr.rfl, rfl, fun _ _ _ => rfl, ?_⟩
    · show c_X2_isAnswer_l14_b F _ m _ _ _ = _
      unfold c_X2_isAnswer_l14_b
      rw [if_pos jdown0]
    · show if jokd D R 0 = true then _ else _
      rw [if_pos (show jokd D R 0 = true from rfl)]
      exact ⟨rfl, jsd_c (fun x _ => by rw [decide_eq_true (Nat.zero_le x), Bool.and_true]) hs⟩
  | succ t ih =>
    intro f y m R h4 h2 hI h13 hp hs
    obtain ⟨f, rfl⟩ := jsucc h2
    have hDr := hI.2.2.2.2.2 t (by omega)
    have hC := hI.2.2.2.2.1 t (by omega)
    have hz := hDr.2.2.1
    have hpa := hI.1.2.2.2.2.2.2.2.2.2.2.2.2.2.2.2.1
    obtain ⟨r1, r2⟩ := hI.2.2.1.2.2 t (by omega)
    have hst : ∀ u, (if jbi ((jDq D).testBit t) = 0 then c_X2_isAnswer_l14 F f m b y (Int32.ofNat t - 1) else jb (c_X9_isIn F m (Int32.ofNat (if (jDq D).testBit t = true then jpw D t else 0)) (jrem y 10 - 1)) fun t10 => (if t10 = 0 then some (.inl ((0 : Int32), m)) else jb (c_X4_matches F m (jrc t) (jrem y 10 - 1) (jI m b 16) (jI m b 17)) fun t16 => (if t16 = 0 then some (.inl ((0 : Int32), m)) else jb (c_X2_seat F m b (Int32.ofNat t) (jrem y 10 - 1)) fun t19 => c_X2_isAnswer_l14 F f t19 b (y / 10) (Int32.ofNat t - 1)))) = u → c_X2_isAnswer_l14 F (f + 1) m b y (Int32.ofNat (t + 1) - 1) = u := by
      intro u h
      rw [← h, jdown_s]
      show c_X2_isAnswer_l14_b F _ m _ _ _ = _
      unfold c_X2_isAnswer_l14_b
      rw [if_neg (ji_ge0 (by omega)), jgd_t hI.1.1, h13, q_isIn (by omega) (by omega), jb_some, hI.1.2.2.2.2.2.2.2.1, jgd_t hpa.1, hpa.2, jgd_t (ji_int (by omega) (by omega)), ji_n (by omega), hp t (by omega), jdown, hI.2.1, jgd_t hI.2.2.1.1, hI.2.2.1.2.1, jgd_t (ji_int (by omega) (by omega)), r1, jgd_t r2.1]
    rw [jfdg]
    cases e : (jDq D).testBit t with
    | false =>
      rw [if_neg (by decide)]
      obtain ⟨z, m', a1, a2, a3, a4, a5⟩ := ih f y m R (by omega) (by omega) hI h13 hp (jsd_c (fun x _ => by
        by_cases ex : x = t
        · rw [ex, e, Bool.false_and, Bool.false_and]
        · by_cases ex2 : t ≤ x
          · rw [decide_eq_true ex2, decide_eq_true (show t + 1 ≤ x by omega)]
          · rw [decide_eq_false ex2, decide_eq_false (show ¬ t + 1 ≤ x by omega)]) hs)
      refine ⟨z, m', hst _ (by rw [e, if_pos (by decide)]; exact a1), a2, a3, a4, ?_⟩
      cases ej : jfdg D t y R with
      | none => rw [ej] at a5; exact a5
      | some p =>
        obtain ⟨R', y'⟩ := p
        rw [ej] at a5
        dsimp only at a5 ⊢
        rw [jokd, e, Bool.not_false, Bool.true_or, Bool.true_and]
        exact a5
    | true =>
      rw [if_pos rfl]
      cases e2 : jin (jrem y 10 - 1) (jDz D t) with
      | false =>
        rw [if_neg (by decide)]
        have hno : c_X9_isIn F m (Int32.ofNat (jpw D t)) (jrem y 10 - 1) = some 0 := xisIn_n jpw_lt (fun k hk ek => by
          rw [jpw_bit hDr]
          cases q : jpb D t k with
          | false => rfl
          | true =>
            have := jpb_lt hDr q
            rw [ek, ji_int hk this] at e2
            cases e2)
        refine ⟨.inl (0, m), m, hst _ ?_, jfr.rfl, rfl, fun _ _ _ => rfl, rfl⟩
        rw [e, if_neg (by decide), if_pos rfl, hno, jb_some, if_pos rfl]
      | true =>
        obtain ⟨k, ek, hk2, hk⟩ := jin_nat e2
        rw [if_pos rfl, ek, ji_n hk2]
        -- what is known of the rest
        have hrest : ∀ R' y', jfdg D t (y / 10) (jRr R t k) = some (R', y') → jokc D R' t = (jpb D t k && (List.range 4).all fun q => !((jDq D).testBit q && decide (t + 1 ≤ q)) || jmt D q (R q) t k) := by
          intro R' y' h
          have hkeep := jfdg_keep t _ _ _ _ h
          have hkt : R' t = k := by rw [hkeep t (Nat.le_refl t)]; exact if_pos rfl
          have hf : (fun q => !((jDq D).testBit q && decide (t < q)) || jmt D q (R' q) t k) = fun q => !((jDq D).testBit q && decide (t + 1 ≤ q)) || jmt D q (R q) t k := by
            funext q
            by_cases eq : t < q
            · rw [decide_eq_true eq, decide_eq_true (show t + 1 ≤ q by omega), hkeep q (by omega), show jRr R t k q = R q from if_neg (by omega)]
            · rw [decide_eq_false eq, decide_eq_false (show ¬ t + 1 ≤ q by omega), Bool.and_false]
              rfl
          unfold jokc
          rw [hkt, hf]
        have hbad : (jpb D t k && (List.range 4).all fun q => !((jDq D).testBit q && decide (t + 1 ≤ q)) || jmt D q (R q) t k) = false → match jfdg D t (y / 10) (jRr R t k) with
            | none => (Sum.inl ((0 : Int32), m) : (Int32 × jMe) ⊕ (jMe × Int32)) = .inl (0, m)
            | some (R', y') => if jokd D R' (t + 1) = true then (Sum.inl ((0 : Int32), m) : (Int32 × jMe) ⊕ (jMe × Int32)) = .inr (m, y') ∧ jsd D (fun x => (jDq D).testBit x) R' b m else (Sum.inl ((0 : Int32), m) : (Int32 × jMe) ⊕ (jMe × Int32)) = .inl (0, m) := by
          intro hb
          cases ej : jfdg D t (y / 10) (jRr R t k) with
          | none => rfl
          | some p =>
            obtain ⟨R', y'⟩ := p
            dsimp only
            rw [jokd, e, hrest R' y' ej, hb, Bool.not_true, Bool.false_or, Bool.false_and, if_neg (by decide)]
        have hin : c_X9_isIn F m (Int32.ofNat (jpw D t)) (Int32.ofNat k) = some (jbi (jpb D t k)) := by
          rw [q_isIn (by omega) (Nat.lt_trans jpw_lt (by omega)), jpw_bit hDr]
        have hmat := q_matches (F := F) r2 hDr hC hk (g := jI m b 16) (gs := jI m b 17) (S := jSs D (fun x => (jDq D).testBit x && decide (t + 1 ≤ x))) hs.1
        have hmx := jMx_e (r := t) hs k
        cases e3 : jpb D t k with
        | false =>
          have hb := hbad (by rw [e3, Bool.false_and])
          refine ⟨.inl (0, m), m, hst _ ?_, jfr.rfl, rfl, fun _ _ _ => rfl, hb⟩
          rw [e, if_neg (by decide), if_pos rfl, ek, hin, jb_some, e3, if_pos (by decide)]
        | true =>
          cases e4 : jmg D t k (jSs D (fun x => (jDq D).testBit x && decide (t + 1 ≤ x))) (jnb (jI m b 16)) with
          | false =>
            rw [e4] at hmx
            have hb := hbad (by rw [e3, Bool.true_and]; exact hmx.symm)
            refine ⟨.inl (0, m), m, hst _ ?_, jfr.rfl, rfl, fun _ _ _ => rfl, hb⟩
            rw [e, if_neg (by decide), if_pos rfl, ek, hin, jb_some, e3, if_neg (by decide), hmat, jb_some, e4, if_pos (by decide)]
          | true =>
            rw [e4] at hmx
            obtain ⟨m1, b1, b2, b3, b4, b5⟩ := q_seat (F := F) hI (show t < 4 by omega) hk (P := fun x => (jDq D).testBit x && decide (t + 1 ≤ x)) (by show ((jDq D).testBit t && decide (t + 1 ≤ t)) = false; rw [decide_eq_false (by omega), Bool.and_false]) hs e4
            have hI1 : jIn D b m1 := jIn_fr (S := jSle b) (fun a q => by unfold jSle at q; omega) b2 hI
            have hs1 : jsd D (fun x => (jDq D).testBit x && decide (t ≤ x)) (jRr R t k) b m1 := jsd_c (fun x _ => by
              by_cases ex : x = t
              · rw [ex, e, decide_eq_true (Nat.le_refl t), beq_self_eq_true, Bool.or_true]
                rfl
              · rw [show (x == t) = false from beq_eq_false_iff_ne.mpr ex, Bool.or_false]
                by_cases ex2 : t ≤ x
                · rw [decide_eq_true ex2, decide_eq_true (show t + 1 ≤ x by omega)]
                · rw [decide_eq_false ex2, decide_eq_false (show ¬ t + 1 ≤ x by omega)]) b5
            obtain ⟨z, m', a1, a2, a3, a4, a5⟩ := ih f (y / 10) m1 (jRr R t k) (by omega) (by omega) hI1 (by rw [b4 13 (by omega) (by omega)]; exact h13) (fun r hr => by rw [b2.2.2.2.2.2.1 (b + 11) (by unfold jSle; omega)]; exact hp r hr) hs1
            refine ⟨z, m', hst _ ?_, b2.trans a2, by rw [a3, b3], fun j h1 h2 => by rw [a4 j h1 h2, b4 j h1 h2], ?_⟩
            · rw [e, if_neg (by decide), if_pos rfl, ek, hin, jb_some, e3, if_neg (by decide), hmat, jb_some, e4, if_neg (by decide), b1, jb_some]
              exact a1
            · cases ej : jfdg D t (y / 10) (jRr R t k) with
              | none => rw [ej] at a5; exact a5
              | some p =>
                obtain ⟨R', y'⟩ := p
                rw [ej] at a5
                dsimp only at a5 ⊢
                rw [jokd, e, hrest R' y' ej, e3, ← hmx, Bool.true_and, Bool.or_true, Bool.true_and]
                exact a5
end XANS
