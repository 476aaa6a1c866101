/-! the walk, and the tally -/
theorem jsw_c {D : jD} {P P' : Nat → Bool} {R : Nat → Nat} {st sp : Int32} (h : ∀ x, x < 4 → P x = P' x) (k : jsw D P R st sp) : jsw D P' R st sp := by
  obtain ⟨k1, k2, k3⟩ := k
  exact ⟨fun a ha => by rw [← jSs_c h]; exact k1 a ha, fun a r ha hr hp => k2 a r ha hr (by rw [h r hr]; exact hp), fun a ha hs => k3 a ha (by rw [jSs_c h]; exact hs)⟩
section WALK3
variable {F b : Nat} {D : jD}
theorem jwk_at {t r x : Nat} {R : Nat → Nat} (hq : (jDq D).testBit r = true) : jwk D (jfr1 r x) (t + 1) r R = if x < jDz D r ∧ jMq D R r x = true then jwth D r x * jwk D jf1 t (r + 1) (fun y => if y = r then x else R y) else 0 := by
  rw [show jwk D (jfr1 r x) (t + 1) r R = if (jDq D).testBit r = true then jsum (jDz D r) (fun k => if jMq D R r k = true then jwth D r k * jwk D (jfr1 r x) t (r + 1) (fun y => if y = r then k else R y) else 0) else jwk D (jfr1 r x) t (r + 1) R from rfl, if_pos hq]
  have h1 : ∀ k, k < jDz D r → (if jMq D R r k = true then jwth D r k * jwk D (jfr1 r x) t (r + 1) (fun y => if y = r then k else R y) else 0) = if k = x then (if jMq D R r k = true then jwth D r k * jwk D jf1 t (r + 1) (fun y => if y = r then k else R y) else 0) else 0 := by
    intro k hk
    rw [jwk_fix t (r + 1) _ (by omega), if_pos rfl]
    by_cases e : k = x
    · rw [if_pos e, if_pos e]
    · rw [if_neg e, if_neg e, Nat.mul_zero]
      split <;> rfl
  rw [jsum_c h1]
  by_cases e : x < jDz D r
  · rw [jsum_at e]
    by_cases e2 : jMq D R r x = true
    · rw [if_pos e2, if_pos ⟨e, e2⟩]
    · rw [if_neg e2, if_neg (fun h => e2 h.2)]
  · rw [if_neg (fun h => e h.1)]
    exact jsum_z (fun i hi => if_neg (by omega))
theorem jsum_mul' (n c : Nat) (p : Nat → Bool) (f : Nat → Nat) : jsum n (fun i => if p i = true then c * f i else 0) = c * jsum n (fun i => if p i = true then f i else 0) := by
  rw [← jsum_mul]
  refine jsum_c (fun i hi => ?_)
  split
  · rfl
  · rw [Nat.mul_zero]
theorem jus_skip {t r o : Nat} {R : Nat → Nat} {u u' : Nat → Int64} (eq : (jDq D).testBit r = false) (h : jus D t (r + 1) o R u u') : jus D (t + 1) r o R u u' := by
  intro i k hi hk
  rw [h i k hi hk, show jwk D (jfr1 i k) (t + 1) r R = if (jDq D).testBit r = true then jsum (jDz D r) (fun x => if jMq D R r x = true then jwth D r x * jwk D (jfr1 i k) t (r + 1) (fun y => if y = r then x else R y) else 0) else jwk D (jfr1 i k) t (r + 1) R from rfl, eq, if_neg (show ¬ (false = true) by decide)]
  congr 2
  have hiff : (r + 1 ≤ i ∧ (jDq D).testBit i = true) ↔ (r ≤ i ∧ (jDq D).testBit i = true) := by
    constructor
    · rintro ⟨a1, a2⟩
      exact ⟨by omega, a2⟩
    · rintro ⟨a1, a2⟩
      refine ⟨?_, a2⟩
      rcases Nat.lt_or_ge r i with h | h
      · exact h
      · have : i = r := by omega
        rw [this, eq] at a2
        cases a2
  simp only [hiff]
theorem jPq_skip {r : Nat} (eq : (jDq D).testBit r = false) : ∀ x, x < 4 → jPq D r x = jPq D (r + 1) x := by
  intro x hx
  unfold jPq
  by_cases e : x = r
  · subst e
    rw [eq, Bool.false_and, Bool.false_and]
  · have : decide (x < r) = decide (x < r + 1) := by
      by_cases h : x < r
      · rw [decide_eq_true h, decide_eq_true (by omega)]
      · rw [decide_eq_false h, decide_eq_false (by omega)]
    rw [this]
/-- the first relation of the query from r on is looked for -/
theorem q_walk_l3 (hq16 : jDq D < 16) {o : Nat} {R : Nat → Nat} {st sp : Int32} {m : jMe} (hI : jIn D b m) (h13 : jI m b 13 = Int32.ofNat (jDq D)) {t0 : Nat} {G : Nat → jMe → Nat → Int32 → Int32 → Int32 → Int64 → Option (Int64 × jMe)} (hG : ∀ t r, t < t0 → r + (t + 1) = 4 → (jDq D).testBit r = true → jsw D (jPq D r) R st sp → ∃ m', G 1 m b (Int32.ofNat r) st sp (Int64.ofNat o) = some (Int64.ofNat (o * jwk D jf1 (t + 1) r R), m') ∧ jfr (· = b + 9) m m' ∧ jI m' = jI m ∧ jus D (t + 1) r o R (jL m (b + 9)) (jL m' (b + 9))) : ∀ (t r f : Nat), t ≤ t0 → r + t = 4 → t < f → jsw D (jPq D r) R st sp → ∃ m', jb2 (c_X2_walk_l3 F G f m b st sp (Int64.ofNat o) (Int32.ofNat r)) (fun q => some q) (fun e9 => some (e9.2, e9.1)) = some (Int64.ofNat (o * jwk D jf1 t r R), m') ∧ jfr (· = b + 9) m m' ∧ jI m' = jI m ∧ jus D t r o R (jL m (b + 9)) (jL m' (b + 9)) := by
  intro t
  induction t with
  | zero =>
    intro r f h0 h1 h2 hs
    obtain ⟨f, rfl⟩ := jsucc h2
    refine ⟨m, ?_, jfr.rfl, rfl, fun i k hi hk => ?_⟩
    · have e : c_X2_walk_l3 F G (f + 1) m b st sp (Int64.ofNat o) (Int32.ofNat r) = some (.inr (m, Int64.ofNat o)) := by
        show c_X2_walk_l3_b F G _ m b _ _ _ _ = _
        unfold c_X2_walk_l3_b
        rw [if_pos (show (4 : Int32) ≤ Int32.ofNat r from ji_lep (a := 4) (by omega) (by omega) (by omega))]
      rw [e, show jwk D jf1 0 r R = 1 from rfl, Nat.mul_one]
      rfl
    · rw [if_neg (by omega), jq_add0]
  | succ t ih =>
    intro r f h0 h1 h2 hs
    obtain ⟨f, rfl⟩ := jsucc h2
    have hr : r < 4 := by omega
    have hst : ∀ z, (if jbi ((jDq D).testBit r) = 0 then c_X2_walk_l3 F G f m b st sp (Int64.ofNat o) (Int32.ofNat (r + 1)) else jb (G 1 m b (Int32.ofNat r) st sp (Int64.ofNat o)) fun t7 => some (.inl (t7.1, t7.2))) = z → c_X2_walk_l3 F G (f + 1) m b st sp (Int64.ofNat o) (Int32.ofNat r) = z := by
      intro z h
      rw [← h]
      show c_X2_walk_l3_b F G _ m b _ _ _ _ = _
      unfold c_X2_walk_l3_b
      rw [if_neg (show ¬ (4 : Int32) ≤ Int32.ofNat r from ji_len (a := 4) (by omega) (by omega) (by omega)), jgd_t hI.1.1, h13, q_isIn (by omega) (by omega), jb_some, show Int32.ofNat r + 1 = Int32.ofNat (r + 1) from ji_add r 1]
    cases eq : (jDq D).testBit r with
    | false =>
      obtain ⟨m', y1, y2, y3, y4⟩ := ih (r + 1) f (by omega) (by omega) (by omega) (jsw_c (jPq_skip eq) hs)
      refine ⟨m', ?_, y2, y3, jus_skip eq y4⟩
      rw [hst _ rfl, eq, if_pos (show jbi false = 0 from rfl), y1, show jwk D jf1 (t + 1) r R = if (jDq D).testBit r = true then jsum (jDz D r) (fun x => if jMq D R r x = true then jwth D r x * jwk D jf1 t (r + 1) (fun y => if y = r then x else R y) else 0) else jwk D jf1 t (r + 1) R from rfl, eq, if_neg (show ¬ (false = true) by decide)]
    | true =>
      obtain ⟨m', y1, y2, y3, y4⟩ := hG t r (by omega) (by omega) eq hs
      refine ⟨m', ?_, y2, y3, y4⟩
      rw [hst _ rfl, eq, if_neg (show ¬ jbi true = 0 by decide), y1, jb_some]
      rfl
theorem q_walk (hF : 100 < F) (hq16 : jDq D < 16) : ∀ (t0 t r f : Nat) (m : jMe) (o : Nat) (R : Nat → Nat) (st sp : Int32), t ≤ t0 → r + t = 4 → 2 * t0 < f → jIn D b m → (∀ x, x < 4 → (jDq D).testBit x = true → jI m (b + 11) x = Int32.ofNat (jpw D x)) → jI m b 13 = Int32.ofNat (jDq D) → jsw D (jPq D r) R st sp → ∃ m', c_X2_walk_s F f 0 m b (Int32.ofNat r) st sp (Int64.ofNat o) = some (Int64.ofNat (o * jwk D jf1 t r R), m') ∧ jfr (· = b + 9) m m' ∧ jI m' = jI m ∧ jus D t r o R (jL m (b + 9)) (jL m' (b + 9)) := by
  intro t0
  induction t0 with
  | zero =>
    intro t r f m o R st sp h0 h1 h2 hI hp h13 hs
    obtain ⟨f, rfl⟩ := jsucc h2
    exact q_walk_l3 (F := F) (G := fun q m x0 x1 x2 x3 x4 => c_X2_walk_s F f q m x0 x1 x2 x3 x4) hq16 hI h13 (t0 := 0) (fun t r h => absurd h (Nat.not_lt_zero _)) t r F h0 h1 (by omega) hs
  | succ t0 ih =>
    intro t r f m o R st sp h0 h1 h2 hI hp h13 hs
    obtain ⟨f, rfl⟩ : ∃ g, f = g + 2 := ⟨f - 2, by omega⟩
    refine q_walk_l3 (F := F) (G := fun q m x0 x1 x2 x3 x4 => c_X2_walk_s F (f + 1) q m x0 x1 x2 x3 x4) hq16 hI h13 (t0 := t0 + 1) (fun t r h0 h1 eq hs => ?_) t r F h0 h1 (by omega) hs
    have hr : r < 4 := by omega
    have hP0 : jPq D r r = false := by
      unfold jPq
      rw [decide_eq_false (show ¬ r < r by omega), Bool.and_false]
    have hP : ∀ x, x < 4 → (jPq D r x || x == r) = jPq D (r + 1) x := by
      intro x hx
      unfold jPq
      by_cases e : x = r
      · subst e
        rw [eq, decide_eq_true (show x < x + 1 by omega)]
        simp
      · have : decide (x < r) = decide (x < r + 1) := by
          by_cases h : x < r
          · rw [decide_eq_true h, decide_eq_true (by omega)]
          · rw [decide_eq_false h, decide_eq_false (by omega)]
        rw [this]
        simp [e]
    have hw : ∀ φ, jwk D φ (t + 1) r R = if (jDq D).testBit r = true then jsum (jDz D r) (fun k => if jMq D R r k = true then jwth D r k * jwk D φ t (r + 1) (fun y => if y = r then k else R y) else 0) else jwk D φ t (r + 1) R := fun _ => rfl
    have hst : ∀ z, (jb (c_X2_walkRows_l14 F (fun q m x0 x1 x2 x3 x4 => c_X2_walk_s F f q m x0 x1 x2 x3 x4) F m b (Int32.ofNat r) st sp (Int64.ofNat o) (jrc r) (0 : Int64) (0 : Int32)) fun e30 => some (e30.2, e30.1)) = z → c_X2_walk_s F (f + 1) 1 m b (Int32.ofNat r) st sp (Int64.ofNat o) = z := by
      intro z h
      rw [← h]
      show c_X2_walkRows_b F _ m _ _ _ _ _ = _
      unfold c_X2_walkRows_b
      rw [jgd_t hI.1.1, hI.2.1, jgd_t hI.2.2.1.1, hI.2.2.1.2.1, jgd_t (ji_int (by omega) hr), ji_n (by omega), (hI.2.2.1.2.2 r hr).1]
    obtain ⟨m', y1, y2, y3, y4⟩ := q_walk_l14 (F := F) (t := t) hr eq hs (G := fun q m x0 x1 x2 x3 x4 => c_X2_walk_s F f q m x0 x1 x2 x3 x4) (fun m k hI hp h13 hk hM => by
      have hMe := jMq_e hs k
      rw [hM, Bool.and_eq_true] at hMe
      exact ih t (r + 1) f m (o * jwth D r k) (fun y => if y = r then k else R y) _ _ (by omega) (by omega) (by omega) hI hp h13 (jsw_c hP (jsw_seat hI hr hk hP0 hs hMe.2))) (jDz D r) 0 F m 0 (by omega) (by have := (hI.2.2.2.2.2 r hr).2.2.1; omega) hI hp h13
    have y1 : c_X2_walkRows_l14 F (fun q m x0 x1 x2 x3 x4 => c_X2_walk_s F f q m x0 x1 x2 x3 x4) F m b (Int32.ofNat r) st sp (Int64.ofNat o) (jrc r) (0 : Int64) (0 : Int32) = _ := y1
    simp only [Nat.zero_add] at y1 y4
    refine ⟨m', hst _ ?_, y2, y3, fun i k hi hk => ?_⟩
    · rw [y1, jb_some, hw, eq, if_pos rfl, ← jsum_mul' (jDz D r) o (fun k => jMq D R r k) (fun k => jwth D r k * jwk D jf1 t (r + 1) (fun y => if y = r then k else R y))]
    · rw [y4 i k hi hk]
      congr 2
      by_cases hA : r + 1 ≤ i ∧ (jDq D).testBit i = true
      · rw [if_pos hA, if_pos ⟨by omega, hA.2⟩, hw, eq, if_pos rfl]
        exact jsum_mul' (jDz D r) o (fun k => jMq D R r k) (fun j => jwth D r j * jwk D (jfr1 i k) t (r + 1) (fun y => if y = r then j else R y))
      · rw [if_neg hA]
        by_cases hB : i = r
        · subst hB
          rw [if_pos (show i ≤ i ∧ (jDq D).testBit i = true from ⟨Nat.le_refl _, eq⟩), jwk_at eq]
          by_cases e : k < jDz D i ∧ jMq D R i k = true
          · rw [if_pos e, if_pos ⟨rfl, Nat.zero_le _, e.1, e.2⟩]
          · rw [if_neg e, if_neg (fun h => e ⟨h.2.2.1, h.2.2.2⟩), Nat.mul_zero]
        · rw [if_neg (fun h => hB h.1), if_neg]
          rintro ⟨a1, a2⟩
          exact hA ⟨by omega, a2⟩
end WALK3
