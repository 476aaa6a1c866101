/-! answers counted by codes: as the walk counts them (pure) -/
section CODES
variable {D : jD}
/-- of a row of r that goes on: its worth, or 0 -/
def jTo (D : jD) (R : Nat → Nat) (r d : Nat) : Nat := if (jDq D).testBit r = true then (if (decide (d < jDz D r) && jMq D R r d) = true then jwth D r d else 0) else (if d = 0 then 1 else 0)
def jRr (R : Nat → Nat) (r d : Nat) : Nat → Nat := fun y => if y = r then d else R y
theorem jwk_8 {f : (Nat → Nat) → Nat} {t r : Nat} {R : Nat → Nat} (hz : jDz D r ≤ 8) (hR : R r = 0) : jwk D f (t + 1) r R = jsum 8 (fun d => jTo D R r d * jwk D f t (r + 1) (jRr R r d)) := by
  rw [jwk]
  unfold jTo
  by_cases e : (jDq D).testBit r = true
  · rw [if_pos e]
    rw [← jsum_cut hz]
    refine jsum_c (fun d _ => ?_)
    rw [if_pos e]
    by_cases h : d < jDz D r
    · rw [if_pos h, decide_eq_true h, Bool.true_and]
      by_cases h2 : jMq D R r d = true
      · rw [if_pos h2, if_pos h2]
        rfl
      · rw [if_neg h2, if_neg h2, Nat.zero_mul]
    · rw [if_neg h, decide_eq_false h, Bool.false_and, if_neg (by decide), Nat.zero_mul]
  · rw [if_neg e]
    have h0 : jRr R r 0 = R := by
      funext y
      unfold jRr
      by_cases q : y = r
      · rw [if_pos q, q, hR]
      · rw [if_neg q]
    have : ∀ d, d < 8 → (if (jDq D).testBit r = true then (if (decide (d < jDz D r) && jMq D R r d) = true then jwth D r d else 0) else (if d = 0 then 1 else 0)) * jwk D f t (r + 1) (jRr R r d) = if d = 0 then (fun d => jwk D f t (r + 1) (jRr R r d)) d else 0 := by
      intro d _
      rw [if_neg e]
      by_cases q : d = 0
      · rw [if_pos q, if_pos q, Nat.one_mul]
      · rw [if_neg q, if_neg q, Nat.zero_mul]
    rw [jsum_c this, jsum_at (k := 0) (f := fun d => jwk D f t (r + 1) (jRr R r d)) (by omega), h0]
/-- rows by digits -/
def jR4 (a b c d : Nat) : Nat → Nat := fun y => if y = 3 then d else if y = 2 then c else if y = 1 then b else if y = 0 then a else 0
theorem jMq_c {R R' : Nat → Nat} {r k : Nat} (h : ∀ q, q < r → R q = R' q) : jMq D R r k = jMq D R' r k := by
  unfold jMq
  congr 1
  rw [Bool.eq_iff_iff, List.all_eq_true, List.all_eq_true]
  constructor
  · intro g q hq
    have := g q hq
    unfold jPq at this ⊢
    by_cases e : q < r
    · rw [h q e] at this
      exact this
    · rw [decide_eq_false e, Bool.and_false]
      rfl
  · intro g q hq
    have := g q hq
    unfold jPq at this ⊢
    by_cases e : q < r
    · rw [h q e]
      exact this
    · rw [decide_eq_false e, Bool.and_false]
      rfl
theorem jTo_c {R R' : Nat → Nat} {r d : Nat} (h : ∀ q, q < r → R q = R' q) : jTo D R r d = jTo D R' r d := by
  unfold jTo
  rw [jMq_c h]
/-- what one code counts -/
def jcd (D : jD) (f : (Nat → Nat) → Nat) (R : Nat → Nat) : Nat := jTo D R 0 (R 0) * (jTo D R 1 (R 1) * (jTo D R 2 (R 2) * (jTo D R 3 (R 3) * f R)))
theorem jwk_codes {f : (Nat → Nat) → Nat} (hD : ∀ r, r < 4 → jDz D r ≤ 8) : jwk D f 4 0 (fun _ => 0) = jsum 8 (fun a => jsum 8 (fun b => jsum 8 (fun c => jsum 8 (fun d => jcd D f (jR4 a b c d))))) := by
  rw [jwk_8 (hD 0 (by omega)) rfl]
  refine jsum_c (fun a _ => ?_)
  rw [jwk_8 (hD 1 (by omega)) (by unfold jRr; rfl), ← jsum_mul]
  refine jsum_c (fun b _ => ?_)
  rw [jwk_8 (hD 2 (by omega)) (by unfold jRr; rfl), ← jsum_mul, ← jsum_mul]
  refine jsum_c (fun c _ => ?_)
  rw [jwk_8 (hD 3 (by omega)) (by unfold jRr; rfl), ← jsum_mul, ← jsum_mul, ← jsum_mul]
  refine jsum_c (fun d _ => ?_)
  have hR : jRr (jRr (jRr (jRr (fun _ => 0) 0 a) (0 + 1) b) (1 + 1) c) (2 + 1) d = jR4 a b c d := by
    funext y
    unfold jRr jR4
    by_cases e3 : y = 3
    · rw [if_pos e3]
    by_cases e2 : y = 2
    · rw [if_neg e3, if_pos e2]
    by_cases e1 : y = 1
    · rw [if_neg e3, if_neg e2, if_pos e1]
    rw [if_neg e3, if_neg e2, if_neg e1]
  unfold jcd
  rw [show (1 : Nat) + 1 = 2 from rfl, show (0 : Nat) + 1 = 1 from rfl, show (2 : Nat) + 1 = 3 from rfl] at *
  have h4 : jwk D f 0 (3 + 1) (jRr (jRr (jRr (jRr (fun _ => 0) 0 a) 1 b) 2 c) 3 d) = f (jR4 a b c d) := by
    rw [hR]
    rfl
  rw [h4]
  have g0 : jTo D (fun _ => 0) 0 a = jTo D (jR4 a b c d) 0 (jR4 a b c d 0) := jTo_c (fun q hq => by omega)
  have g1 : jTo D (jRr (fun _ => 0) 0 a) 1 b = jTo D (jR4 a b c d) 1 (jR4 a b c d 1) := jTo_c (fun q hq => by
    have : q = 0 := by omega
    subst this
    rfl)
  have g2 : jTo D (jRr (jRr (fun _ => 0) 0 a) 1 b) 2 c = jTo D (jR4 a b c d) 2 (jR4 a b c d 2) := jTo_c (fun q hq => by
    rcases (by omega : q = 0 ∨ q = 1) with rfl | rfl <;> rfl)
  have g3 : jTo D (jRr (jRr (jRr (fun _ => 0) 0 a) 1 b) 2 c) 3 d = jTo D (jR4 a b c d) 3 (jR4 a b c d 3) := jTo_c (fun q hq => by
    rcases (by omega : q = 0 ∨ q = 1 ∨ q = 2) with rfl | rfl | rfl <;> rfl)
  rw [g0, g1, g2, g3]
/-- codes: base 8, the first relation the lowest -/
theorem jsum_8 {f : Nat → Nat} : ∀ (n : Nat), jsum (n * 8) f = jsum n (fun q => jsum 8 (fun d => f (q * 8 + d))) := by
  intro n
  induction n with
  | zero => rfl
  | succ n ih =>
    rw [jsum_s, ← ih, show (n + 1) * 8 = n * 8 + 1 + 1 + 1 + 1 + 1 + 1 + 1 + 1 by omega]
    simp only [jsum_s]
    show _ = jsum (n * 8) f + (jsum 0 (fun d => f (n * 8 + d)) + f (n * 8 + 0) + f (n * 8 + 1) + f (n * 8 + 2) + f (n * 8 + 3) + f (n * 8 + 4) + f (n * 8 + 5) + f (n * 8 + 6) + f (n * 8 + 7))
    show _ = jsum (n * 8) f + (0 + f (n * 8 + 0) + f (n * 8 + 1) + f (n * 8 + 2) + f (n * 8 + 3) + f (n * 8 + 4) + f (n * 8 + 5) + f (n * 8 + 6) + f (n * 8 + 7))
    simp only [Nat.add_zero, Nat.zero_add, Nat.add_assoc]
def jRc (code : Nat) : Nat → Nat := jR4 (code % 8) (code / 8 % 8) (code / 64 % 8) (code / 512 % 8)
theorem jsum_codes (g : (Nat → Nat) → Nat) : jsum 4096 (fun code => g (jRc code)) = jsum 8 (fun a => jsum 8 (fun b => jsum 8 (fun c => jsum 8 (fun d => g (jR4 a b c d))))) := by
  have e1 : jsum 4096 (fun code => g (jRc code)) = jsum 8 (fun d => jsum 8 (fun c => jsum 8 (fun b => jsum 8 (fun a => g (jR4 a b c d))))) := by
    rw [show (4096 : Nat) = 512 * 8 from rfl, jsum_8, show (512 : Nat) = 64 * 8 from rfl, jsum_8, show (64 : Nat) = 8 * 8 from rfl, jsum_8]
    refine jsum_c (fun d hd => jsum_c (fun c hc => jsum_c (fun b hb => jsum_c (fun a ha => ?_))))
    unfold jRc
    have h1 : (((d * 8 + c) * 8 + b) * 8 + a) % 8 = a := by omega
    have h2 : (((d * 8 + c) * 8 + b) * 8 + a) / 8 % 8 = b := by omega
    have h3 : (((d * 8 + c) * 8 + b) * 8 + a) / 64 % 8 = c := by omega
    have h4 : (((d * 8 + c) * 8 + b) * 8 + a) / 512 % 8 = d := by omega
    rw [h1, h2, h3, h4]
  rw [e1]
  have s1 : ∀ d, jsum 8 (fun c => jsum 8 (fun b => jsum 8 (fun a => g (jR4 a b c d)))) = jsum 8 (fun a => jsum 8 (fun b => jsum 8 (fun c => g (jR4 a b c d)))) := by
    intro d
    have t1 : ∀ c, jsum 8 (fun b => jsum 8 (fun a => g (jR4 a b c d))) = jsum 8 (fun a => jsum 8 (fun b => g (jR4 a b c d))) := fun c => jsum_swap 8 8 _
    rw [jsum_c (fun c _ => t1 c), jsum_swap]
    exact jsum_c (fun a _ => jsum_swap 8 8 _)
  rw [jsum_c (fun d _ => s1 d), jsum_swap]
  refine jsum_c (fun a _ => ?_)
  rw [jsum_swap]
  refine jsum_c (fun b _ => ?_)
  rw [jsum_swap]
/-- COUNT, by codes -/
theorem jct_codes {f : (Nat → Nat) → Nat} (hD : ∀ r, r < 4 → jDz D r ≤ 8) (hq0 : jDq D ≠ 0) : jct D f = jsum 4096 (fun code => jcd D f (jRc code)) := by
  unfold jct
  rw [if_neg hq0, jwk_codes hD, jsum_codes (jcd D f)]
theorem jR4_lt {a b c d : Nat} (ha : a < 8) (hb : b < 8) (hc : c < 8) (hd : d < 8) (r : Nat) : jR4 a b c d r < 8 := by
  unfold jR4
  split
  · exact hd
  · split
    · exact hc
    · split
      · exact hb
      · split <;> omega
theorem jRc_lt (code r : Nat) : jRc code r < 8 := jR4_lt (Nat.mod_lt _ (by omega)) (Nat.mod_lt _ (by omega)) (Nat.mod_lt _ (by omega)) (Nat.mod_lt _ (by omega)) r
/-- whether a code is one of rows there are -/
def jvd (D : jD) (R : Nat → Nat) (r : Nat) : Bool := if (jDq D).testBit r = true then decide (R r < jDz D r) else decide (R r = 0)
/-- .. and these pass and match -/
def jok (D : jD) (R : Nat → Nat) (r : Nat) : Bool := !(jDq D).testBit r || jMq D R r (R r)
def jwq (D : jD) (R : Nat → Nat) (r : Nat) : Nat := if (jDq D).testBit r = true then jwth D r (R r) else 1
theorem jTo_e (R : Nat → Nat) (r : Nat) : jTo D R r (R r) = if (jvd D R r && jok D R r) = true then jwq D R r else 0 := by
  unfold jTo jvd jok jwq
  by_cases e : (jDq D).testBit r = true
  · rw [if_pos e, if_pos e, if_pos e, e]
    show _ = if (decide (R r < jDz D r) && (false || jMq D R r (R r))) = true then _ else _
    rw [Bool.false_or]
  · have e' : (jDq D).testBit r = false := by cases z : (jDq D).testBit r with | false => rfl | true => exact absurd z e
    rw [if_neg e, if_neg e, if_neg e, e']
    show _ = if (decide (R r = 0) && (true || jMq D R r (R r))) = true then _ else _
    rw [Bool.true_or, Bool.and_true]
    by_cases h : R r = 0
    · rw [if_pos h, decide_eq_true h, if_pos rfl]
    · rw [if_neg h, decide_eq_false h, if_neg (by decide)]
def jall4 (p : Nat → Bool) : Bool := p 0 && (p 1 && (p 2 && p 3))
theorem jcd_e {f : (Nat → Nat) → Nat} (R : Nat → Nat) : jcd D f R = if (jall4 (jvd D R) && jall4 (jok D R)) = true then jwq D R 0 * (jwq D R 1 * (jwq D R 2 * (jwq D R 3 * f R))) else 0 := by
  unfold jcd jall4
  rw [jTo_e, jTo_e, jTo_e, jTo_e]
  cases jvd D R 0 with
  | false => simp
  | true =>
    cases jvd D R 1 with
    | false => simp
    | true =>
      cases jvd D R 2 with
      | false => simp
      | true =>
        cases jvd D R 3 with
        | false => simp
        | true =>
          cases jok D R 0 with
          | false => simp
          | true =>
            cases jok D R 1 with
            | false => simp
            | true =>
              cases jok D R 2 with
              | false => simp
              | true => cases jok D R 3 <;> simp
end CODES
