/-! answers are counted, as they are thought of -/
/-- those of the query below r -/
def jPq (D : jD) (r : Nat) : Nat → Bool := fun x => (jDq D).testBit x && decide (x < r)
/-- a row passes, and matches those that stand below r -/
def jMq (D : jD) (R : Nat → Nat) (r k : Nat) : Bool := jpb D r k && ((List.range 4).all fun q => !jPq D r q || jmt D q (R q) r k)
/-- answers that go on from R, each as often as it counts, times what f tells of it -/
def jwk (D : jD) (f : (Nat → Nat) → Nat) : Nat → Nat → (Nat → Nat) → Nat
  | 0, _, R => f R
  | t + 1, r, R => if (jDq D).testBit r = true then jsum (jDz D r) (fun k => if jMq D R r k = true then jwth D r k * jwk D f t (r + 1) (fun y => if y = r then k else R y) else 0) else jwk D f t (r + 1) R
/-- COUNT; how often answers with a row count; with a value -/
def jct (D : jD) (f : (Nat → Nat) → Nat) : Nat := if jDq D = 0 then 0 else jwk D f 4 0 (fun _ => 0)
def jf1 : (Nat → Nat) → Nat := fun _ => 1
def jfr1 (i k : Nat) : (Nat → Nat) → Nat := fun R => if R i = k then 1 else 0
theorem jwk_c {D : jD} {f g : (Nat → Nat) → Nat} : ∀ (t r : Nat) (R : Nat → Nat), (∀ R, f R = g R) → jwk D f t r R = jwk D g t r R := by
  intro t
  induction t with
  | zero => intro r R h; exact h R
  | succ t ih =>
    intro r R h
    unfold jwk
    by_cases e : (jDq D).testBit r = true
    · rw [if_pos e, if_pos e]
      refine jsum_c (fun k hk => ?_)
      rw [ih _ _ h]
    · rw [if_neg e, if_neg e]
      exact ih _ _ h
theorem jwk_0 {D : jD} : ∀ (t r : Nat) (R : Nat → Nat), jwk D (fun _ => 0) t r R = 0 := by
  intro t
  induction t with
  | zero => intro r R; rfl
  | succ t ih =>
    intro r R
    unfold jwk
    by_cases e : (jDq D).testBit r = true
    · rw [if_pos e]
      refine jsum_z (fun k hk => ?_)
      rw [ih]
      split <;> simp
    · rw [if_neg e]
      exact ih _ _
theorem jwk_add {D : jD} {f g : (Nat → Nat) → Nat} : ∀ (t r : Nat) (R : Nat → Nat), jwk D (fun R => f R + g R) t r R = jwk D f t r R + jwk D g t r R := by
  intro t
  induction t with
  | zero => intro r R; rfl
  | succ t ih =>
    intro r R
    unfold jwk
    by_cases e : (jDq D).testBit r = true
    · rw [if_pos e, if_pos e, if_pos e, ← jsum_add]
      refine jsum_c (fun k hk => ?_)
      rw [ih]
      split
      · rw [Nat.mul_add]
      · rfl
    · rw [if_neg e, if_neg e, if_neg e]
      exact ih _ _
/-- what stands already is not changed -/
theorem jwk_fix {D : jD} {i k : Nat} : ∀ (t r : Nat) (R : Nat → Nat), i < r → jwk D (jfr1 i k) t r R = if R i = k then jwk D jf1 t r R else 0 := by
  intro t
  induction t with
  | zero => intro r R h; rfl
  | succ t ih =>
    intro r R h
    unfold jwk
    by_cases e : (jDq D).testBit r = true
    · rw [if_pos e, if_pos e]
      by_cases e2 : R i = k
      · rw [if_pos e2]
        refine jsum_c (fun x hx => ?_)
        rw [ih (r + 1) _ (by omega)]
        rw [if_neg (show ¬ i = r by omega), if_pos e2]
      · rw [if_neg e2]
        refine jsum_z (fun x hx => ?_)
        rw [ih (r + 1) _ (by omega)]
        rw [if_neg (show ¬ i = r by omega), if_neg e2]
        split <;> simp
    · rw [if_neg e, if_neg e]
      exact ih _ _ (by omega)
/-- of a word of values and its attributes -/
def jsw (D : jD) (P : Nat → Bool) (R : Nat → Nat) (st sp : Int32) : Prop := (∀ a, a < 8 → jnb sp a = if jSs D P a then 15 else 0) ∧ (∀ a r, a < 8 → r < 4 → P r = true → (jDa D r).testBit a = true → jnb st a = jDv D r (R r) a) ∧ (∀ a, a < 8 → jSs D P a = false → jnb st a = 0)
section WALK
variable {F b : Nat} {D : jD}
theorem jsw_seat {m : jMe} {r k : Nat} {P : Nat → Bool} {R : Nat → Nat} {st sp : Int32} (hI : jIn D b m) (hr : r < 4) (hk : k < jDz D r) (hP : P r = false) (hs : jsw D P R st sp) (hm : jmg D r k (jSs D P) (jnb st) = true) : jsw D (fun x => P x || x == r) (fun x => if x = r then k else R x) (st ||| jI m (jrv r) k) (sp ||| jI m (jrc r) 4) := by
  obtain ⟨i1, i2, i3, i4, i5, i6⟩ := hI
  have hC := i5 r hr
  obtain ⟨s1, s2, s3⟩ := hs
  have hSs : ∀ a, jSs D (fun x => P x || x == r) a = (jSs D P a || (jDa D r).testBit a) := by
    intro a
    rw [Bool.eq_iff_iff, jSs_iff, Bool.or_eq_true, jSs_iff]
    constructor
    · rintro ⟨x, h1, h2, h3⟩
      rcases Bool.or_eq_true .. ▸ h2 with h2 | h2
      · exact Or.inl ⟨x, h1, h2, h3⟩
      · have : x = r := by simpa using h2
        subst this
        exact Or.inr h3
    · rintro (⟨x, h1, h2, h3⟩ | h)
      · exact ⟨x, h1, by rw [h2]; rfl, h3⟩
      · exact ⟨r, hr, by simp, h⟩
  have hmm := jmg_iff.mp hm
  have hcell : ∀ a, a < 8 → jnb (st ||| jI m (jrv r) k) a = jnb st a ||| jDv D r k a := by
    intro a ha
    rw [jnb_or, (hC.2.2.2.2.2 k hk).1 a ha]
  have hv0 : ∀ a, (jDa D r).testBit a = false → jDv D r k a = 0 := ((i6 r hr).2.2.2.2 k hk).2.1
  refine ⟨fun a ha => ?_, fun a x ha hx hPx hax => ?_, fun a ha hsa => ?_⟩
  · rw [jnb_or15 (s1 a ha) (hC.2.2.1 a ha), hSs]
  · dsimp only at hPx ⊢
    rw [hcell a ha]
    by_cases ex : x = r
    · subst ex
      rw [if_pos rfl]
      by_cases q : jSs D P a = true
      · rw [← hmm a (jSL_eq (i6 x hx) hax) hax q, Nat.or_self]
      · have q : jSs D P a = false := by simpa using q
        rw [s3 a ha q, Nat.zero_or]
    · rw [if_neg ex]
      have hPx : P x = true := by
        rw [Bool.or_eq_true] at hPx
        rcases hPx with h | h
        · exact h
        · exact absurd (by simpa using h) ex
      have hsv := s2 a x ha hx hPx hax
      cases hra : (jDa D r).testBit a with
      | false => rw [hv0 a hra, Nat.or_zero, hsv]
      | true =>
        rw [hmm a (jSL_eq (i6 x hx) hax) hra (jSs_iff.mpr ⟨x, hx, hPx, hax⟩), Nat.or_self, hsv]
  · rw [hSs, Bool.or_eq_false_iff] at hsa
    rw [hcell a ha, s3 a ha hsa.1, hv0 a hsa.2, Nat.or_self]
theorem jMq_e {r : Nat} {R : Nat → Nat} {st sp : Int32} (hs : jsw D (jPq D r) R st sp) (y : Nat) : (jpb D r y && jmg D r y (jSs D (jPq D r)) (jnb st)) = jMq D R r y := by
  unfold jMq
  congr 1
  rw [Bool.eq_iff_iff, jmg_iff, List.all_eq_true]
  constructor
  · intro h q hq
    have hq4 := List.mem_range.mp hq
    cases hp : jPq D r q with
    | false => rfl
    | true =>
      rw [Bool.not_true, Bool.false_or]
      unfold jmt
      rw [jmg_iff]
      intro a ha h3 h4
      rw [← hs.2.1 a q (by omega) hq4 hp h4]
      exact h a ha h3 (jSs_iff.mpr ⟨q, hq4, hp, h4⟩)
  · intro h a ha h3 h4
    obtain ⟨q, q1, q2, q3⟩ := jSs_iff.mp h4
    have := h q (List.mem_range.mpr q1)
    rw [q2, Bool.not_true, Bool.false_or] at this
    unfold jmt at this
    rw [jmg_iff] at this
    rw [hs.2.1 a q (by omega) q1 q2 q3]
    exact this a ha h3 q3
end WALK
