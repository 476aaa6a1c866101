/-! a row less; what a row is used for -/
section LESS
variable {D : jD} {r k : Nat}
theorem jpb_w {x y : Nat} (h : jpb (jwD D r k) x y = true) : jpb D x y = true := by
  unfold jpb at h ⊢
  rw [Bool.and_eq_true] at h ⊢
  refine ⟨?_, h.2⟩
  have h1 := h.1
  rw [jUl_l] at h1
  by_cases e : x = r
  · rw [if_pos e] at h1
    unfold jli jclr at h1
    rw [if_neg (by decide), Nat.testBit_and, Bool.and_eq_true] at h1
    rw [e]
    exact h1.1
  · rw [if_neg e] at h1
    exact h1
theorem jWg_w : ∀ (f x y : Nat), jWg (jwD D r k) f x y ≤ jWg D f x y := by
  intro f
  induction f with
  | zero => intro x y; exact Nat.le_refl _
  | succ f ih =>
    intro x y
    rw [jWg, jWg]
    by_cases e : jpb (jwD D r k) x y = true
    · rw [if_pos e, if_pos (jpb_w e)]
      refine Nat.mul_le_mul (Nat.le_refl _) (jprd_le (fun c _ => ?_))
      show (if jkid D c x = true then _ else 1) ≤ _
      by_cases q : jkid D c x = true
      · rw [if_pos q, if_pos q]
        refine jsum_le (fun m _ => ?_)
        show (if jmt D x y c m = true then _ else 0) ≤ _
        by_cases z : jmt D x y c m = true
        · rw [if_pos z, if_pos z]
          exact ih c m
        · rw [if_neg z]
          exact Nat.zero_le _
      · rw [if_neg q, if_neg q]
        exact Nat.le_refl _
    · rw [if_neg e]
      exact Nat.zero_le _
theorem jS1_w (x y c : Nat) : jS1 (jwD D r k) x y c ≤ jS1 D x y c := by
  unfold jS1 jW1
  refine jsum_le (fun m _ => ?_)
  show (if jmt D x y c m = true then _ else 0) ≤ _
  by_cases z : jmt D x y c m = true
  · rw [if_pos z, if_pos z]
    exact jWg_w 4 c m
  · rw [if_neg z]
    exact Nat.zero_le _
theorem jAll_w : jAll (jwD D r k) ≤ jAll D := by
  unfold jAll
  show (match jrt D with | none => 0 | some x => jsum (jDz D x) (fun m => jW1 (jwD D r k) x m)) ≤ _
  cases jrt D with
  | none => exact Nat.le_refl _
  | some x => exact jsum_le (fun m _ => jWg_w 4 x m)
theorem jmx_mono {f g : Nat → Nat} : ∀ {n : Nat}, (∀ i, f i ≤ g i) → jmx n f ≤ jmx n g := by
  intro n h
  induction n with
  | zero => exact Nat.le_refl _
  | succ n ih =>
    rw [jmx, jmx]
    exact Nat.max_le.mpr ⟨Nat.le_trans ih (Nat.le_max_left _ _), Nat.le_trans (h n) (Nat.le_max_right _ _)⟩
theorem jbd_w (x : Nat) : jbd (jwD D r k) x ≤ jbd D x := by
  unfold jbd
  refine jmx_mono (fun y => ?_)
  unfold jhp
  refine jsum_le (fun m _ => ?_)
  by_cases e : (jpb (jwD D r k) x m && jmg (jwD D r k) x m (jkn (jwD D r k) x) (jDv (jwD D r k) x y)) = true
  · rw [Bool.and_eq_true] at e
    have e2 : (jpb D x m && jmg D x m (jkn D x) (jDv D x y)) = true := by
      rw [Bool.and_eq_true]
      exact ⟨jpb_w e.1, e.2⟩
    rw [if_pos (by rw [Bool.and_eq_true]; exact e), if_pos e2]
    exact Nat.le_refl _
  · rw [if_neg e]
    exact Nat.zero_le _
theorem jsp_w (n : Nat) : jsp (jwD D r k) n ≤ jsp D n := by
  unfold jsp
  refine Nat.mul_le_mul jAll_w (jprd_le (fun x _ => ?_))
  show (if (jdC D).testBit x = true then _ else 1) ≤ _
  by_cases e : (jdC D).testBit x = true
  · rw [if_pos e, if_pos e]
    exact jbd_w x
  · rw [if_neg e, if_neg e]
    exact Nat.le_refl _
theorem jGt_w (h : jGt (jwD D r k)) : jGt D := by
  rcases h with ⟨x, y, h1, h2, h3, h4, c, h5, h6, h7⟩ | h | ⟨x, h1, h2, h3⟩
  · refine Or.inl ⟨x, y, h1, h2, h3, jpb_w h4, c, h5, h6, ?_⟩
    rcases h7 with h7 | h7
    · exact Or.inl (Nat.lt_of_lt_of_le h7 (jS1_w x y c))
    · refine Or.inr (Nat.lt_of_lt_of_le h7 ?_)
      unfold jpre
      refine Nat.mul_le_mul (Nat.le_refl _) (jprd_le (fun c _ => ?_))
      show (if jkid D c x = true then _ else 1) ≤ _
      by_cases q : jkid D c x = true
      · rw [if_pos q, if_pos q]
        exact jS1_w x y c
      · rw [if_neg q, if_neg q]
        exact Nat.le_refl _
  · exact Or.inr (Or.inl (Nat.lt_of_lt_of_le h jAll_w))
  · exact Or.inr (Or.inr ⟨x, h1, h2, Nat.lt_of_lt_of_le h3 (jsp_w (x + 1))⟩)
theorem jgB_w (h : jgB D = false) : jgB (jwD D r k) = false := by
  cases e : jgB (jwD D r k) with
  | false => rfl
  | true =>
    rw [jgB_iff.mpr (jGt_w (jgB_iff.mp e))] at h
    cases h
theorem jsp_MX (h : jgB D = false) : jsp D 4 ≤ jMX := by
  have hg : ¬ jGt D := fun q => by rw [jgB_iff.mpr q] at h; cases h
  have : ∀ n, n ≤ 4 → jsp D n ≤ jMX := by
    intro n
    induction n with
    | zero =>
      intro _
      unfold jsp
      rw [show jprd 0 (fun r => if (jdC D).testBit r = true then jbd D r else 1) = 1 from rfl, Nat.mul_one]
      exact Nat.le_of_not_lt (fun q => hg (Or.inr (Or.inl q)))
    | succ n ih =>
      intro hn
      by_cases e : (jdC D).testBit n = true
      · exact Nat.le_of_not_lt (fun q => hg (Or.inr (Or.inr ⟨n, by omega, e, q⟩)))
      · rw [jsp_s, if_neg e, Nat.mul_one]
        exact ih (by omega)
  exact this 4 (Nat.le_refl _)
/-- answers without a row, and with it, are all answers -/
theorem jct_part (hD : jDok D) (hq0 : jDq D ≠ 0) (hr : r < 4) (hq : (jDq D).testBit r = true) (hk : k < jDz D r) : jct (jwD D r k) jf1 + jct D (jfr1 r k) = jct D jf1 := by
  have hz : ∀ r, r < 4 → jDz D r ≤ 8 := fun r hr => (hD.2.2.1 r hr).2.2.1
  have hl8 := jz256 (hD.2.2.1 r hr).2.2.2.1 (hz r hr)
  rw [jct_codes (D := jwD D r k) hz hq0, jct_codes hz hq0, jct_codes hz hq0, ← jsum_add]
  refine jsum_c (fun c _ => ?_)
  have hR := jRc_lt c
  generalize jRc c = R at hR
  have hpb : ∀ x y, y < 8 → jpb (jwD D r k) x y = if x = r ∧ y = k then false else jpb D x y := by
    intro x y hy
    unfold jpb
    rw [jUl_l]
    by_cases e : x = r
    · rw [if_pos e, jli_bit hl8 hy]
      by_cases e2 : y = k
      · rw [if_pos e2, if_pos ⟨e, e2⟩, Bool.false_and]
      · rw [if_neg e2, if_neg (fun q => e2 q.2), e]
        rfl
    · rw [if_neg e, if_neg (fun q => e q.1)]
      rfl
  have hok : ∀ x, x < 4 → ¬ (x = r ∧ R x = k) → jok (jwD D r k) R x = jok D R x := by
    intro x hx h
    unfold jok jMq
    rw [hpb x (R x) (hR x), if_neg h]
    rfl
  rw [jcd_e, jcd_e, jcd_e]
  by_cases e : R r = k
  · have hf : jok (jwD D r k) R r = false := by
      unfold jok jMq
      rw [hpb r (R r) (hR r), if_pos ⟨rfl, e⟩, Bool.false_and, Bool.or_false]
      show (!(jDq D).testBit r) = false
      rw [hq]
      rfl
    have h4 : jall4 (jok (jwD D r k) R) = false := by
      cases q : jall4 (jok (jwD D r k) R) with
      | false => rfl
      | true =>
        unfold jall4 at q
        simp only [Bool.and_eq_true] at q
        obtain ⟨q0, q1, q2, q3⟩ := q
        rcases (by omega : r = 0 ∨ r = 1 ∨ r = 2 ∨ r = 3) with z | z | z | z <;> rw [z] at hf <;> simp_all
    rw [h4, Bool.and_false, if_neg (by decide), Nat.zero_add, show jfr1 r k R = jf1 R from if_pos e]
  · have h4 : jall4 (jok (jwD D r k) R) = jall4 (jok D R) := by
      unfold jall4
      rw [hok 0 (by omega) (fun q => e (by rw [← q.1]; exact q.2)), hok 1 (by omega) (fun q => e (by rw [← q.1]; exact q.2)), hok 2 (by omega) (fun q => e (by rw [← q.1]; exact q.2)), hok 3 (by omega) (fun q => e (by rw [← q.1]; exact q.2))]
    rw [h4, show jfr1 r k R = 0 from if_neg e, Nat.mul_zero, Nat.mul_zero, Nat.mul_zero, Nat.mul_zero, ite_self, Nat.add_zero]
    rfl
end LESS
