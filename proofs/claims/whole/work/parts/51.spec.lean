/-! weights, as they are thought of -/
def jMX : Nat := 9223372036854775807
/-- a row passes -/
def jpb (D : jD) (r k : Nat) : Bool := (jDl D r).testBit k && !decide (jDt D (jDr D) r k (jDw D r k) (Int32.ofNat (jDc D r k)) = 0)
/-- row m of c matches row k of r -/
def jmt (D : jD) (r k c m : Nat) : Bool := jmg D c m (fun a => (jDa D r).testBit a) (jDv D r k)
/-- the weight of a row of a kept one, the tree below it being no higher than f -/
def jWg (D : jD) : Nat → Nat → Nat → Nat
  | 0, _, _ => 0
  | f + 1, r, k => if jpb D r k = true then jwth D r k * jprd 4 (fun c => if jkid D c r = true then jsum (jDz D c) (fun m => if jmt D r k c m = true then jWg D f c m else 0) else 1) else 0
def jW1 (D : jD) (r k : Nat) : Nat := jWg D 4 r k
/-- the sum of weights of rows of c that match row k of r -/
def jS1 (D : jD) (r k c : Nat) : Nat := jsum (jDz D c) (fun m => if jmt D r k c m = true then jW1 D c m else 0)
def jAll (D : jD) : Nat := match jrt D with
  | none => 0
  | some r => jsum (jDz D r) (fun m => jW1 D r m)
/-- worth, times sums by the first n children -/
def jpre (D : jD) (r k n : Nat) : Nat := jwth D r k * jprd n (fun c => if jkid D c r = true then jS1 D r k c else 1)
/-- attributes known ahead of a check -/
def jkn (D : jD) (r a : Nat) : Bool := (List.range 4).any fun q => ((jdK D).testBit q || ((jdC D).testBit q && decide (q < r))) && (jDa D q).testBit a
/-- the heap of a row of a check -/
def jhp (D : jD) (r k : Nat) : Nat := jsum (jDz D r) (fun m => if (jpb D r m && jmg D r m (jkn D r) (jDv D r k)) = true then jwth D r m else 0)
def jmx : Nat → (Nat → Nat) → Nat
  | 0, _ => 0
  | n + 1, f => max (jmx n f) (f n)
def jbd (D : jD) (r : Nat) : Nat := jmx (jDz D r) (jhp D r)
/-- ALL, times bounds of checks among the first n -/
def jsp (D : jD) (n : Nat) : Nat := jAll D * jprd n (fun r => if (jdC D).testBit r = true then jbd D r else 1)
/-- something on the way is above the longest: at a row, at the root, at bounds -/
def jGr (D : jD) (r k : Nat) : Prop := jpb D r k = true ∧ ∃ c, c < 4 ∧ jkid D c r = true ∧ (jMX < jS1 D r k c ∨ jMX < jpre D r k (c + 1))
def jGt (D : jD) : Prop := (∃ r k, r < 4 ∧ (jdK D).testBit r = true ∧ k < jDz D r ∧ jGr D r k) ∨ jMX < jAll D ∨ ∃ r, r < 4 ∧ (jdC D).testBit r = true ∧ jMX < jsp D (r + 1)
/-! comparisons of longs -/
theorem jc_le0 {x y : Int64} : lg_cmp x y ≤ 0 ↔ x ≤ y := by
  unfold lg_cmp
  by_cases h : x > y
  · rw [if_pos h]
    exact ⟨fun q => absurd q (by decide), fun q => absurd h (Int64.not_lt.mpr q)⟩
  · rw [if_neg h]
    have hl := Int64.not_lt.mp h
    by_cases h2 : x = y
    · rw [if_pos h2]
      exact ⟨fun _ => hl, fun _ => by decide⟩
    · rw [if_neg h2]
      exact ⟨fun _ => hl, fun _ => by decide⟩
theorem jc_0lt {x y : Int64} : 0 < lg_cmp x y ↔ y < x := by
  unfold lg_cmp
  by_cases h : x > y
  · rw [if_pos h]
    exact ⟨fun _ => h, fun _ => by decide⟩
  · rw [if_neg h]
    by_cases h2 : x = y
    · rw [if_pos h2]
      exact ⟨fun q => absurd q (by decide), fun q => absurd q h⟩
    · rw [if_neg h2]
      exact ⟨fun q => absurd q (by decide), fun q => absurd q h⟩
theorem jc_eq0 {x y : Int64} : lg_cmp x y = 0 ↔ x = y := by
  unfold lg_cmp
  by_cases h : x > y
  · rw [if_pos h]
    refine ⟨fun q => absurd q (by decide), fun q => ?_⟩
    subst q
    exact absurd h (Int64.lt_irrefl)
  · rw [if_neg h]
    by_cases h2 : x = y
    · rw [if_pos h2]
      exact ⟨fun _ => h2, fun _ => rfl⟩
    · rw [if_neg h2]
      exact ⟨fun q => absurd q (by decide), fun q => absurd q h2⟩
theorem jc_lt0 {x y : Int64} : lg_cmp x y < 0 ↔ x < y := by
  unfold lg_cmp
  by_cases h : x > y
  · rw [if_pos h]
    exact ⟨fun q => absurd q (by decide), fun q => absurd (Int64.lt_trans q h) Int64.lt_irrefl⟩
  · rw [if_neg h]
    by_cases h2 : x = y
    · rw [if_pos h2]
      refine ⟨fun q => absurd q (by decide), fun q => ?_⟩
      subst h2
      exact absurd q Int64.lt_irrefl
    · rw [if_neg h2]
      exact ⟨fun _ => Int64.lt_of_le_of_ne (Int64.not_lt.mp h) h2, fun _ => by decide⟩
theorem jc_0le {x y : Int64} : 0 ≤ lg_cmp x y ↔ y ≤ x := by
  rw [← Int64.not_lt, ← jc_lt0, Int32.not_lt]
theorem jq_le {a b : Nat} (ha : a ≤ jMX) (hb : b ≤ jMX) : Int64.ofNat a ≤ Int64.ofNat b ↔ a ≤ b := Int64.ofNat_le_iff_le (by unfold jMX at ha; omega) (by unfold jMX at hb; omega)
theorem jq_lt {a b : Nat} (ha : a ≤ jMX) (hb : b ≤ jMX) : Int64.ofNat a < Int64.ofNat b ↔ a < b := Int64.ofNat_lt_iff_lt (by unfold jMX at ha; omega) (by unfold jMX at hb; omega)
theorem jq_add (a b : Nat) : Int64.ofNat a + Int64.ofNat b = Int64.ofNat (a + b) := (Int64.ofNat_add a b).symm
theorem jq_mul (a b : Nat) : Int64.ofNat a * Int64.ofNat b = Int64.ofNat (a * b) := (Int64.ofNat_mul a b).symm
theorem jq_sub {a b : Nat} (h : b ≤ a) : Int64.ofNat a - Int64.ofNat b = Int64.ofNat (a - b) := (Int64.ofNat_sub a b h).symm
theorem jq_div {a b : Nat} (ha : a ≤ jMX) (hb : b ≤ jMX) : Int64.ofNat a / Int64.ofNat b = Int64.ofNat (a / b) := (Int64.ofNat_div (by unfold jMX at ha; omega) (by unfold jMX at hb; omega)).symm
theorem jq_eq {a b : Nat} (ha : a ≤ jMX) (hb : b ≤ jMX) : Int64.ofNat a = Int64.ofNat b ↔ a = b := by
  constructor
  · intro h
    have h1 := Int64.toNatClampNeg_ofNat_of_lt (n := a) (by unfold jMX at ha; omega)
    have h2 := Int64.toNatClampNeg_ofNat_of_lt (n := b) (by unfold jMX at hb; omega)
    rw [← h1, ← h2, h]
  · intro h
    rw [h]
theorem jq_0le {a : Nat} (ha : a ≤ jMX) : 0 ≤ Int64.ofNat a := Int64.zero_le_ofNat_of_lt (by unfold jMX at ha; omega)
theorem jMX_e : (9223372036854775807 : Int64) = Int64.ofNat jMX := rfl
/-! sums and products that mind the longest, as the class does it -/
section PLUS
variable {F b : Nat} {m : jMe}
theorem q_plus_j23 (hL : jK m b = 34) {x y : Int64} {t : Bool} : c_X2_plus_j23 F m b x y (jbi t) b = some (if t = true then 0 else x + y, jsI m b 5 (jbi t)) := by
  unfold c_X2_plus_j23
  rw [jgd_t hL, jgd_t (by cases t <;> simp [jbi]), jgd_t hL, jsI_e, jupd_e]
  cases t with
  | true => rw [if_neg (by decide), if_pos rfl]
  | false => rw [if_pos (by decide), if_neg (by decide)]
theorem q_times_j29 (hL : jK m b = 34) {x y : Int64} {t : Bool} : c_X2_times_j29 F m b x y (jbi t) b = some (if t = true then 0 else x * y, jsI m b 5 (jbi t)) := by
  unfold c_X2_times_j29
  rw [jgd_t hL, jgd_t (by cases t <;> simp [jbi]), jgd_t hL, jsI_e, jupd_e]
  cases t with
  | true => rw [if_neg (by decide), if_pos rfl]
  | false => rw [if_pos (by decide), if_neg (by decide)]
theorem q_plus (hL : jK m b = 34) {g : Bool} (hg : jI m b 5 = jbi g) {x y : Nat} (hx : x ≤ jMX) (hy : y ≤ jMX) : c_X2_plus F m b (Int64.ofNat x) (Int64.ofNat y) = some (if (g || decide (jMX < x + y)) = true then 0 else Int64.ofNat (x + y), jsI m b 5 (jbi (g || decide (jMX < x + y)))) := by
  unfold c_X2_plus
  rw [jgd_t hL, hg, jMX_e, jq_sub hy, show (0 : Int32) = jbi false from rfl, show (1 : Int32) = jbi true from rfl, q_plus_j23 hL, q_plus_j23 hL, jq_add]
  cases g with
  | true => rw [if_neg (by decide), Bool.true_or]
  | false =>
    rw [if_pos (by decide), Bool.false_or]
    by_cases q : jMX < x + y
    · rw [decide_eq_true q, if_neg (fun h => by
        have h : lg_cmp (Int64.ofNat x) (Int64.ofNat (jMX - y)) ≤ 0 := h
        rw [jc_le0, jq_le hx (by omega)] at h
        omega)]
    · rw [decide_eq_false q, if_pos (show lg_cmp (Int64.ofNat x) (Int64.ofNat (jMX - y)) ≤ jbi false by
        show lg_cmp (Int64.ofNat x) (Int64.ofNat (jMX - y)) ≤ 0
        rw [jc_le0, jq_le hx (by omega)]
        omega)]
theorem q_times (hL : jK m b = 34) {g : Bool} (hg : jI m b 5 = jbi g) {x y : Nat} (hx : x ≤ jMX) (hy : y ≤ jMX) : c_X2_times F m b (Int64.ofNat x) (Int64.ofNat y) = some (if (g || decide (jMX < x * y)) = true then 0 else Int64.ofNat (x * y), jsI m b 5 (jbi (g || decide (jMX < x * y)))) := by
  unfold c_X2_times
  rw [jgd_t hL, hg, jMX_e, jq_div (Nat.le_refl _) hy, show (0 : Int32) = jbi false from rfl, show (1 : Int32) = jbi true from rfl, q_times_j29 hL, q_times_j29 hL, jq_mul]
  cases g with
  | true => rw [if_neg (by decide), Bool.true_or]
  | false =>
    rw [if_pos (by decide), Bool.false_or]
    by_cases q0 : y = 0
    · subst q0
      rw [Nat.mul_zero, decide_eq_false (by omega), if_pos (show lg_cmp (Int64.ofNat 0) 0 ≤ jbi false by decide)]
    · have h0 : ¬ lg_cmp (Int64.ofNat y) 0 ≤ jbi false := fun h => by
        have h : lg_cmp (Int64.ofNat y) 0 ≤ 0 := h
        rw [show (0 : Int64) = Int64.ofNat 0 from rfl, jc_le0, jq_le hy (by omega)] at h
        omega
      have h1 : ¬ Int64.ofNat y = 0 := fun h => q0 ((jq_eq hy (by omega)).mp h)
      rw [if_neg h0, jgd_t h1]
      have hd : x ≤ jMX / y ↔ x * y ≤ jMX := Nat.le_div_iff_mul_le (by omega)
      have hdm : jMX / y ≤ jMX := Nat.div_le_self _ _
      by_cases q : jMX < x * y
      · rw [decide_eq_true q, if_neg (fun h => by
          have h : lg_cmp (Int64.ofNat x) (Int64.ofNat (jMX / y)) ≤ 0 := h
          rw [jc_le0, jq_le hx hdm, hd] at h
          omega)]
      · rw [decide_eq_false q, if_pos (show lg_cmp (Int64.ofNat x) (Int64.ofNat (jMX / y)) ≤ jbi false by
          show lg_cmp (Int64.ofNat x) (Int64.ofNat (jMX / y)) ≤ 0
          rw [jc_le0, jq_le hx hdm, hd]
          omega)]
end PLUS
