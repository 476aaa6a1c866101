/-! sums and products -/
def jsum : Nat → (Nat → Nat) → Nat
  | 0, _ => 0
  | n + 1, f => jsum n f + f n
def jprd : Nat → (Nat → Nat) → Nat
  | 0, _ => 1
  | n + 1, f => jprd n f * f n
theorem jsum_s (n : Nat) (f : Nat → Nat) : jsum (n + 1) f = jsum n f + f n := rfl
theorem jprd_s (n : Nat) (f : Nat → Nat) : jprd (n + 1) f = jprd n f * f n := rfl
theorem jsum_c {f g : Nat → Nat} : ∀ {n : Nat}, (∀ i, i < n → f i = g i) → jsum n f = jsum n g := by
  intro n
  induction n with
  | zero => intro _; rfl
  | succ n ih =>
    intro h
    rw [jsum_s, jsum_s, ih (fun i hi => h i (by omega)), h n (by omega)]
theorem jprd_c {f g : Nat → Nat} : ∀ {n : Nat}, (∀ i, i < n → f i = g i) → jprd n f = jprd n g := by
  intro n
  induction n with
  | zero => intro _; rfl
  | succ n ih =>
    intro h
    rw [jprd_s, jprd_s, ih (fun i hi => h i (by omega)), h n (by omega)]
theorem jsum_le {f g : Nat → Nat} : ∀ {n : Nat}, (∀ i, i < n → f i ≤ g i) → jsum n f ≤ jsum n g := by
  intro n
  induction n with
  | zero => intro _; exact Nat.le_refl _
  | succ n ih =>
    intro h
    rw [jsum_s, jsum_s]
    exact Nat.add_le_add (ih (fun i hi => h i (by omega))) (h n (by omega))
theorem jprd_le {f g : Nat → Nat} : ∀ {n : Nat}, (∀ i, i < n → f i ≤ g i) → jprd n f ≤ jprd n g := by
  intro n
  induction n with
  | zero => intro _; exact Nat.le_refl _
  | succ n ih =>
    intro h
    rw [jprd_s, jprd_s]
    exact Nat.mul_le_mul (ih (fun i hi => h i (by omega))) (h n (by omega))
theorem jsum_0 : ∀ (n : Nat), jsum n (fun _ => 0) = 0 := by
  intro n
  induction n with
  | zero => rfl
  | succ n ih => rw [jsum_s, ih]
theorem jsum_z {f : Nat → Nat} {n : Nat} (h : ∀ i, i < n → f i = 0) : jsum n f = 0 := by
  rw [jsum_c h, jsum_0]
theorem jsum_add (n : Nat) (f g : Nat → Nat) : jsum n (fun i => f i + g i) = jsum n f + jsum n g := by
  induction n with
  | zero => rfl
  | succ n ih =>
    rw [jsum_s, jsum_s, jsum_s, ih]
    omega
theorem jsum_mul (n c : Nat) (f : Nat → Nat) : jsum n (fun i => c * f i) = c * jsum n f := by
  induction n with
  | zero => rfl
  | succ n ih => rw [jsum_s, jsum_s, ih, Nat.mul_add]
theorem jsum_swap (n m : Nat) (f : Nat → Nat → Nat) : jsum n (fun i => jsum m (fun j => f i j)) = jsum m (fun j => jsum n (fun i => f i j)) := by
  induction n with
  | zero => exact (jsum_0 m).symm
  | succ n ih =>
    rw [jsum_s, ih, ← jsum_add]
    rfl
theorem jsum_at {n k : Nat} {f : Nat → Nat} (hk : k < n) : jsum n (fun i => if i = k then f i else 0) = f k := by
  induction n with
  | zero => omega
  | succ n ih =>
    rw [jsum_s]
    by_cases q : n = k
    · subst q
      rw [if_pos rfl, jsum_z (fun i hi => if_neg (by omega)), Nat.zero_add]
    · rw [if_neg q, ih (by omega), Nat.add_zero]
theorem jsum_mono {f : Nat → Nat} {n m : Nat} (h : n ≤ m) : jsum n f ≤ jsum m f := by
  induction m with
  | zero =>
    have : n = 0 := by omega
    rw [this]
    exact Nat.le_refl _
  | succ m ih =>
    by_cases q : n = m + 1
    · rw [q]
      exact Nat.le_refl _
    · rw [jsum_s]
      exact Nat.le_trans (ih (by omega)) (Nat.le_add_right _ _)
theorem jsum_one {f : Nat → Nat} {n k : Nat} (hk : k < n) : f k ≤ jsum n f := by
  have h := jsum_mono (f := f) (n := k + 1) (m := n) hk
  rw [jsum_s] at h
  omega
/-- places behind m hold nothing -/
theorem jsum_cut {f : Nat → Nat} {n m : Nat} (h : m ≤ n) : jsum n (fun i => if i < m then f i else 0) = jsum m f := by
  induction n with
  | zero =>
    have : m = 0 := by omega
    rw [this]
    rfl
  | succ n ih =>
    by_cases q : m = n + 1
    · subst q
      exact jsum_c (fun i hi => if_pos hi)
    · rw [jsum_s, if_neg (by omega), ih (by omega), Nat.add_zero]
/-- the place at which a number falls -/
theorem jsum_find {f : Nat → Nat} {n p : Nat} (h : p < jsum n f) : ∃ k, k < n ∧ jsum k f ≤ p ∧ p < jsum (k + 1) f := by
  induction n with
  | zero => exact absurd h (Nat.not_lt_zero _)
  | succ n ih =>
    by_cases q : p < jsum n f
    · obtain ⟨k, h1, h2⟩ := ih q
      exact ⟨k, by omega, h2⟩
    · exact ⟨n, by omega, by omega, h⟩
theorem jprd_pos {f : Nat → Nat} : ∀ {n : Nat}, 0 < jprd n f → ∀ i, i < n → 0 < f i := by
  intro n
  induction n with
  | zero => intro _ i hi; omega
  | succ n ih =>
    intro h i hi
    rw [jprd_s] at h
    have h1 := Nat.pos_of_mul_pos_left h
    have h2 := Nat.pos_of_mul_pos_right h
    by_cases q : i = n
    · rw [q]; assumption
    · exact ih (by assumption) i (by omega)
