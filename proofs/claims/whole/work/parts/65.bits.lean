/-! bits and numbers by a seed -/
/-- so many bits behind v; nx: the next state, bt: its bit -/
def jbs (nx : Int32 → Int32) (bt : Int32 → Nat) : Nat → Int32 → Nat → Nat × Int32
  | 0, z, v => (v, z)
  | s + 1, z, v => jbs nx bt s (nx z) (2 * v + bt (nx z))
theorem jbs_lt {nx : Int32 → Int32} {bt : Int32 → Nat} (hb : ∀ z, bt z ≤ 1) : ∀ (s : Nat) (z : Int32) (v : Nat), (jbs nx bt s z v).1 < (v + 1) * 2 ^ s := by
  intro s
  induction s with
  | zero =>
    intro z v
    unfold jbs
    rw [Nat.pow_zero, Nat.mul_one]
    exact Nat.lt_succ_self v
  | succ s ih =>
    intro z v
    have h1 := hb (nx z)
    unfold jbs
    refine Nat.lt_of_lt_of_le (ih (nx z) (2 * v + bt (nx z))) ?_
    rw [Nat.pow_succ, Nat.mul_comm (2 ^ s) 2, ← Nat.mul_assoc]
    exact Nat.mul_le_mul_right _ (by omega)
theorem jbs_s {nx : Int32 → Int32} {bt : Int32 → Nat} (s : Nat) (z : Int32) (v : Nat) : jbs nx bt (s + 1) z v = jbs nx bt s (nx z) (2 * v + bt (nx z)) := by
  rw [jbs]
/-- how many bits a number has, from s on -/
def jbn (x : Nat) : Nat → Nat → Nat
  | 0, s => s
  | t + 1, s => if x / 2 ^ s = 0 then s else jbn x t (s + 1)
/-- a number below n, of s bits, in t tries -/
def jbe (nx : Int32 → Int32) (bt : Int32 → Nat) (n s : Nat) : Nat → Int32 → Nat → Nat × Int32
  | 0, z, v => (v % n, z)
  | t + 1, z, _ => if (jbs nx bt s z 0).1 < n then jbs nx bt s z 0 else jbe nx bt n s t (jbs nx bt s z 0).2 (jbs nx bt s z 0).1
theorem jbn_le {x : Nat} : ∀ (t s : Nat), s ≤ jbn x t s ∧ jbn x t s ≤ s + t := by
  intro t
  induction t with
  | zero => intro s; exact ⟨Nat.le_refl _, Nat.le_refl _⟩
  | succ t ih =>
    intro s
    unfold jbn
    have := ih (s + 1)
    split <;> omega
theorem jbe_lt {nx : Int32 → Int32} {bt : Int32 → Nat} {n s : Nat} (hn : 0 < n) : ∀ (t : Nat) (z : Int32) (v : Nat), (jbe nx bt n s t z v).1 < n := by
  intro t
  induction t with
  | zero =>
    intro z v
    unfold jbe
    exact Nat.mod_lt _ hn
  | succ t ih =>
    intro z v
    unfold jbe
    by_cases e : (jbs nx bt s z 0).1 < n
    · rw [if_pos e]
      exact e
    · rw [if_neg e]
      exact ih _ _
def jnx (z : Int32) : Int32 := z * 1103515245 + 12345
def jb1 (z : Int32) : Nat := (if jbt z 16 then 1 else 0)
def jbelow (n : Nat) (z : Int32) : Nat × Int32 := jbe jnx jb1 n (jbn (n - 1) 63 0) 30 z 0
theorem jb1_e (z : Int32) : (jushr z (16 : Int32)) &&& (1 : Int32) = Int32.ofNat (jb1 z) := by
  have h := jbt_at (x := z) (i := 16) (by omega)
  have h : (jushr z (16 : Int32)) &&& (1 : Int32) = jbi (jbt z 16) := h
  rw [h]
  unfold jb1
  cases jbt z 16 <;> rfl
theorem jb1_le (z : Int32) : jb1 z ≤ 1 := by
  unfold jb1
  split <;> omega
theorem jtl_inj {x y : Int64} (h : x.toUInt64.toNat = y.toUInt64.toNat) : x = y := by
  have e := UInt64.toNat_inj.mp h
  rw [← Int64.toInt64_toUInt64 x, ← Int64.toInt64_toUInt64 y, e]
theorem jtl_of {n : Nat} (h : n < 18446744073709551616) : (Int64.ofNat n).toUInt64.toNat = n := by
  rw [Int64.toUInt64_ofNat', UInt64.toNat_ofNat']
  exact Nat.mod_eq_of_lt h
theorem jlushr_of {n s : Nat} (hn : n < 9223372036854775808) (hs : s < 64) : jlushr (Int64.ofNat n) (Int32.ofNat s) = Int64.ofNat (n / 2 ^ s) := by
  apply jtl_inj
  unfold jlushr
  have h1 : (Int32.ofNat s).toInt64 = Int64.ofNat s := Int32.toInt64_ofNat' (by have : Int32.maxValue.toInt = 2147483647 := rfl; omega)
  have h2 : n / 2 ^ s ≤ n := Nat.div_le_self _ _
  rw [h1, UInt64.toUInt64_toInt64, UInt64.toNat_shiftRight, UInt64.toNat_and, jtl_of (by omega), jtl_of (by omega), jtl_of (by omega), show (Int64.toUInt64 63).toNat = 2 ^ 6 - 1 from rfl, Nat.and_two_pow_sub_one_eq_mod, Nat.mod_eq_of_lt (show s < 2 ^ 6 by omega), Nat.mod_eq_of_lt (by omega), Nat.shiftRight_eq_div_pow]
theorem jshl1 {v : Nat} {x : Nat} (hv : v < 4611686018427387904) (hx : x ≤ 1) : (jlshl (Int64.ofNat v) (1 : Int32)) ||| (Int32.toInt64 (Int32.ofNat x)) = Int64.ofNat (2 * v + x) := by
  have h1 : (Int32.ofNat x).toInt64 = Int64.ofNat x := Int32.toInt64_ofNat' (by have : Int32.maxValue.toInt = 2147483647 := rfl; omega)
  have h2 : jlshl (Int64.ofNat v) (1 : Int32) = Int64.ofNat (2 * v) := by
    apply jtl_inj
    rw [jtl_of (by omega)]
    show (jlshl (Int64.ofNat v) (1 : Int32)).toBitVec.toNat = 2 * v
    unfold jlshl
    rw [Int64.toBitVec_shiftLeft, show ((Int32.toInt64 1 &&& 63).toBitVec.smod 64) = 1#64 from by decide, BitVec.shiftLeft_eq', BitVec.toNat_shiftLeft]
    show (v % 2 ^ 64) <<< 1 % 2 ^ 64 = 2 * v
    rw [Nat.mod_eq_of_lt (by omega), Nat.shiftLeft_eq, Nat.mod_eq_of_lt (by omega)]
    omega
  rw [h1, h2]
  apply jtl_inj
  rw [Int64.toUInt64_or, UInt64.toNat_or, jtl_of (by omega), jtl_of (by omega), jtl_of (by omega)]
  rcases (by omega : x = 0 ∨ x = 1) with rfl | rfl
  · rw [Nat.or_zero, Nat.add_zero]
  · have h3 := Nat.shiftLeft_add_eq_or_of_lt (b := 1) (i := 1) (by omega) v
    rw [Nat.shiftLeft_eq, show v * 2 ^ 1 = 2 * v by omega] at h3
    exact h3.symm
