/-! from here on: class and reference agree, as functions. Ends of programs -/
def jw {α : Type} (x : Option α) (Q : α → Prop) : Prop := ∃ a, x = some a ∧ Q a
theorem jw_some {α : Type} {a : α} {Q : α → Prop} : jw (some a) Q ↔ Q a := ⟨fun ⟨b, h, q⟩ => by cases h; exact q, fun h => ⟨a, rfl, h⟩⟩
theorem jw_gd {α : Type} {p : Prop} [Decidable p] {x : Option α} {Q : α → Prop} : jw (jgd p x) Q ↔ p ∧ jw x Q := by
  unfold jgd
  by_cases h : p
  · simp [h]
  · simp [h, jw]
theorem jw_let {α β : Type} {e : α} {f : α → Option β} {Q : β → Prop} : jw (jlet e f) Q ↔ jw (f e) Q := Iff.rfl
theorem jw_b {α β : Type} {x : Option α} {f : α → Option β} {Q : β → Prop} : jw (jb x f) Q ↔ jw x (fun a => jw (f a) Q) := by
  cases x with
  | none => simp [jw, jb]
  | some a => simp [jw, jb]
theorem jw_b2 {α β γ : Type} {x : Option (α ⊕ β)} {f : α → Option γ} {g : β → Option γ} {Q : γ → Prop} : jw (jb2 x f g) Q ↔ jw x (fun s => match s with | .inl a => jw (f a) Q | .inr b => jw (g b) Q) := by
  rcases x with _ | (a | b) <;> simp [jw, jb2]
theorem jw_ite {α : Type} {c : Prop} [Decidable c] {a b : Option α} {Q : α → Prop} : jw (if c then a else b) Q ↔ (c → jw a Q) ∧ (¬ c → jw b Q) := by
  by_cases h : c <;> simp [h]
theorem jw.mono {α : Type} {x : Option α} {P Q : α → Prop} (h : jw x P) (k : ∀ a, P a → Q a) : jw x Q := by
  obtain ⟨a, e, p⟩ := h
  exact ⟨a, e, k a p⟩
theorem jw.of {α : Type} {x : Option α} {a : α} {Q : α → Prop} (h : x = some a) (q : Q a) : jw x Q := ⟨a, h, q⟩
theorem jgd_t {α : Type} {p : Prop} [Decidable p] {x : Option α} (h : p) : jgd p x = x := by simp [jgd, h]
theorem jb_some {α β : Type} {a : α} {f : α → Option β} : jb (some a) f = f a := rfl
theorem jb2_l {α β γ : Type} {a : α} {f : α → Option γ} {g : β → Option γ} : jb2 (some (.inl a)) f g = f a := rfl
theorem jb2_r {α β γ : Type} {b : β} {f : α → Option γ} {g : β → Option γ} : jb2 (some (.inr b)) f g = g b := rfl
theorem jlet_e {α β : Type} {e : α} {f : α → β} : jlet e f = f e := rfl
/-! truth as an int -/
def jbi (b : Bool) : Int32 := if b then 1 else 0
theorem jbi_t : jbi true = 1 := rfl
theorem jbi_f : jbi false = 0 := rfl
theorem jbi_0 {b : Bool} : jbi b = 0 ↔ b = false := by cases b <;> decide
theorem jbi_1 {b : Bool} : jbi b = 1 ↔ b = true := by cases b <;> decide
theorem jbi_n0 {b : Bool} : ¬ jbi b = 0 ↔ b = true := by cases b <;> decide
theorem jite_bi {α : Type} {c : Prop} [Decidable c] {b : Bool} (h : c ↔ b = true) {x y : α} : (if c then x else y) = bif b then x else y := by
  by_cases q : c
  · simp [q, h.mp q]
  · have : b = false := by
      cases b with
      | false => rfl
      | true => exact absurd (h.mpr rfl) q
    simp [q, this]
theorem jbi_of {c : Prop} [Decidable c] : (if c then some (1 : Int32) else some (0 : Int32)) = some (jbi (decide c)) := by
  by_cases q : c <;> simp [q, jbi]
theorem jbi_of' {c : Prop} [Decidable c] : (if c then some (0 : Int32) else some (1 : Int32)) = some (jbi (!decide c)) := by
  by_cases q : c <;> simp [q, jbi]
/-! numbers -/
theorem ji_le {a b : Nat} (ha : a < 2147483648) (hb : b < 2147483648) : Int32.ofNat a ≤ Int32.ofNat b ↔ a ≤ b := Int32.ofNat_le_iff_le ha hb
theorem ji_lt {a b : Nat} (ha : a < 2147483648) (hb : b < 2147483648) : Int32.ofNat a < Int32.ofNat b ↔ a < b := Int32.ofNat_lt_iff_lt ha hb
theorem ji_n {a : Nat} (ha : a < 2147483648) : (Int32.ofNat a).toNatClampNeg = a := Int32.toNatClampNeg_ofNat_of_lt ha
theorem ji_eq {a b : Nat} (ha : a < 2147483648) (hb : b < 2147483648) : Int32.ofNat a = Int32.ofNat b ↔ a = b := by
  constructor
  · intro h
    rw [← ji_n ha, ← ji_n hb, h]
  · intro h
    rw [h]
theorem ji_lep {a b : Nat} (ha : a < 2147483648) (hb : b < 2147483648) (h : a ≤ b) : Int32.ofNat a ≤ Int32.ofNat b := (ji_le ha hb).mpr h
theorem ji_len {a b : Nat} (ha : a < 2147483648) (hb : b < 2147483648) (h : ¬ a ≤ b) : ¬ Int32.ofNat a ≤ Int32.ofNat b := fun q => h ((ji_le ha hb).mp q)
theorem ji_ltp {a b : Nat} (ha : a < 2147483648) (hb : b < 2147483648) (h : a < b) : Int32.ofNat a < Int32.ofNat b := (ji_lt ha hb).mpr h
theorem ji_ltn {a b : Nat} (ha : a < 2147483648) (hb : b < 2147483648) (h : ¬ a < b) : ¬ Int32.ofNat a < Int32.ofNat b := fun q => h ((ji_lt ha hb).mp q)
theorem ji_eqp {a b : Nat} (ha : a < 2147483648) (hb : b < 2147483648) (h : a = b) : Int32.ofNat a = Int32.ofNat b := (ji_eq ha hb).mpr h
theorem ji_eqn {a b : Nat} (ha : a < 2147483648) (hb : b < 2147483648) (h : ¬ a = b) : ¬ Int32.ofNat a = Int32.ofNat b := fun q => h ((ji_eq ha hb).mp q)
theorem ji_ge0 {a : Nat} (ha : a < 2147483648) : ¬ Int32.ofNat a < 0 := by
  rw [show (0 : Int32) = Int32.ofNat 0 from rfl, ji_lt ha (by omega)]
  omega
theorem ji_0le {a : Nat} (ha : a < 2147483648) : 0 ≤ Int32.ofNat a := Int32.zero_le_ofNat_of_lt ha
theorem ji_ne1 {a : Nat} (ha : a < 2147483648) : ¬ Int32.ofNat a = -1 := by
  intro h
  have := ji_0le ha
  rw [h] at this
  exact absurd this (by decide)
theorem ji_add (a b : Nat) : Int32.ofNat a + Int32.ofNat b = Int32.ofNat (a + b) := (Int32.ofNat_add a b).symm
theorem ji_mul (a b : Nat) : Int32.ofNat a * Int32.ofNat b = Int32.ofNat (a * b) := (Int32.ofNat_mul a b).symm
theorem ji_sub {a b : Nat} (h : b ≤ a) : Int32.ofNat a - Int32.ofNat b = Int32.ofNat (a - b) := (Int32.ofNat_sub a b h).symm
theorem ji_in {a n : Nat} (ha : a < 2147483648) : jin (Int32.ofNat a) n = decide (a < n) := by
  unfold jin
  rw [ji_n ha, decide_eq_true (ji_0le ha), Bool.true_and]
theorem ji_int {a n : Nat} (ha : a < 2147483648) (h : a < n) : jin (Int32.ofNat a) n = true := by
  rw [ji_in ha, decide_eq_true h]
theorem jl_0 : (0 : Int32) = Int32.ofNat 0 := rfl
theorem jl_1 : (1 : Int32) = Int32.ofNat 1 := rfl
theorem jl_2 : (2 : Int32) = Int32.ofNat 2 := rfl
theorem jl_3 : (3 : Int32) = Int32.ofNat 3 := rfl
theorem jl_4 : (4 : Int32) = Int32.ofNat 4 := rfl
theorem jl_5 : (5 : Int32) = Int32.ofNat 5 := rfl
theorem jl_6 : (6 : Int32) = Int32.ofNat 6 := rfl
theorem jl_7 : (7 : Int32) = Int32.ofNat 7 := rfl
theorem jl_8 : (8 : Int32) = Int32.ofNat 8 := rfl
theorem jl_9 : (9 : Int32) = Int32.ofNat 9 := rfl
theorem jl_10 : (10 : Int32) = Int32.ofNat 10 := rfl
theorem jl_12 : (12 : Int32) = Int32.ofNat 12 := rfl
theorem jl_15 : (15 : Int32) = Int32.ofNat 15 := rfl
theorem jl_20 : (20 : Int32) = Int32.ofNat 20 := rfl
theorem jl_32 : (32 : Int32) = Int32.ofNat 32 := rfl
theorem jl_40 : (40 : Int32) = Int32.ofNat 40 := rfl
theorem jl_48 : (48 : Int32) = Int32.ofNat 48 := rfl
theorem jl_63 : (63 : Int32) = Int32.ofNat 63 := rfl
theorem jl_64 : (64 : Int32) = Int32.ofNat 64 := rfl
theorem jl_160 : (160 : Int32) = Int32.ofNat 160 := rfl
theorem jl_255 : (255 : Int32) = Int32.ofNat 255 := rfl
theorem ji_nat {x : Int32} (h : ¬ x < 0) : ∃ n : Nat, x = Int32.ofNat n ∧ n < 2147483648 := by
  refine ⟨x.toNatClampNeg, (Int32.ofNat_toNatClampNeg x (Int32.not_lt.mp h)).symm, ?_⟩
  have := Int32.toNatClampNeg_lt x
  omega
theorem jin_nat {x : Int32} {n : Nat} (h : jin x n = true) : ∃ k : Nat, x = Int32.ofNat k ∧ k < 2147483648 ∧ k < n := by
  unfold jin at h
  rw [Bool.and_eq_true, decide_eq_true_eq, decide_eq_true_eq] at h
  obtain ⟨k, e, hk⟩ := ji_nat (Int32.not_lt.mpr h.1)
  subst e
  rw [ji_n hk] at h
  exact ⟨k, rfl, hk, h.2⟩
theorem jin_neg {x : Int32} {n : Nat} (h : x < 0) : jin x n = false := by
  unfold jin
  rw [decide_eq_false (Int32.not_le.mpr h), Bool.false_and]
/-! words: bits and fours of bits -/
def jnb (x : Int32) (a : Nat) : Nat := (x.toUInt32.toNat >>> (4 * a)) % 16
theorem jnb_lt (x : Int32) (a : Nat) : jnb x a < 16 := Nat.mod_lt _ (by omega)
theorem jtn_or (x y : Int32) : (x ||| y).toUInt32.toNat = x.toUInt32.toNat ||| y.toUInt32.toNat := by
  rw [Int32.toUInt32_or, UInt32.toNat_or]
theorem jtn_and (x y : Int32) : (x &&& y).toUInt32.toNat = x.toUInt32.toNat &&& y.toUInt32.toNat := by
  rw [Int32.toUInt32_and, UInt32.toNat_and]
theorem jtn_xor (x y : Int32) : (x ^^^ y).toUInt32.toNat = x.toUInt32.toNat ^^^ y.toUInt32.toNat := by
  rw [Int32.toUInt32_xor, UInt32.toNat_xor]
theorem jtn_inj {x y : Int32} (h : x.toUInt32.toNat = y.toUInt32.toNat) : x = y := by
  have e := UInt32.toNat_inj.mp h
  rw [← Int32.toInt32_toUInt32 x, ← Int32.toInt32_toUInt32 y, e]
theorem jtn_lt (x : Int32) : x.toUInt32.toNat < 4294967296 := UInt32.toNat_lt _
theorem jtn_of {n : Nat} (h : n < 4294967296) : (Int32.ofNat n).toUInt32.toNat = n := by
  rw [Int32.toUInt32_ofNat', UInt32.toNat_ofNat']
  exact Nat.mod_eq_of_lt h
theorem jtn_nat (x : Int32) : Int32.ofNat x.toUInt32.toNat = x := jtn_inj (jtn_of (jtn_lt x))
theorem jnb_or (x y : Int32) (a : Nat) : jnb (x ||| y) a = jnb x a ||| jnb y a := by
  unfold jnb
  rw [jtn_or, Nat.shiftRight_or_distrib, show 16 = 2 ^ 4 from rfl, Nat.or_mod_two_pow]
theorem jnb_and (x y : Int32) (a : Nat) : jnb (x &&& y) a = jnb x a &&& jnb y a := by
  unfold jnb
  rw [jtn_and, Nat.shiftRight_and_distrib, show 16 = 2 ^ 4 from rfl, Nat.and_mod_two_pow]
theorem jnb_xor (x y : Int32) (a : Nat) : jnb (x ^^^ y) a = jnb x a ^^^ jnb y a := by
  unfold jnb
  rw [jtn_xor, Nat.shiftRight_xor_distrib, show 16 = 2 ^ 4 from rfl, Nat.xor_mod_two_pow]
theorem jnb_0 (a : Nat) : jnb 0 a = 0 := by
  show (0 >>> (4 * a)) % 16 = 0
  rw [Nat.zero_shiftRight]
theorem jnb_ext {x y : Int32} (h : ∀ a, a < 8 → jnb x a = jnb y a) : x = y := by
  apply jtn_inj
  apply Nat.eq_of_testBit_eq
  intro i
  by_cases hi : i < 32
  · have e := h (i / 4) (by omega)
    unfold jnb at e
    rw [show 16 = 2 ^ 4 from rfl] at e
    have e2 := congrArg (fun n => n.testBit (i % 4)) e
    simp only [Nat.testBit_mod_two_pow, Nat.testBit_shiftRight] at e2
    rw [show 4 * (i / 4) + i % 4 = i by omega, decide_eq_true (show i % 4 < 4 by omega), Bool.true_and, Bool.true_and] at e2
    exact e2
  · have e : 2 ^ 32 ≤ 2 ^ i := Nat.pow_le_pow_right (by omega) (by omega)
    rw [Nat.testBit_lt_two_pow (Nat.lt_of_lt_of_le (jtn_lt x) e), Nat.testBit_lt_two_pow (Nat.lt_of_lt_of_le (jtn_lt y) e)]
theorem jushr_tn {x : Int32} {k : Nat} (hk : k < 32) : (jushr x (Int32.ofNat k)).toUInt32.toNat = x.toUInt32.toNat >>> k := by
  unfold jushr
  rw [UInt32.toUInt32_toInt32, UInt32.toNat_shiftRight, UInt32.toNat_and, jtn_of (by omega), show (Int32.toUInt32 31).toNat = 2 ^ 5 - 1 from rfl, Nat.and_two_pow_sub_one_eq_mod]
  congr 1
  omega
theorem jnb_at {x : Int32} {a : Nat} (ha : a < 8) : (jushr x (Int32.ofNat (4 * a))) &&& (15 : Int32) = Int32.ofNat (jnb x a) := by
  apply jtn_inj
  rw [jtn_and, jushr_tn (by omega), jtn_of (by have := jnb_lt x a; omega), show (15 : Int32).toUInt32.toNat = 2 ^ 4 - 1 from rfl, Nat.and_two_pow_sub_one_eq_mod]
  rfl
/-- a set as a word -/
def jbt (x : Int32) (i : Nat) : Bool := x.toUInt32.toNat.testBit i
theorem jbt_at {x : Int32} {i : Nat} (hi : i < 32) : (jushr x (Int32.ofNat i)) &&& (1 : Int32) = jbi (jbt x i) := by
  apply jtn_inj
  rw [jtn_and, jushr_tn hi, show (1 : Int32).toUInt32.toNat = 2 ^ 1 - 1 from rfl, Nat.and_two_pow_sub_one_eq_mod]
  unfold jbt
  rw [Nat.testBit_eq_decide_div_mod_eq, Nat.shiftRight_eq_div_pow]
  rcases Nat.mod_two_eq_zero_or_one (x.toUInt32.toNat / 2 ^ i) with h | h
  · rw [h]; rfl
  · rw [h]; rfl
theorem jbt_of {n i : Nat} (h : n < 4294967296) : jbt (Int32.ofNat n) i = n.testBit i := by
  unfold jbt
  rw [jtn_of h]
theorem jbt_or (x y : Int32) (i : Nat) : jbt (x ||| y) i = (jbt x i || jbt y i) := by
  unfold jbt
  rw [jtn_or, Nat.testBit_or]
theorem jbt_and (x y : Int32) (i : Nat) : jbt (x &&& y) i = (jbt x i && jbt y i) := by
  unfold jbt
  rw [jtn_and, Nat.testBit_and]
theorem jbt_ext {x y : Int32} (h : ∀ i, i < 32 → jbt x i = jbt y i) : x = y := by
  apply jtn_inj
  apply Nat.eq_of_testBit_eq
  intro i
  by_cases hi : i < 32
  · exact h i hi
  · have e : 2 ^ 32 ≤ 2 ^ i := Nat.pow_le_pow_right (by omega) (by omega)
    rw [Nat.testBit_lt_two_pow (Nat.lt_of_lt_of_le (jtn_lt x) e), Nat.testBit_lt_two_pow (Nat.lt_of_lt_of_le (jtn_lt y) e)]
theorem jshl_1 {i : Nat} (hi : i < 31) : jshl (1 : Int32) (Int32.ofNat i) = Int32.ofNat (2 ^ i) := by
  have : ∀ i : Fin 31, jshl (1 : Int32) (Int32.ofNat i.1) = Int32.ofNat (2 ^ i.1) := by decide +kernel
  exact this ⟨i, hi⟩
theorem jshl_15 {a : Nat} (ha : a < 6) : jshl (15 : Int32) (Int32.ofNat (4 * a)) = Int32.ofNat (15 * 16 ^ a) := by
  have : ∀ a : Fin 6, jshl (15 : Int32) (Int32.ofNat (4 * a.1)) = Int32.ofNat (15 * 16 ^ a.1) := by decide +kernel
  exact this ⟨a, ha⟩
theorem jshl_v {a v : Nat} (ha : a < 6) (hv : v < 10) : jshl (Int32.ofNat v) (Int32.ofNat (4 * a)) = Int32.ofNat (v * 16 ^ a) := by
  have : ∀ a : Fin 6, ∀ v : Fin 10, jshl (Int32.ofNat v.1) (Int32.ofNat (4 * a.1)) = Int32.ofNat (v.1 * 16 ^ a.1) := by decide +kernel
  exact this ⟨a, ha⟩ ⟨v, hv⟩
/-- how many bits -/
def jpop : Nat → Nat → Nat
  | 0, _ => 0
  | n + 1, x => x % 2 + jpop n (x / 2)
theorem jbitCount {F : Nat} {m : jMe} {n : Nat} (h : n < 256) : c_J6_bitCount_0f7a4 F m (Int32.ofNat n) = some (Int32.ofNat (jpop 8 n)) := by
  have : ∀ n : Fin 256, c_J6_bitCount_0f7a4 0 (0, 0, fun _ => 0, fun _ => 0, fun _ _ => 0, fun _ _ => 0, fun _ _ => 0) (Int32.ofNat n.1) = some (Int32.ofNat (jpop 8 n.1)) := by decide +kernel
  exact this ⟨n, h⟩
theorem jpop_le (n x : Nat) : jpop n x ≤ n := by
  induction n generalizing x with
  | zero => exact Nat.le_refl _
  | succ n ih =>
    have := ih (x / 2)
    unfold jpop
    omega
/-- a set as a word, asked for a number -/
theorem q_isIn {F : Nat} {m : jMe} {s i : Nat} (hi : i < 32) (hs : s < 4294967296) : c_X9_isIn F m (Int32.ofNat s) (Int32.ofNat i) = some (jbi (s.testBit i)) := by
  unfold c_X9_isIn
  rw [if_neg (ji_ge0 (by omega)), jl_32, if_neg (ji_len (by omega) (by omega) (by omega)), jbt_at hi, jbt_of hs]
  cases s.testBit i <;> rfl
theorem q_isIn' {F : Nat} {m : jMe} {x : Int32} {i : Nat} (hi : i < 32) : c_X9_isIn F m x (Int32.ofNat i) = some (jbi (jbt x i)) := by
  unfold c_X9_isIn
  rw [if_neg (ji_ge0 (by omega)), jl_32, if_neg (ji_len (by omega) (by omega) (by omega)), jbt_at hi]
  cases jbt x i <;> rfl
