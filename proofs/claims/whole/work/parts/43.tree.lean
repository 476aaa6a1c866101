/-! the tree, as the class grows it -/
theorem ji_or {x y : Nat} (hx : x < 4294967296) (hy : y < 4294967296) : Int32.ofNat x ||| Int32.ofNat y = Int32.ofNat (x ||| y) := by
  apply jtn_inj
  rw [jtn_or, jtn_of hx, jtn_of hy, jtn_of (Nat.or_lt_two_pow (n := 32) hx hy)]
theorem ji_and {x y : Nat} (hx : x < 4294967296) (hy : y < 4294967296) : Int32.ofNat x &&& Int32.ofNat y = Int32.ofNat (x &&& y) := by
  apply jtn_inj
  rw [jtn_and, jtn_of hx, jtn_of hy, jtn_of (Nat.lt_of_le_of_lt Nat.and_le_left hx)]
theorem ji_less {x y : Nat} (hx : x < 64) (hy : y < 64) : (Int32.ofNat x &&& (Int32.ofNat y ^^^ (-1 : Int32)) = 0) ↔ x &&& (63 ^^^ y) = 0 := by
  have : ∀ x : Fin 64, ∀ y : Fin 64, (Int32.ofNat x.1 &&& (Int32.ofNat y.1 ^^^ (-1 : Int32)) = 0) ↔ x.1 &&& (63 ^^^ y.1) = 0 := by decide +kernel
  exact this ⟨x, hx⟩ ⟨y, hy⟩
theorem jbt_1 {s i : Nat} (hs : s < 4294967296) (hi : i < 32) : ((jushr (Int32.ofNat s) (Int32.ofNat i)) &&& (1 : Int32)) = (1 : Int32) ↔ s.testBit i = true := by
  rw [jbt_at hi, jbt_of hs, jbi_1]
/-- attributes that any other of a set has -/
def joth (A : Nat → Nat) (s r : Nat) : Nat → Nat → Nat → Nat
  | 0, _, x => x
  | t + 1, a, x => joth A s r t (a + 1) (x ||| if a ≠ r ∧ s.testBit a = true then A a else 0)
def jstf (A : Nat → Nat) (s r x : Nat) : Nat → Nat → Option Nat
  | 0, _ => none
  | t + 1, a => if a ≠ r ∧ s.testBit a = true ∧ x &&& (63 ^^^ A a) = 0 then some a else jstf A s r x t (a + 1)
def jstem (A : Nat → Nat) (s r : Nat) : Option Nat := jstf A s r (A r &&& joth A s r 4 0 0) 4 0
def jfef (A : Nat → Nat) (s : Nat) : Nat → Nat → Option Nat
  | 0, _ => none
  | t + 1, a => if s.testBit a = true ∧ (jstem A s a).isSome = true then some a else jfef A s t (a + 1)
def jfear (A : Nat → Nat) (s : Nat) : Option Nat := jfef A s 4 0
/-- what is taken out, with its parents; what is left -/
def jplant (A : Nat → Nat) : Nat → Nat → Option (List (Nat × Nat) × Nat)
  | 0, s => some ([], s)
  | t + 1, s => if jpop 8 s ≤ 1 then some ([], s) else match jfear A s with
    | none => none
    | some r => match jstem A s r with
      | none => none
      | some q => match jplant A t (jclr s r) with
        | none => none
        | some p => some ((r, q) :: p.1, p.2)
theorem joth_lt {A : Nat → Nat} (hA : ∀ q, q < 4 → A q < 64) {s r : Nat} : ∀ (t a x : Nat), a + t = 4 → x < 64 → joth A s r t a x < 64 := by
  intro t
  induction t with
  | zero => intro a x _ hx; exact hx
  | succ t ih =>
    intro a x h hx
    unfold joth
    refine ih (a + 1) _ (by omega) ?_
    refine Nat.or_lt_two_pow (n := 6) hx ?_
    split
    · exact hA a (by omega)
    · decide
section TREE
variable {m : jMe} {F b ca s r : Nat} {A : Nat → Nat}
theorem q_stemOf_l5 (hb : jK m b = 40) (hp : jP m b 3 = ca) (hc : jK m ca = 1) (hz : jZ m ca = 4) (hA : ∀ q, q < 4 → A q < 64) (hm : ∀ q, q < 4 → s.testBit q = true → jI m ca q = Int32.ofNat (A q)) (hs : s < 16) (hr : r < 4) : ∀ (t a x g : Nat), a + t = 4 → t < g → x < 64 → c_X8_stemOf_l5 F m g b (Int32.ofNat s) (Int32.ofNat r) (Int32.ofNat x) (Int32.ofNat a) = some (b, Int32.ofNat s, Int32.ofNat r, Int32.ofNat (joth A s r t a x)) := by
  intro t
  induction t with
  | zero =>
    intro a x g h1 h2 h3
    obtain ⟨g, rfl⟩ := jsucc h2
    show c_X8_stemOf_l5_b F _ m _ _ _ _ _ = _
    unfold c_X8_stemOf_l5_b
    rw [jl_4, if_pos (ji_lep (by omega) (by omega) (by omega))]
    rfl
  | succ t ih =>
    intro a x g h1 h2 h3
    obtain ⟨g, rfl⟩ := jsucc h2
    show c_X8_stemOf_l5_b F _ m _ _ _ _ _ = _
    unfold c_X8_stemOf_l5_b
    have ha := hA a (by omega)
    rw [jl_4, if_neg (ji_len (by omega) (by omega) (by omega)), hp, hz, jgd_t hb, jgd_t hc, jgd_t (ji_int (by omega) (by omega)), ji_n (by omega), show (0 : Int32) = Int32.ofNat 0 from rfl, ji_or (by omega) (by omega)]
    unfold joth
    by_cases e : a = r
    · rw [if_pos (by rw [e]), if_neg (fun h => h.1 e), jl_1, ji_add]
      exact ih (a + 1) (x ||| 0) g (by omega) (by omega) (Nat.or_lt_two_pow (n := 6) h3 (by omega))
    · rw [if_neg (ji_eqn (by omega) (by omega) e)]
      by_cases q : s.testBit a = true
      · rw [if_pos ((jbt_1 (by omega) (by omega)).mpr q), if_pos ⟨e, q⟩, hm a (by omega) q, ji_or (by omega) (by omega), jl_1, ji_add]
        exact ih (a + 1) (x ||| A a) g (by omega) (by omega) (Nat.or_lt_two_pow (n := 6) h3 ha)
      · rw [if_neg (fun h => q ((jbt_1 (by omega) (by omega)).mp h)), if_neg (fun h => q h.2), jl_1, ji_add]
        exact ih (a + 1) (x ||| 0) g (by omega) (by omega) (Nat.or_lt_two_pow (n := 6) h3 (by omega))
theorem q_stemOf_l60 (hb : jK m b = 40) (hp : jP m b 3 = ca) (hc : jK m ca = 1) (hz : jZ m ca = 4) (hA : ∀ q, q < 4 → A q < 64) (hm : ∀ q, q < 4 → s.testBit q = true → jI m ca q = Int32.ofNat (A q)) (hs : s < 16) (hr : r < 4) {x : Nat} (hx : x < 64) : ∀ (t a g : Nat), a + t = 4 → t < g → c_X8_stemOf_l60 F m g b (Int32.ofNat s) (Int32.ofNat r) (Int32.ofNat x) (Int32.ofNat a) = some (match jstf A s r x t a with | none => .inr () | some q => .inl (Int32.ofNat q)) := by
  intro t
  induction t with
  | zero =>
    intro a g h1 h2
    obtain ⟨g, rfl⟩ := jsucc h2
    show c_X8_stemOf_l60_b F _ m _ _ _ _ _ = _
    unfold c_X8_stemOf_l60_b
    rw [jl_4, if_pos (ji_lep (by omega) (by omega) (by omega))]
    rfl
  | succ t ih =>
    intro a g h1 h2
    obtain ⟨g, rfl⟩ := jsucc h2
    show c_X8_stemOf_l60_b F _ m _ _ _ _ _ = _
    unfold c_X8_stemOf_l60_b
    have ha := hA a (by omega)
    rw [jl_4, if_neg (ji_len (by omega) (by omega) (by omega)), hp, hz, jgd_t hb, jgd_t hc, jgd_t (ji_int (by omega) (by omega)), ji_n (by omega)]
    have ih := ih (a + 1) g (by omega) (by omega)
    rw [show Int32.ofNat (a + 1) = Int32.ofNat a + 1 from (ji_add a 1).symm] at ih
    unfold jstf
    by_cases e : a = r
    · rw [if_pos (by rw [e]), if_neg (fun h => h.1 e)]
      exact ih
    · rw [if_neg (ji_eqn (by omega) (by omega) e)]
      by_cases q : s.testBit a = true
      · rw [if_pos ((jbt_1 (by omega) (by omega)).mpr q), hm a (by omega) q]
        by_cases z : x &&& (63 ^^^ A a) = 0
        · rw [if_pos ((ji_less hx ha).mpr z), if_pos ⟨e, q, z⟩]
        · rw [if_neg (fun h => z ((ji_less hx ha).mp h)), if_neg (fun h => z h.2.2)]
          exact ih
      · rw [if_neg (fun h => q ((jbt_1 (by omega) (by omega)).mp h)), if_neg (fun h => q h.2.1)]
        exact ih
theorem q_stemOf (hF : 100 < F) (hb : jK m b = 40) (hp : jP m b 3 = ca) (hc : jK m ca = 1) (hz : jZ m ca = 4) (hA : ∀ q, q < 4 → A q < 64) (hm : ∀ q, q < 4 → s.testBit q = true → jI m ca q = Int32.ofNat (A q)) (hs : s < 16) (hr : r < 4) (hrs : s.testBit r = true) : c_X8_stemOf F m b (Int32.ofNat s) (Int32.ofNat r) = some (jo1 (jstem A s r)) := by
  unfold c_X8_stemOf
  have hj := joth_lt hA (s := s) (r := r) 4 0 0 (by omega) (by omega)
  have hAr := hA r hr
  rw [show (0 : Int32) = Int32.ofNat 0 from rfl, q_stemOf_l5 hb hp hc hz hA hm hs hr 4 0 0 F (by omega) (by omega) (by omega), jb_some]
  show jgd (jK m b = 40) _ = _
  rw [jgd_t hb]
  show jgd (jK m (jP m b 3) = 1) (jgd (jin (Int32.ofNat r) (jZ m (jP m b 3)) = true) (jb2 (c_X8_stemOf_l60 F m F b (Int32.ofNat s) (Int32.ofNat r) (jI m (jP m b 3) (Int32.ofNat r).toNatClampNeg &&& Int32.ofNat (joth A s r 4 0 0)) (Int32.ofNat 0)) _ _)) = _
  rw [hp, hz, jgd_t hc, jgd_t (ji_int (by omega) hr), ji_n (by omega), hm r hr hrs, ji_and (by omega) (by omega), q_stemOf_l60 hb hp hc hz hA hm hs hr (Nat.lt_of_le_of_lt Nat.and_le_left hAr) 4 0 F (by omega) (by omega)]
  unfold jstem
  cases jstf A s r (A r &&& joth A s r 4 0 0) 4 0 <;> rfl
theorem jo1_ne {o : Option Nat} (h : ∀ a, o = some a → a < 2147483648) : jo1 o = -1 ↔ o = none := by
  cases o with
  | none => simp [jo1]
  | some a => simp [jo1, ji_ne1 (h a rfl)]
theorem jstf_in {x : Nat} : ∀ {t a q : Nat}, jstf A s r x t a = some q → a ≤ q ∧ q < a + t ∧ q ≠ r ∧ s.testBit q = true ∧ x &&& (63 ^^^ A q) = 0 := by
  intro t
  induction t with
  | zero => intro a q h; cases h
  | succ t ih =>
    intro a q h
    unfold jstf at h
    split at h
    · cases h
      rename_i h1
      exact ⟨Nat.le_refl _, by omega, h1⟩
    · have := ih h
      exact ⟨by omega, by omega, this.2.2⟩
theorem jfef_in : ∀ {t a q : Nat}, jfef A s t a = some q → a ≤ q ∧ q < a + t ∧ s.testBit q = true ∧ (jstem A s q).isSome = true := by
  intro t
  induction t with
  | zero => intro a q h; cases h
  | succ t ih =>
    intro a q h
    unfold jfef at h
    split at h
    · cases h
      rename_i h1
      exact ⟨Nat.le_refl _, by omega, h1⟩
    · have := ih h
      exact ⟨by omega, by omega, this.2.2⟩
theorem q_firstEar_l2 (hF : 100 < F) (hb : jK m b = 40) (hp : jP m b 3 = ca) (hc : jK m ca = 1) (hz : jZ m ca = 4) (hA : ∀ q, q < 4 → A q < 64) (hm : ∀ q, q < 4 → s.testBit q = true → jI m ca q = Int32.ofNat (A q)) (hs : s < 16) : ∀ (t a g : Nat), a + t = 4 → t < g → c_X8_firstEar_l2 F m g b (Int32.ofNat s) (Int32.ofNat a) = some (match jfef A s t a with | none => .inr () | some q => .inl (Int32.ofNat q)) := by
  intro t
  induction t with
  | zero =>
    intro a g h1 h2
    obtain ⟨g, rfl⟩ := jsucc h2
    show c_X8_firstEar_l2_b F _ m _ _ _ = _
    unfold c_X8_firstEar_l2_b
    rw [jl_4, if_pos (ji_lep (by omega) (by omega) (by omega))]
    rfl
  | succ t ih =>
    intro a g h1 h2
    obtain ⟨g, rfl⟩ := jsucc h2
    show c_X8_firstEar_l2_b F _ m _ _ _ = _
    unfold c_X8_firstEar_l2_b
    have ih := ih (a + 1) g (by omega) (by omega)
    rw [show Int32.ofNat (a + 1) = Int32.ofNat a + 1 from (ji_add a 1).symm] at ih
    rw [jl_4, if_neg (ji_len (by omega) (by omega) (by omega)), q_isIn (by omega) (by omega), jb_some, jgd_t hb]
    unfold jfef
    cases e : s.testBit a with
    | false =>
      rw [if_pos (by decide), if_neg (by simp)]
      exact ih
    | true =>
      rw [if_neg (by decide), q_stemOf hF hb hp hc hz hA hm hs (by omega) e, jb_some]
      cases h : jstem A s a with
      | none =>
        rw [if_pos (show jo1 none = -1 from rfl), if_neg (by simp)]
        exact ih
      | some q =>
        have := jstf_in h
        rw [if_neg (by rw [jo1_ne (fun a h => by cases h; omega)]; simp), if_pos (by simp)]
theorem q_firstEar (hF : 100 < F) (hb : jK m b = 40) (hp : jP m b 3 = ca) (hc : jK m ca = 1) (hz : jZ m ca = 4) (hA : ∀ q, q < 4 → A q < 64) (hm : ∀ q, q < 4 → s.testBit q = true → jI m ca q = Int32.ofNat (A q)) (hs : s < 16) : c_X8_firstEar F m b (Int32.ofNat s) = some (jo1 (jfear A s)) := by
  unfold c_X8_firstEar
  rw [show (0 : Int32) = Int32.ofNat 0 from rfl, q_firstEar_l2 hF hb hp hc hz hA hm hs 4 0 F (by omega) (by omega)]
  unfold jfear
  cases jfef A s 4 0 <;> rfl
end TREE
