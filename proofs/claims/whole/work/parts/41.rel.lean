/-! the relations, as they are thought of (jD), and as the class holds them -/
abbrev jD : Type := (Nat × Nat × Nat) × (Nat → Nat) × (Nat → Nat) × (Nat → Nat) × (Nat → Nat) × (Nat → Nat → Nat → Nat) × (Nat → Nat → Nat) × (Nat → Nat → Nat → (Nat → Int32) → Int32 → Int32)
/-- how many relations -/
def jDn (D : jD) : Nat := D.1.1
/-- the rule -/
def jDr (D : jD) : Nat := D.1.2.1
/-- the query, as bits -/
def jDq (D : jD) : Nat := D.1.2.2
def jDk (D : jD) : Nat → Nat := D.2.1
/-- attributes, as bits -/
def jDa (D : jD) : Nat → Nat := D.2.2.1
/-- how many rows -/
def jDz (D : jD) : Nat → Nat := D.2.2.2.1
/-- live rows, as bits -/
def jDl (D : jD) : Nat → Nat := D.2.2.2.2.1
def jDv (D : jD) : Nat → Nat → Nat → Nat := D.2.2.2.2.2.1
def jDc (D : jD) : Nat → Nat → Nat := D.2.2.2.2.2.2.1
/-- what a text tells -/
def jDt (D : jD) : Nat → Nat → Nat → (Nat → Int32) → Int32 → Int32 := D.2.2.2.2.2.2.2
/-- a value, as it is told -/
def jDw (D : jD) (r k a : Nat) : Int32 := if (jDa D r).testBit a then Int32.ofNat (jDv D r k a) else -1
/-- what holds of one relation -/
def jDR (D : jD) (r : Nat) : Prop := jDk D r < 6 ∧ jDa D r < 64 ∧ jDz D r ≤ 8 ∧ jDl D r < 2 ^ jDz D r ∧ (∀ k, k < jDz D r → (∀ a, jDv D r k a < 10) ∧ (∀ a, (jDa D r).testBit a = false → jDv D r k a = 0) ∧ 1 ≤ jDc D r k ∧ jDc D r k ≤ 2000000000)
/-- cells of a relation -/
def jrc (r : Nat) : Nat := 77 + 3 * r
def jrv (r : Nat) : Nat := 78 + 3 * r
def jrk (r : Nat) : Nat := 79 + 3 * r
abbrev jLr (m : jMe) (r : Nat) : Prop := jK m (jrc r) = 36 ∧ jP m (jrc r) 0 = jrv r ∧ jP m (jrc r) 1 = jrk r ∧ jK m (jrv r) = 1 ∧ jZ m (jrv r) = 8 ∧ jK m (jrk r) = 1 ∧ jZ m (jrk r) = 8
abbrev jLs (m : jMe) : Prop := jK m 1 = 9 ∧ jZ m 1 = 6 ∧ (∀ j, j < 6 → jI m 1 j = jISv j)
def jCr (D : jD) (m : jMe) (r : Nat) : Prop := jI m (jrc r) 2 = Int32.ofNat (jDk D r) ∧ jI m (jrc r) 3 = Int32.ofNat (jDa D r) ∧ (∀ a, a < 8 → jnb (jI m (jrc r) 4) a = if (jDa D r).testBit a then 15 else 0) ∧ jI m (jrc r) 5 = Int32.ofNat (jDz D r) ∧ jI m (jrc r) 6 = Int32.ofNat (jDl D r) ∧ (∀ k, k < jDz D r → (∀ a, a < 8 → jnb (jI m (jrv r) k) a = jDv D r k a) ∧ jI m (jrk r) k = Int32.ofNat (jDc D r k))
def jisN (k : Nat) : Nat := [1, 3, 5, 11, 21, 43].getD k 0
def jisa (kd k : Nat) : Bool := (jisN kd).testBit k
/-- the n-th number of a set, from a on, t places -/
def jatg (s : Nat) : Nat → Nat → Nat → Option Nat
  | 0, _, _ => none
  | t + 1, a, n => if s.testBit a then (match n with | 0 => some a | n + 1 => jatg s t (a + 1) n) else jatg s t (a + 1) n
def jatt (s n : Nat) : Option Nat := jatg s 6 0 n
def jo1 (o : Option Nat) : Int32 := match o with | some a => Int32.ofNat a | none => -1
/-- values by the attributes from a on, t places, the first being the i-th -/
def jpkd (s : Nat) (u : Nat → Int32) : Nat → Nat → Nat → Option (Nat → Nat)
  | 0, _, _ => some (fun _ => 0)
  | t + 1, a, i => if s.testBit a then (if jin (u i) 10 = true then (match jpkd s u t (a + 1) (i + 1) with | none => none | some f => some (fun b => if b = a then (u i).toNatClampNeg else f b)) else none) else jpkd s u t (a + 1) i
def jxyz (x y z : Int32) : Nat → Int32 := fun i => if i = 0 then x else if i = 1 then y else z
/-- whether two rows are alike; whether a new one is refused -/
def jalk (D : jD) (r k : Nat) (f : Nat → Nat) : Bool := (List.range 6).all fun a => jDv D r k a == f a
def jrf (D : jD) (r k : Nat) (f : Nat → Nat) : Bool := (jisa (jDk D r) 1 && jalk D r k f) || (jisa (jDk D r) 3 && (match jatt (jDa D r) 0 with | none => true | some a => jDv D r k a == f a))
def jtk (D : jD) (r : Nat) (f : Nat → Nat) : Bool := (List.range (jDz D r)).all fun k => !((jDl D r).testBit k && jrf D r k f)
def jwth (D : jD) (r k : Nat) : Nat := if jDk D r = 4 then min (jDc D r k) 9 else if jDk D r = 5 then 2 * jDc D r k else jDc D r k
/-- a row matches what is given, as far as attributes S are given -/
def jmg (D : jD) (r k : Nat) (S : Nat → Bool) (g : Nat → Nat) : Bool := (List.range 6).all fun a => !((jDa D r).testBit a && S a) || jDv D r k a == g a
theorem jp2 {i j : Nat} (h : i ≤ j) : 2 ^ i ≤ 2 ^ j := Nat.pow_le_pow_right (by omega) h
theorem jset_or {s k : Nat} (hs : s < 256) (hk : k < 8) : Int32.ofNat s ||| jshl (1 : Int32) (Int32.ofNat k) = Int32.ofNat (s ||| 2 ^ k) := by
  have : ∀ s : Fin 256, ∀ k : Fin 8, Int32.ofNat s.1 ||| jshl (1 : Int32) (Int32.ofNat k.1) = Int32.ofNat (s.1 ||| 2 ^ k.1) := by decide +kernel
  exact this ⟨s, hs⟩ ⟨k, hk⟩
def jclr (s k : Nat) : Nat := s &&& (255 ^^^ 2 ^ k)
theorem jset_clr {s k : Nat} (hs : s < 256) (hk : k < 8) : Int32.ofNat s &&& (jshl (1 : Int32) (Int32.ofNat k) ^^^ (-1 : Int32)) = Int32.ofNat (jclr s k) := by
  have : ∀ s : Fin 256, ∀ k : Fin 8, Int32.ofNat s.1 &&& (jshl (1 : Int32) (Int32.ofNat k.1) ^^^ (-1 : Int32)) = Int32.ofNat (jclr s.1 k.1) := by decide +kernel
  exact this ⟨s, hs⟩ ⟨k, hk⟩
theorem jsucc {n f : Nat} (h : n < f) : ∃ g, f = g + 1 := ⟨f - 1, by omega⟩
section REL
variable {D : jD} {m : jMe} {r F : Nat}
theorem jl_bits {D : jD} {r k : Nat} (h : jDR D r) (hk : jDz D r ≤ k) : (jDl D r).testBit k = false :=
  Nat.testBit_lt_two_pow (Nat.lt_of_lt_of_le h.2.2.2.1 (Nat.pow_le_pow_right (by omega) hk))
theorem jl_lt {D : jD} {r : Nat} (h : jDR D r) : jDl D r < 256 :=
  Nat.lt_of_lt_of_le h.2.2.2.1 (jp2 h.2.2.1)
theorem q_has (hL : jLr m r) (hD : jDR D r) (hC : jCr D m r) {x : Int32} : c_X4_has F m (jrc r) x = some (jbi (jin x (jDz D r))) := by
  unfold c_X4_has
  have hz := hD.2.2.1
  by_cases hx : x < 0
  · rw [if_pos hx, jin_neg hx]
    rfl
  · obtain ⟨k, rfl, hk⟩ := ji_nat hx
    rw [if_neg hx, jgd_t hL.1, hC.2.2.2.1, ji_in hk]
    by_cases q : jDz D r ≤ k
    · rw [if_pos (ji_lep (by omega) hk q), decide_eq_false (by omega)]
      rfl
    · rw [if_neg (ji_len (by omega) hk q), decide_eq_true (by omega)]
      rfl
theorem q_isLive (hL : jLr m r) (hD : jDR D r) (hC : jCr D m r) {k : Nat} (hk : k < 2147483648) : c_X4_isLive F m (jrc r) (Int32.ofNat k) = some (jbi ((jDl D r).testBit k)) := by
  unfold c_X4_isLive
  have hz := hD.2.2.1
  have hl := jl_lt hD
  rw [jgd_t hL.1, q_has hL hD hC, jb_some, ji_in hk]
  by_cases q : k < jDz D r
  · rw [decide_eq_true q, if_neg (by decide), hC.2.2.2.2.1, q_isIn (by omega) (by omega), jb_some]
    cases (jDl D r).testBit k <;> rfl
  · rw [decide_eq_false q, if_pos (by decide), jl_bits hD (by omega)]
    rfl
theorem q_valueAt (hL : jLr m r) (hC : jCr D m r) {w : Int32} {a : Nat} (ha : a < 6) : c_X4_valueAt F m (jrc r) w (Int32.ofNat a) = some (if (jDa D r).testBit a then Int32.ofNat (jnb w a) else -1) := by
  unfold c_X4_valueAt c_X4_valueAt_j29
  rw [if_neg (ji_ge0 (by omega)), jl_6, if_neg (ji_len (by omega) (by omega) (by omega)), jgd_t hL.1, jl_4, ji_mul, jnb_at (by omega), jnb_at (by omega), hC.2.2.1 a (by omega)]
  cases (jDa D r).testBit a <;> rfl
theorem q_valueAt1 {w : Int32} {b : Nat} : c_X4_valueAt F m b w (-1) = some (-1) := by
  unfold c_X4_valueAt c_X4_valueAt_j29
  rw [if_pos (by decide), if_pos rfl]
theorem q_isA (hL : jLr m r) (hS : jLs m) (hD : jDR D r) (hC : jCr D m r) {k : Nat} (hk : k < 32) : c_X4_isA F m (jrc r) (Int32.ofNat k) = some (jbi (jisa (jDk D r) k)) := by
  unfold c_X4_isA
  have h6 := hD.1
  have e : ∀ j, j < 6 → jISv j = Int32.ofNat (jisN j) ∧ jisN j < 64 := by decide +kernel
  have e2 := (e _ h6).2
  rw [jgd_t hL.1, jgd_t hS.1, hS.2.1, hC.1, if_neg (ji_len (by omega) (by omega) (by omega)), jgd_t (ji_int (by omega) h6), ji_n (by omega), hS.2.2 _ h6, (e _ h6).1, q_isIn hk (by omega), jb_some]
  unfold jisa
  cases (jisN (jDk D r)).testBit k <;> rfl
theorem q_letsGo (hL : jLr m r) (hS : jLs m) (hD : jDR D r) (hC : jCr D m r) : c_X4_letsGo F m (jrc r) = some (jbi (!jisa (jDk D r) 2)) := by
  unfold c_X4_letsGo
  rw [jgd_t hL.1, jl_2, q_isA hL hS hD hC (by omega), jb_some]
  cases jisa (jDk D r) 2 <;> rfl
theorem q_attributeAt_l4 (hL : jLr m r) (hD : jDR D r) (hC : jCr D m r) : ∀ (t a d i f : Nat), a + t = 6 → t < f → i + d < 20 → c_X4_attributeAt_l4 F m f (jrc r) (Int32.ofNat (i + d)) (Int32.ofNat i) (Int32.ofNat a) = some (match jatg (jDa D r) t a d with | none => .inr () | some a => .inl (Int32.ofNat a)) := by
  have h64 := hD.2.1
  intro t
  induction t with
  | zero =>
    intro a d i f h1 h2 h3
    obtain ⟨g, rfl⟩ := jsucc h2
    show c_X4_attributeAt_l4_b F _ m _ _ _ _ = _
    unfold c_X4_attributeAt_l4_b
    rw [jl_6, if_pos (ji_lep (by omega) (by omega) (by omega))]
    rfl
  | succ t ih =>
    intro a d i f h1 h2 h3
    obtain ⟨g, rfl⟩ := jsucc h2
    show c_X4_attributeAt_l4_b F _ m _ _ _ _ = _
    unfold c_X4_attributeAt_l4_b
    rw [jl_6, if_neg (ji_len (by omega) (by omega) (by omega)), jgd_t hL.1, hC.2.1, q_isIn (by omega) (by omega), jb_some, jl_1, ji_add, ji_add]
    unfold jatg
    cases (jDa D r).testBit a with
    | false =>
      rw [if_pos (by decide)]
      exact ih (a + 1) d i g (by omega) (by omega) h3
    | true =>
      rw [if_neg (by decide)]
      cases d with
      | zero =>
        rw [if_pos (show Int32.ofNat i = Int32.ofNat (i + 0) from rfl)]
        rfl
      | succ d =>
        rw [if_neg (ji_eqn (by omega) (by omega) (by omega))]
        have := ih (a + 1) d (i + 1) g (by omega) (by omega) (by omega)
        rw [show i + (d + 1) = i + 1 + d by omega]
        exact this
theorem q_attributeAt (hL : jLr m r) (hD : jDR D r) (hC : jCr D m r) (hF : 100 < F) {d : Nat} (hd : d < 10) : c_X4_attributeAt F m (jrc r) (Int32.ofNat d) = some (jo1 (jatt (jDa D r) d)) := by
  unfold c_X4_attributeAt
  have h := q_attributeAt_l4 (F := F) hL hD hC 6 0 d 0 F (by omega) (by omega) (by omega)
  rw [Nat.zero_add] at h
  rw [jl_0, h]
  unfold jatt
  cases jatg (jDa D r) 6 0 d <;> rfl
theorem jatg_in {s : Nat} : ∀ {t a n b : Nat}, jatg s t a n = some b → b < a + t ∧ s.testBit b = true := by
  intro t
  induction t with
  | zero => intro a n b h; cases h
  | succ t ih =>
    intro a n b h
    unfold jatg at h
    cases e : s.testBit a with
    | false =>
      rw [e] at h
      have := ih h
      exact ⟨by omega, this.2⟩
    | true =>
      rw [e] at h
      cases n with
      | zero => cases h; exact ⟨by omega, e⟩
      | succ n =>
        have := ih h
        exact ⟨by omega, this.2⟩
theorem jalk_iff {D : jD} {r k : Nat} {f : Nat → Nat} : jalk D r k f = true ↔ ∀ a, a < 6 → jDv D r k a = f a := by
  unfold jalk
  simp [List.all_eq_true]
theorem q_refuses (hL : jLr m r) (hS : jLs m) (hD : jDR D r) (hC : jCr D m r) (hF : 100 < F) {k : Nat} (hk : k < jDz D r) {w : Int32} {f : Nat → Nat} (hw : ∀ a, a < 8 → jnb w a = f a) (hf : f 6 = 0 ∧ f 7 = 0) : c_X4_refuses F m (jrc r) (jI m (jrv r) k) w = some (jbi (jrf D r k f)) := by
  unfold c_X4_refuses c_X4_refuses_j19
  have h64 := hD.2.1
  have hv := (hC.2.2.2.2.2 k hk).1
  have h0 : ∀ a, 6 ≤ a → jDv D r k a = 0 := fun a ha => (hD.2.2.2.2 k hk).2.1 a (Nat.testBit_lt_two_pow (Nat.lt_of_lt_of_le h64 (jp2 ha)))
  have he : jI m (jrv r) k = w ↔ jalk D r k f = true := by
    rw [jalk_iff]
    constructor
    · intro e a ha
      rw [← hv a (by omega), e, hw a (by omega)]
    · intro e
      refine jnb_ext (fun a ha => ?_)
      rw [hv a ha, hw a ha]
      rcases Nat.lt_or_ge a 6 with q | q
      · exact e a q
      · rw [h0 a q]
        rcases (by omega : a = 6 ∨ a = 7) with rfl | rfl
        · exact hf.1.symm
        · exact hf.2.symm
  rw [jgd_t hL.1, jl_0, q_attributeAt hL hD hC hF (by omega), jb_some, jl_1, q_isA hL hS hD hC (by omega), jb_some, jgd_t hL.1, jl_3, q_isA hL hS hD hC (by omega), jb_some]
  have hj : (if jbi (jisa (jDk D r) 3) = Int32.ofNat 0 then some (Int32.ofNat 0) else jb (c_X4_valueAt F m (jrc r) (jI m (jrv r) k) (jo1 (jatt (jDa D r) 0))) fun t12 => jb (c_X4_valueAt F m (jrc r) w (jo1 (jatt (jDa D r) 0))) fun t14 => if t12 = t14 then some (Int32.ofNat 1) else some (Int32.ofNat 0)) = some (jbi (jisa (jDk D r) 3 && (match jatt (jDa D r) 0 with | none => true | some a => jDv D r k a == f a))) := by
    cases jisa (jDk D r) 3 with
    | false => rfl
    | true =>
      rw [if_neg (by decide)]
      cases ea : jatt (jDa D r) 0 with
      | none =>
        show jb (c_X4_valueAt F m (jrc r) _ (-1)) _ = _
        rw [q_valueAt1, jb_some]
        show jb (c_X4_valueAt F m (jrc r) _ (-1)) _ = _
        rw [q_valueAt1, jb_some]
        rfl
      | some a =>
        obtain ⟨a1, a2⟩ := jatg_in ea
        show jb (c_X4_valueAt F m (jrc r) _ (Int32.ofNat a)) _ = _
        rw [q_valueAt hL hC (by omega), jb_some]
        show jb (c_X4_valueAt F m (jrc r) _ (Int32.ofNat a)) _ = _
        rw [q_valueAt hL hC (by omega), jb_some, a2, hv a (by omega), hw a (by omega), if_pos rfl, if_pos rfl]
        have g1 := (hD.2.2.2.2 k hk).1 a
        have g2 := jnb_lt w a
        rw [hw a (by omega)] at g2
        by_cases e : jDv D r k a = f a
        · rw [if_pos (by rw [e])]
          show some (Int32.ofNat 1) = some (jbi (true && (jDv D r k a == f a)))
          rw [e]
          simp [jbi]
        · rw [if_neg (ji_eqn (by omega) (by omega) e)]
          show some (Int32.ofNat 0) = some (jbi (true && (jDv D r k a == f a)))
          simp [jbi, e]
  rw [hj]
  unfold jrf
  cases jisa (jDk D r) 1 with
  | false => rfl
  | true =>
    rw [if_neg (by decide)]
    by_cases e : jI m (jrv r) k = w
    · rw [if_pos e, he.mp e]
      rfl
    · rw [if_neg e]
      have : jalk D r k f = false := by
        cases q : jalk D r k f with
        | false => rfl
        | true => exact absurd (he.mpr q) e
      rw [this]
      rfl
theorem q_takes_l2 (hL : jLr m r) (hS : jLs m) (hD : jDR D r) (hC : jCr D m r) (hF : 100 < F) {w : Int32} {f : Nat → Nat} (hw : ∀ a, a < 8 → jnb w a = f a) (hf : f 6 = 0 ∧ f 7 = 0) : ∀ (t k g : Nat), k + t = jDz D r → t < g → c_X4_takes_l2 F m g (jrc r) w (Int32.ofNat k) = some (if (List.range' k t).all (fun k => !((jDl D r).testBit k && jrf D r k f)) then .inr () else .inl (0 : Int32)) := by
  have hz := hD.2.2.1
  intro t
  induction t with
  | zero =>
    intro k g h1 h2
    obtain ⟨g, rfl⟩ := jsucc h2
    show c_X4_takes_l2_b F _ m _ _ _ = _
    unfold c_X4_takes_l2_b
    rw [jgd_t hL.1, hC.2.2.2.1, if_pos (ji_lep (by omega) (by omega) (by omega))]
    rfl
  | succ t ih =>
    intro k g h1 h2
    obtain ⟨g, rfl⟩ := jsucc h2
    show c_X4_takes_l2_b F _ m _ _ _ = _
    unfold c_X4_takes_l2_b
    rw [jgd_t hL.1, hC.2.2.2.1, if_neg (ji_len (by omega) (by omega) (by omega)), q_isLive hL hD hC (by omega), jb_some, hL.2.1, jgd_t hL.2.2.2.1, hL.2.2.2.2.1, jgd_t (ji_int (by omega) (by omega)), ji_n (by omega), q_refuses hL hS hD hC hF (by omega) hw hf, jb_some, jl_1, ji_add]
    dsimp only
    rw [ih (k + 1) g (by omega) (by omega), List.range'_succ, List.all_cons]
    cases (jDl D r).testBit k with
    | false => rfl
    | true => cases jrf D r k f <;> rfl
theorem q_takes (hL : jLr m r) (hS : jLs m) (hD : jDR D r) (hC : jCr D m r) (hF : 100 < F) {w : Int32} {f : Nat → Nat} (hw : ∀ a, a < 8 → jnb w a = f a) (hf : f 6 = 0 ∧ f 7 = 0) : c_X4_takes F m (jrc r) w = some (jbi (jtk D r f)) := by
  unfold c_X4_takes
  have hz := hD.2.2.1
  rw [jl_0, q_takes_l2 hL hS hD hC hF hw hf (jDz D r) 0 F (by omega) (by omega)]
  unfold jtk
  rw [List.range_eq_range']
  cases (List.range' 0 (jDz D r)).all _ <;> rfl
theorem q_worthOf (hL : jLr m r) (hD : jDR D r) (hC : jCr D m r) {k : Nat} (hk : k < jDz D r) : c_X4_worthOf F m (jrc r) (Int32.ofNat k) = some (Int64.ofNat (jwth D r k)) := by
  unfold c_X4_worthOf
  have hz := hD.2.2.1
  have h6 := hD.1
  have hc := (hD.2.2.2.2 k hk).2.2
  rw [jgd_t hL.1, hL.2.2.1, hL.2.2.2.2.2.2, ji_n (by omega), (hC.2.2.2.2.2 k hk).2, hC.1, jl_4, jl_5, jl_9]
  have e64 : ∀ n, n < 2147483648 → Int32.toInt64 (Int32.ofNat n) = Int64.ofNat n := fun n hn => Int32.toInt64_ofNat' (by have : Int32.maxValue.toInt = 2147483647 := rfl; omega)
  unfold jwth
  by_cases q : jDk D r = 4
  · rw [if_pos (by rw [q]), if_pos q]
    by_cases q2 : 9 < jDc D r k
    · rw [if_pos (ji_ltp (by omega) (by omega) q2), e64 _ (by omega), jgd_t hL.2.2.2.2.2.1, jgd_t (ji_int (by omega) (by omega)), Nat.min_eq_right (by omega)]
    · rw [if_neg (ji_ltn (by omega) (by omega) q2), e64 _ (by omega), jgd_t hL.2.2.2.2.2.1, jgd_t (ji_int (by omega) (by omega)), Nat.min_eq_left (by omega)]
  · rw [if_neg (ji_eqn (by omega) (by omega) q), if_neg q]
    by_cases q2 : jDk D r = 5
    · rw [if_pos (by rw [q2]), if_pos q2, e64 _ (by omega), jgd_t hL.2.2.2.2.2.1, jgd_t (ji_int (by omega) (by omega)), show (2 : Int64) = Int64.ofNat 2 from rfl, ← Int64.ofNat_mul]
    · rw [if_neg (ji_eqn (by omega) (by omega) q2), if_neg q2, e64 _ (by omega), jgd_t hL.2.2.2.2.2.1, jgd_t (ji_int (by omega) (by omega))]
theorem jmg_iff {S : Nat → Bool} {k : Nat} {g : Nat → Nat} : jmg D r k S g = true ↔ ∀ a, a < 6 → (jDa D r).testBit a = true → S a = true → jDv D r k a = g a := by
  unfold jmg
  simp only [List.all_eq_true, List.mem_range]
  constructor
  · intro h a ha h1 h2
    have := h a ha
    rw [h1, h2] at this
    simpa using this
  · intro h a ha
    have := h a ha
    cases h1 : (jDa D r).testBit a with
    | false => rfl
    | true =>
      cases h2 : S a with
      | false => rfl
      | true => simp [this h1 h2]
theorem jnib_z {x y s t : Nat} (hx : x < 16) (hy : y < 16) (hs : s = 15 ∨ s = 0) (ht : t = 15 ∨ t = 0) : ((x ^^^ y) &&& s) &&& t = 0 ↔ (s = 15 → t = 15 → x = y) := by
  have : ∀ x : Fin 16, ∀ y : Fin 16, ((x.1 ^^^ y.1) &&& 15) &&& 15 = 0 ↔ x.1 = y.1 := by decide +kernel
  rcases hs with rfl | rfl
  · rcases ht with rfl | rfl
    · simpa using this ⟨x, hx⟩ ⟨y, hy⟩
    · simp
  · simp
theorem q_matches (hL : jLr m r) (hD : jDR D r) (hC : jCr D m r) {k : Nat} (hk : k < jDz D r) {g gs : Int32} {S : Nat → Bool} (hg : ∀ a, a < 8 → jnb gs a = if S a then 15 else 0) : c_X4_matches F m (jrc r) (Int32.ofNat k) g gs = some (jbi (jmg D r k S (jnb g))) := by
  unfold c_X4_matches
  have hz := hD.2.2.1
  have h64 := hD.2.1
  have hv := (hC.2.2.2.2.2 k hk).1
  rw [jgd_t hL.1, hL.2.1, jgd_t hL.2.2.2.1, hL.2.2.2.2.1, jgd_t (ji_int (by omega) (by omega)), ji_n (by omega)]
  have h0 : ∀ a, 6 ≤ a → (jDa D r).testBit a = false := fun a ha => Nat.testBit_lt_two_pow (Nat.lt_of_lt_of_le h64 (jp2 ha))
  have key : ((jI m (jrv r) k ^^^ g) &&& jI m (jrc r) 4) &&& gs = 0 ↔ jmg D r k S (jnb g) = true := by
    have hn : ∀ a, a < 8 → (jnb (((jI m (jrv r) k ^^^ g) &&& jI m (jrc r) 4) &&& gs) a = 0 ↔ ((jDa D r).testBit a = true → S a = true → jDv D r k a = jnb g a)) := by
      intro a ha
      rw [jnb_and, jnb_and, jnb_xor, hv a ha, hC.2.2.1 a ha, hg a ha, jnib_z (by have := (hD.2.2.2.2 k hk).1 a; omega) (jnb_lt _ _) (by cases (jDa D r).testBit a <;> simp) (by cases S a <;> simp)]
      cases (jDa D r).testBit a <;> cases S a <;> simp
    rw [jmg_iff]
    constructor
    · intro e a ha
      refine (hn a (by omega)).mp ?_
      rw [e, jnb_0]
    · intro e
      refine jnb_ext (fun a ha => ?_)
      rw [jnb_0]
      refine (hn a ha).mpr (fun h1 h2 => ?_)
      rcases Nat.lt_or_ge a 6 with q | q
      · exact e a q h1 h2
      · rw [h0 a q] at h1
        cases h1
  by_cases e : ((jI m (jrv r) k ^^^ g) &&& jI m (jrc r) 4) &&& gs = 0
  · rw [if_pos e, key.mp e]
    rfl
  · rw [if_neg e]
    have : jmg D r k S (jnb g) = false := by
      cases q : jmg D r k S (jnb g) with
      | false => rfl
      | true => exact absurd (key.mpr q) e
    rw [this]
    rfl
theorem q_setLive (hL : jLr m r) {s k : Nat} (hs : jI m (jrc r) 6 = Int32.ofNat s) (h8 : s < 256) (hk : k < 8) {b : Bool} : c_X4_setLive F m (jrc r) (Int32.ofNat k) (jbi b) = some (jsI m (jrc r) 6 (Int32.ofNat (if b then s ||| 2 ^ k else jclr s k))) := by
  unfold c_X4_setLive c_X4_setLive_j26
  simp only [jgd_t hL.1]
  rw [hs, jset_or h8 hk, jset_clr h8 hk]
  cases b <;> rfl
end REL
