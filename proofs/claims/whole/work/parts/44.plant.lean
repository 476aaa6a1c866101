/-! frames: what stays -/
def jfr (S : Nat → Prop) (m m' : jMe) : Prop := jN m' = jN m ∧ jT m' = jT m ∧ jK m' = jK m ∧ jZ m' = jZ m ∧ jP m' = jP m ∧ (∀ a, ¬ S a → jI m' a = jI m a) ∧ (∀ a, ¬ S a → jL m' a = jL m a)
theorem jfr.rfl {S : Nat → Prop} {m : jMe} : jfr S m m := ⟨Eq.refl _, Eq.refl _, Eq.refl _, Eq.refl _, Eq.refl _, fun _ _ => Eq.refl _, fun _ _ => Eq.refl _⟩
theorem jfr.trans {S : Nat → Prop} {m m' m'' : jMe} (h : jfr S m m') (k : jfr S m' m'') : jfr S m m'' :=
  ⟨k.1.trans h.1, k.2.1.trans h.2.1, k.2.2.1.trans h.2.2.1, k.2.2.2.1.trans h.2.2.2.1, k.2.2.2.2.1.trans h.2.2.2.2.1, fun a ha => (k.2.2.2.2.2.1 a ha).trans (h.2.2.2.2.2.1 a ha), fun a ha => (k.2.2.2.2.2.2 a ha).trans (h.2.2.2.2.2.2 a ha)⟩
theorem jfr.weak {S S' : Nat → Prop} {m m' : jMe} (h : jfr S m m') (k : ∀ a, S a → S' a) : jfr S' m m' :=
  ⟨h.1, h.2.1, h.2.2.1, h.2.2.2.1, h.2.2.2.2.1, fun a ha => h.2.2.2.2.2.1 a (fun q => ha (k a q)), fun a ha => h.2.2.2.2.2.2 a (fun q => ha (k a q))⟩
theorem jsI_e (m : jMe) (a i : Nat) (x : Int32) : jI (jsI m a i x) a = jupd (jI m a) i x := by
  funext j
  show jup (jI m) a i x a j = _
  rw [jup_at]
  rfl
theorem jsI_n {m : jMe} {a b i : Nat} {x : Int32} (h : b ≠ a) : jI (jsI m a i x) b = jI m b := jup_ne _ _ _ h
theorem jsL_e (m : jMe) (a i : Nat) (x : Int64) : jL (jsL m a i x) a = jupd (jL m a) i x := by
  funext j
  show jup (jL m) a i x a j = _
  rw [jup_at]
  rfl
theorem jsL_n {m : jMe} {a b i : Nat} {x : Int64} (h : b ≠ a) : jL (jsL m a i x) b = jL m b := jup_ne _ _ _ h
theorem jsI_f {S : Nat → Prop} {m : jMe} {a i : Nat} {x : Int32} (h : S a) : jfr S m (jsI m a i x) :=
  ⟨Eq.refl _, Eq.refl _, Eq.refl _, Eq.refl _, Eq.refl _, fun b hb => jsI_n (fun e => hb (e ▸ h)), fun _ _ => Eq.refl _⟩
theorem jsL_f {S : Nat → Prop} {m : jMe} {a i : Nat} {x : Int64} (h : S a) : jfr S m (jsL m a i x) :=
  ⟨Eq.refl _, Eq.refl _, Eq.refl _, Eq.refl _, Eq.refl _, fun _ _ => Eq.refl _, fun b hb => jsL_n (fun e => hb (e ▸ h))⟩
theorem jset_f {S : Nat → Prop} {m : jMe} {a : Nat} {f : Nat → Int32} (h : S a) : jfr S m (jset m a f) :=
  ⟨Eq.refl _, Eq.refl _, Eq.refl _, Eq.refl _, Eq.refl _, fun b hb => jset_ne (fun e => hb (e ▸ h)), fun _ _ => Eq.refl _⟩
theorem jupd_e {α : Type} (f : Nat → α) (i : Nat) (x : α) : jupd f i x i = x := if_pos rfl
theorem jupd_n {α : Type} {f : Nat → α} {i j : Nat} {x : α} (h : j ≠ i) : jupd f i x j = f j := if_neg h
/-! a row is filled -/
theorem q_fill_l5 {F b z : Nat} {x : Int32} (hz : z < 10000) : ∀ (t k g : Nat) (m : jMe), jK m b = 1 → jZ m b = z → k + t = z → t < g → ∃ m', c_J7_fill_53178_l5 F g m b x (Int32.ofNat k) (Int32.ofNat z) = some m' ∧ jfr (· = b) m m' ∧ (∀ j, jI m' b j = if k ≤ j ∧ j < z then x else jI m b j) := by
  intro t
  induction t with
  | zero =>
    intro k g m h1 h2 h3 h4
    obtain ⟨g, rfl⟩ := jsucc h4
    refine ⟨m, ?_, jfr.rfl, fun j => by rw [if_neg (by omega)]⟩
    show c_J7_fill_53178_l5_b F _ m _ _ _ _ = _
    unfold c_J7_fill_53178_l5_b
    rw [if_pos (ji_lep (by omega) (by omega) (by omega))]
  | succ t ih =>
    intro k g m h1 h2 h3 h4
    obtain ⟨g, rfl⟩ := jsucc h4
    obtain ⟨m', e1, e2, e3⟩ := ih (k + 1) g (jsI m b k x) h1 h2 (by omega) (by omega)
    refine ⟨m', ?_, (jsI_f (S := (· = b)) (Eq.refl b)).trans e2, fun j => ?_⟩
    · show c_J7_fill_53178_l5_b F _ m _ _ _ _ = _
      unfold c_J7_fill_53178_l5_b
      rw [if_neg (ji_len (by omega) (by omega) (by omega)), jgd_t h1, h2, jgd_t (ji_int (by omega) (by omega)), ji_n (by omega), jl_1, ji_add]
      exact e1
    · rw [e3, jsI_e]
      by_cases q : j = k
      · subst q
        rw [jupd_e]
        by_cases q2 : j + 1 ≤ j ∧ j < z
        · omega
        · rw [if_neg q2, if_pos (by omega)]
      · rw [jupd_n q]
        by_cases q2 : k + 1 ≤ j ∧ j < z
        · rw [if_pos q2, if_pos (by omega)]
        · rw [if_neg q2, if_neg (by omega)]
theorem q_fill {F b z : Nat} {x : Int32} {m : jMe} (hF : 1000 < F) (hz : z < 1000) (h1 : jK m b = 1) (h2 : jZ m b = z) : ∃ m', c_J7_fill_53178 F m b x = some m' ∧ jfr (· = b) m m' ∧ (∀ j, jI m' b j = if j < z then x else jI m b j) := by
  obtain ⟨m', e1, e2, e3⟩ := q_fill_l5 (F := F) (x := x) (by omega) z 0 F m h1 h2 (by omega) (by omega)
  refine ⟨m', ?_, e2, fun j => ?_⟩
  · unfold c_J7_fill_53178
    rw [jgd_t h1, h2, jl_0, e1]
    rfl
  · rw [e3]
    by_cases q : j < z
    · rw [if_pos q, if_pos (by omega)]
    · rw [if_neg q, if_neg (by omega)]
theorem q_fillL_l6 {F b z : Nat} {x : Int64} (hz : z < 10000) : ∀ (t k g : Nat) (m : jMe), jK m b = 2 → jZ m b = z → k + t = z → t < g → ∃ m', c_J7_fill_d0a16_l6 F g m b x (Int32.ofNat k) (Int32.ofNat z) = some m' ∧ jfr (· = b) m m' ∧ (∀ j, jL m' b j = if k ≤ j ∧ j < z then x else jL m b j) := by
  intro t
  induction t with
  | zero =>
    intro k g m h1 h2 h3 h4
    obtain ⟨g, rfl⟩ := jsucc h4
    refine ⟨m, ?_, jfr.rfl, fun j => by rw [if_neg (by omega)]⟩
    show c_J7_fill_d0a16_l6_b F _ m _ _ _ _ = _
    unfold c_J7_fill_d0a16_l6_b
    rw [if_pos (ji_lep (by omega) (by omega) (by omega))]
  | succ t ih =>
    intro k g m h1 h2 h3 h4
    obtain ⟨g, rfl⟩ := jsucc h4
    obtain ⟨m', e1, e2, e3⟩ := ih (k + 1) g (jsL m b k x) h1 h2 (by omega) (by omega)
    refine ⟨m', ?_, (jsL_f (S := (· = b)) (Eq.refl b)).trans e2, fun j => ?_⟩
    · show c_J7_fill_d0a16_l6_b F _ m _ _ _ _ = _
      unfold c_J7_fill_d0a16_l6_b
      rw [if_neg (ji_len (by omega) (by omega) (by omega)), jgd_t h1, h2, jgd_t (ji_int (by omega) (by omega)), ji_n (by omega), jl_1, ji_add]
      exact e1
    · rw [e3, jsL_e]
      by_cases q : j = k
      · subst q
        rw [jupd_e]
        by_cases q2 : j + 1 ≤ j ∧ j < z
        · omega
        · rw [if_neg q2, if_pos (by omega)]
      · rw [jupd_n q]
        by_cases q2 : k + 1 ≤ j ∧ j < z
        · rw [if_pos q2, if_pos (by omega)]
        · rw [if_neg q2, if_neg (by omega)]
theorem q_fillL {F b z : Nat} {x : Int64} {m : jMe} (hF : 1000 < F) (hz : z < 1000) (h1 : jK m b = 2) (h2 : jZ m b = z) : ∃ m', c_J7_fill_d0a16 F m b x = some m' ∧ jfr (· = b) m m' ∧ (∀ j, jL m' b j = if j < z then x else jL m b j) := by
  obtain ⟨m', e1, e2, e3⟩ := q_fillL_l6 (F := F) (x := x) (by omega) z 0 F m h1 h2 (by omega) (by omega)
  refine ⟨m', ?_, e2, fun j => ?_⟩
  · unfold c_J7_fill_d0a16
    rw [jgd_t h1, h2, jl_0, e1]
    rfl
  · rw [e3]
    by_cases q : j < z
    · rw [if_pos q, if_pos (by omega)]
    · rw [if_neg q, if_neg (by omega)]
/-! what is taken out of a set -/
theorem jclr_bit {s r x : Nat} (hs : s < 16) (hr : r < 4) (hx : x < 4) : (jclr s r).testBit x = (s.testBit x && decide (x ≠ r)) := by
  have : ∀ s : Fin 16, ∀ r : Fin 4, ∀ x : Fin 4, (jclr s.1 r.1).testBit x.1 = (s.1.testBit x.1 && decide (x.1 ≠ r.1)) := by decide +kernel
  exact this ⟨s, hs⟩ ⟨r, hr⟩ ⟨x, hx⟩
theorem jclr_lt {s r : Nat} (hs : s < 16) : jclr s r < 16 := Nat.lt_of_le_of_lt Nat.and_le_left hs
theorem jclr_pop {s r : Nat} (hs : s < 16) (hr : r < 4) (h : s.testBit r = true) : jpop 8 s = jpop 8 (jclr s r) + 1 := by
  have : ∀ s : Fin 16, ∀ r : Fin 4, s.1.testBit r.1 = true → jpop 8 s.1 = jpop 8 (jclr s.1 r.1) + 1 := by decide +kernel
  exact this ⟨s, hs⟩ ⟨r, hr⟩ h
theorem jpop_one {s : Nat} (hs : s < 16) (h : jpop 8 s ≤ 1) : s = 0 ∨ ∃ r, r < 4 ∧ s = 2 ^ r := by
  have : ∀ s : Fin 16, jpop 8 s.1 ≤ 1 → s.1 = 0 ∨ ∃ r : Fin 4, s.1 = 2 ^ r.1 := by decide +kernel
  rcases this ⟨s, hs⟩ h with h | ⟨r, h⟩
  · exact Or.inl h
  · exact Or.inr ⟨r.1, r.2, h⟩
/-- of a plan: what is taken out, step by step -/
def jplc (A : Nat → Nat) : List (Nat × Nat) → Nat → Nat → Prop
  | [], s, s' => s' = s
  | p :: l, s, s' => p.1 < 4 ∧ s.testBit p.1 = true ∧ p.2 < 4 ∧ p.2 ≠ p.1 ∧ s.testBit p.2 = true ∧ (A p.1 &&& joth A s p.1 4 0 0) &&& (63 ^^^ A p.2) = 0 ∧ jplc A l (jclr s p.1) s'
theorem jplant_c {A : Nat → Nat} : ∀ {t s : Nat} {p : List (Nat × Nat) × Nat}, s < 16 → jplant A t s = some p → jplc A p.1 s p.2 ∧ p.1.length ≤ t ∧ jpop 8 s = p.1.length + jpop 8 p.2 ∧ (jpop 8 s ≤ t + 1 → jpop 8 p.2 ≤ 1) ∧ p.2 < 16 ∧ (1 ≤ jpop 8 s → 1 ≤ jpop 8 p.2) := by
  intro t
  induction t with
  | zero =>
    intro s p hs h
    cases h
    exact ⟨Eq.refl s, Nat.le_refl _, by simp, fun h => h, hs, fun h => h⟩
  | succ t ih =>
    intro s p hs h
    unfold jplant at h
    split at h
    · rename_i h1
      cases h
      exact ⟨Eq.refl s, by simp, by simp, fun _ => h1, hs, fun h => h⟩
    · rename_i h1
      split at h
      · cases h
      · rename_i r hr
        split at h
        · cases h
        · rename_i q hq
          split at h
          · cases h
          · rename_i p' hp
            cases h
            obtain ⟨-, r1, r2, -⟩ := jfef_in hr
            obtain ⟨-, q1, q2, q3, q4⟩ := jstf_in hq
            obtain ⟨i1, i2, i3, i4, i5, i6⟩ := ih (jclr_lt hs) hp
            have hp := jclr_pop hs (by omega) r2
            refine ⟨⟨by simpa using r1, r2, by simpa using q1, q2, q3, q4, i1⟩, by simpa using i2, ?_, fun h => i4 (by omega), i5, fun h => i6 (by omega)⟩
            simp only [List.length_cons]
            omega
