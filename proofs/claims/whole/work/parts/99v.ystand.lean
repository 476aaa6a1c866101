/-! values given for a row: how they are laid out; a row that stands; a relation that is full, as the reference tells it -/
section YSTAND
variable {F : Nat} {D : jD} {S : jTS}
def jcnt (s : Nat) : Nat → Nat → Nat
  | 0, _ => 0
  | t + 1, a => (if s.testBit a = true then 1 else 0) + jcnt s t (a + 1)
theorem jatg_lo {s : Nat} : ∀ (t a n x : Nat), jatg s t a n = some x → a ≤ x := by
  intro t
  induction t with
  | zero => intro a n x h; cases h
  | succ t ih =>
    intro a n x h
    unfold jatg at h
    by_cases e : s.testBit a = true
    · rw [if_pos e] at h
      cases n with
      | zero => cases h; omega
      | succ n => have := ih _ _ _ h; omega
    · rw [if_neg e] at h
      have := ih _ _ _ h
      omega
theorem jpkd_y {s : Nat} {u : Nat → Int32} : ∀ (t a i : Nat), (∀ j, j < jcnt s t a → jin (u (i + j)) 10 = true) → ∃ f, jpkd s u t a i = some f ∧ (∀ j b, jatg s t a j = some b → f b = (u (i + j)).toNatClampNeg) ∧ ∀ b, (b < a ∨ a + t ≤ b ∨ s.testBit b = false) → f b = 0 := by
  intro t
  induction t with
  | zero => intro a i _; exact ⟨fun _ => 0, rfl, fun j b h => (by cases h), fun b _ => rfl⟩
  | succ t ih =>
    intro a i h
    unfold jpkd
    by_cases e : s.testBit a = true
    · have hc : jcnt s (t + 1) a = 1 + jcnt s t (a + 1) := by rw [jcnt, if_pos e]
      have h0 : jin (u i) 10 = true := h 0 (by omega)
      obtain ⟨f, f1, f2, f3⟩ := ih (a + 1) (i + 1) (fun j hj => by
        have := h (j + 1) (by omega)
        rw [show i + (j + 1) = i + 1 + j by omega] at this
        exact this)
      rw [if_pos e, if_pos h0, f1]
      refine ⟨_, rfl, fun j b hj => ?_, fun b hb => ?_⟩
      · unfold jatg at hj
        rw [if_pos e] at hj
        cases j with
        | zero =>
          cases hj
          show (if a = a then _ else _) = _
          rw [if_pos rfl]
          rfl
        | succ j =>
          have hlo := jatg_lo _ _ _ _ hj
          show (if b = a then _ else f b) = _
          rw [if_neg (by omega), f2 j b hj, show i + (j + 1) = i + 1 + j by omega]
      · show (if b = a then _ else f b) = 0
        have hba : b ≠ a := fun h => by
          rw [h, e] at hb
          rcases hb with hb | hb | hb
          · omega
          · omega
          · cases hb
        rw [if_neg hba]
        refine f3 b ?_
        rcases hb with hb | hb | hb
        · exact Or.inl (by omega)
        · exact Or.inr (Or.inl (by omega))
        · exact Or.inr (Or.inr hb)
    · have hc : jcnt s (t + 1) a = jcnt s t (a + 1) := by rw [jcnt, if_neg e, Nat.zero_add]
      have e' : s.testBit a = false := by cases z : s.testBit a with | false => rfl | true => exact absurd z e
      obtain ⟨f, f1, f2, f3⟩ := ih (a + 1) i (fun j hj => h j (by omega))
      rw [if_neg e, f1]
      refine ⟨f, rfl, fun j b hj => ?_, fun b hb => ?_⟩
      · unfold jatg at hj
        rw [if_neg e] at hj
        exact f2 j b hj
      · by_cases hba : b = a
        · exact f3 b (Or.inl (by omega))
        · refine f3 b ?_
          rcases hb with hb | hb | hb
          · exact Or.inl (by omega)
          · exact Or.inr (Or.inl (by omega))
          · exact Or.inr (Or.inr hb)
theorem jpkd_n {s : Nat} {u : Nat → Int32} : ∀ (t a i j : Nat), j < jcnt s t a → jin (u (i + j)) 10 = false → jpkd s u t a i = none := by
  intro t
  induction t with
  | zero => intro a i j h; cases h
  | succ t ih =>
    intro a i j h hj
    unfold jpkd
    by_cases e : s.testBit a = true
    · have hc : jcnt s (t + 1) a = 1 + jcnt s t (a + 1) := by rw [jcnt, if_pos e]
      rw [if_pos e]
      cases j with
      | zero =>
        have hj : jin (u i) 10 = false := hj
        rw [if_neg (by rw [hj]; decide)]
      | succ j =>
        by_cases h0 : jin (u i) 10 = true
        · rw [if_pos h0, ih (a + 1) (i + 1) j (by omega) (by rw [show i + 1 + j = i + (j + 1) by omega]; exact hj)]
        · rw [if_neg h0]
    · have hc : jcnt s (t + 1) a = jcnt s t (a + 1) := by rw [jcnt, if_neg e, Nat.zero_add]
      rw [if_neg e]
      exact ih (a + 1) i j (by omega) hj
theorem jcnt_6 {s : Nat} (h : s < 64) : jcnt s 6 0 = jpop 8 s := by
  have : ∀ s : Fin 64, jcnt s.1 6 0 = jpop 8 s.1 := by decide +kernel
  exact this ⟨s, h⟩
/-- attributes in their order, up to three of them -/
theorem jatt_all {s : Nat} (h : s < 64) (h3 : jpop 8 s ≤ 3) : (∀ i, i < jpop 8 s → ∃ a, jatt s i = some a ∧ a < 6 ∧ s.testBit a = true) ∧ (∀ a, a < 6 → s.testBit a = true → ∃ i, i < jpop 8 s ∧ jatt s i = some a) ∧ ∀ i j a, i < 3 → j < 3 → jatt s i = some a → jatt s j = some a → i = j := by
  have h1 : ∀ s : Fin 64, jpop 8 s.1 ≤ 3 → ∀ i : Fin 3, i.1 < jpop 8 s.1 → ∃ a : Fin 6, jatt s.1 i.1 = some a.1 ∧ s.1.testBit a.1 = true := by decide +kernel
  have h2 : ∀ s : Fin 64, jpop 8 s.1 ≤ 3 → ∀ a : Fin 6, s.1.testBit a.1 = true → ∃ i : Fin 3, i.1 < jpop 8 s.1 ∧ jatt s.1 i.1 = some a.1 := by decide +kernel
  have h4 : ∀ s : Fin 64, ∀ i j : Fin 3, (jatt s.1 i.1).isSome = true → jatt s.1 i.1 = jatt s.1 j.1 → i = j := by decide +kernel
  refine ⟨fun i hi => ?_, fun a ha hb => ?_, fun i j a hi hj e1 e2 => ?_⟩
  · obtain ⟨a, a1, a2⟩ := h1 ⟨s, h⟩ h3 ⟨i, by omega⟩ hi
    exact ⟨a.1, a1, a.2, a2⟩
  · obtain ⟨i, i1, i2⟩ := h2 ⟨s, h⟩ h3 ⟨a, ha⟩ hb
    exact ⟨i.1, i1, i2⟩
  · have := h4 ⟨s, h⟩ ⟨i, hi⟩ ⟨j, hj⟩ (by dsimp only; rw [e1]; rfl) (by dsimp only; rw [e1, e2])
    exact congrArg Fin.val this
theorem y_stands_l3 {r k : Nat} (hr : r < 4) (hk : k < 8) {x y z : Int32} : ∀ (t a f : Nat) (m : jMe), a + t = 6 → t < f → jLM m → ∃ m', c_X10_stands_l3 F f m 101 (Int32.ofNat r) (Int32.ofNat k) x y z (Int32.ofNat a) = some (m', 101, Int32.ofNat r, Int32.ofNat k, x, y, z) ∧ jfx (fun b i => b = 108 ∧ 48 * r + 6 * k ≤ i ∧ i < 48 * r + 6 * k + 6) m m' ∧ ∀ b, b < 6 → jI m' 108 (48 * r + 6 * k + b) = if a ≤ b then -1 else jI m 108 (48 * r + 6 * k + b) := by
  intro t
  induction t with
  | zero =>
    intro a f m h1 h2 hL
    obtain ⟨f, rfl⟩ := jsucc h2
    refine ⟨m, ?_, jfx.rfl, fun b h3 => by rw [if_neg (by omega)]⟩
    show c_X10_stands_l3_b F _ m _ _ _ _ _ _ _ = _
    unfold c_X10_stands_l3_b
    rw [if_pos (show (6 : Int32) ≤ Int32.ofNat a from ji_lep (a := 6) (by omega) (by omega) (by omega))]
  | succ t ih =>
    intro a f m h1 h2 hL
    obtain ⟨f, rfl⟩ := jsucc h2
    show ∃ m', c_X10_stands_l3_b F _ m _ _ _ _ _ _ _ = _ ∧ _
    unfold c_X10_stands_l3_b
    rw [if_neg (show ¬ (6 : Int32) ≤ Int32.ofNat a from ji_len (a := 6) (by omega) (by omega) (by omega)), jgd_t hL.1, jp_108 hL, jgd_t (jk_108 hL), jz_108 hL, show (48 : Int32) = Int32.ofNat 48 from rfl, show (6 : Int32) = Int32.ofNat 6 from rfl, ji_mul, ji_mul, ji_add, ji_add, jgd_t (ji_int (by omega) (by omega)), ji_n (by omega), show Int32.ofNat a + 1 = Int32.ofNat (a + 1) from ji_add a 1]
    have hfx : jfx (fun b i => b = 108 ∧ 48 * r + 6 * k ≤ i ∧ i < 48 * r + 6 * k + 6) m (jsI m 108 (48 * r + 6 * k + a) (-1)) := jfx_I ⟨rfl, by omega, by omega⟩
    have hv : jI (jsI m 108 (48 * r + 6 * k + a) (-1)) 108 (48 * r + 6 * k + a) = -1 := jsI_y
    have ho : ∀ b, b ≠ a → jI (jsI m 108 (48 * r + 6 * k + a) (-1)) 108 (48 * r + 6 * k + b) = jI m 108 (48 * r + 6 * k + b) := fun b hb => jsI_no (by omega)
    generalize jsI m 108 (48 * r + 6 * k + a) (-1) = m1 at hfx hv ho ⊢
    obtain ⟨m', a1, a2, a3⟩ := ih (a + 1) f m1 (by omega) (by omega) (jLM_fx hfx hL)
    refine ⟨m', a1, hfx.trans a2, fun b hb => ?_⟩
    rw [a3 b hb]
    by_cases e : b = a
    · rw [if_neg (by omega), if_pos (by omega), e, hv]
    · rw [ho b e]
      by_cases e2 : a ≤ b
      · rw [if_pos (by omega), if_pos e2]
      · rw [if_neg (by omega), if_neg e2]
theorem jRf_junk (hD : jDok D) {m m' : jMe} {r k : Nat} (hr : r < 4) (hk : k < 8) (hkz : k = jDz D r) (hfx : jfx (fun b i => b = 108 ∧ 48 * r + 6 * k ≤ i ∧ i < 48 * r + 6 * k + 6) m m') (h : jRf D S m) : jRf D S m' := by
  obtain ⟨h1, ⟨c1, c2, c3, c4⟩, h3, h4⟩ := h
  refine ⟨jLM_fx hfx h1, ⟨?_, ?_, ?_, fun x hx => ?_⟩, ?_, ?_⟩
  · rw [hfx.I (by omega)]; exact c1
  · rw [hfx.I (by omega)]; exact c2
  · rw [hfx.I (by omega)]; exact c3
  · obtain ⟨d1, d2, d3, d4⟩ := c4 x hx
    have hzx := (hD.2.2.1 x hx).2.2.1
    refine ⟨by rw [hfx.I (by omega)]; exact d1, by rw [hfx.I (by omega)]; exact d2, by rw [hfx.I (by omega)]; exact d3, fun y hy => ?_⟩
    obtain ⟨e1, e2, e3⟩ := d4 y hy
    refine ⟨fun a ha => ?_, by rw [hfx.I (by omega)]; exact e2, by rw [hfx.I (by omega)]; exact e3⟩
    rw [hfx.I (by
      by_cases e : x = r
      · subst e
        omega
      · omega)]
    exact e1 a ha
  · obtain ⟨g1, g2, x, y, g3, g4, g5, g6⟩ := h3
    exact ⟨by rw [hfx.I (by omega)]; exact g1, fun t ht => ⟨by rw [hfx.I (by omega)]; exact (g2 t ht).1, fun i hi => by rw [hfx.I (by omega)]; exact (g2 t ht).2 i hi⟩, x, y, g3, g4, by rw [hfx.I (by omega)]; exact g5, by rw [hfx.I (by omega)]; exact g6⟩
  · intro p hp
    have h4p := h4 p hp
    rw [hfx.L (by omega), hfx.I (by omega)]
    exact h4p
theorem y_stands_l37 (hF : 100 < F) (hD : jDok D) {r k : Nat} (hr : r < jDn D) (hk : k < 8) {x y z : Int32} : ∀ (t i f : Nat) (m : jMe), i + t = jpop 8 (jDa D r) → t < f → jRf D S m → k = jDz D r → ∃ m', c_X10_stands_l37 F f m 101 (Int32.ofNat r) (Int32.ofNat k) x y z (Int32.ofNat i) = some m' ∧ jfx (fun b i => b = 108 ∧ 48 * r + 6 * k ≤ i ∧ i < 48 * r + 6 * k + 6) m m' ∧ (∀ a, a < 6 → (∀ j, i ≤ j → j < jpop 8 (jDa D r) → jatt (jDa D r) j = some a → jI m' 108 (48 * r + 6 * k + a) = jxyz x y z j) ∧ ((∀ j, i ≤ j → j < jpop 8 (jDa D r) → jatt (jDa D r) j ≠ some a) → jI m' 108 (48 * r + 6 * k + a) = jI m 108 (48 * r + 6 * k + a))) := by
  have hr4 : r < 4 := Nat.lt_of_lt_of_le hr hD.1
  have hDr := hD.2.2.1 r hr4
  have h3 := (hD.2.2.2.1 r hr).2
  obtain ⟨p1, p2, p3⟩ := jatt_all hDr.2.1 h3
  intro t
  induction t with
  | zero =>
    intro i f m h1 h2 hR hkz
    obtain ⟨f, rfl⟩ := jsucc h2
    have hL := hR.1
    refine ⟨m, ?_, jfx.rfl, fun a ha => ⟨fun j h4 h5 => by omega, fun _ => rfl⟩⟩
    show c_X10_stands_l37_b F _ m _ _ _ _ _ _ _ = _
    unfold c_X10_stands_l37_b
    rw [jgd_t hL.1, jp_106 hL, jgd_t (jk_106 hL), jz_106 hL, jgd_t (ji_int (by omega) hr4), ji_n (by omega), (hR.2.1.2.2.2 r hr4).2.1, q_bitsOf hF (by have := hDr.2.1; omega), jb_some, if_pos (ji_lep (by omega) (by omega) (by omega))]
  | succ t ih =>
    intro i f m h1 h2 hR hkz
    obtain ⟨f, rfl⟩ := jsucc h2
    have hL := hR.1
    obtain ⟨a, e1, e2, e3⟩ := p1 i (by omega)
    show ∃ m', c_X10_stands_l37_b F _ m _ _ _ _ _ _ _ = _ ∧ _
    unfold c_X10_stands_l37_b c_X10_stands_j94_l37
    rw [jgd_t hL.1, jp_106 hL, jgd_t (jk_106 hL), jz_106 hL, jgd_t (ji_int (by omega) hr4), ji_n (by omega), (hR.2.1.2.2.2 r hr4).2.1, q_bitsOf hF (by have := hDr.2.1; omega), jb_some, if_neg (ji_len (by omega) (by omega) (by omega)), y_attribute hF hL hR.2.1 hD hr4 (by omega), e1, jb_some, show jo1 (some a) = Int32.ofNat a from rfl, jp_108 hL, jgd_t (jk_108 hL), jgd_t (jk_108 hL), jgd_t (jk_108 hL), jz_108 hL, show (48 : Int32) = Int32.ofNat 48 from rfl, show (6 : Int32) = Int32.ofNat 6 from rfl, ji_mul, ji_mul, ji_add, ji_add, jgd_t (ji_int (by omega) (by omega)), jgd_t (ji_int (by omega) (by omega)), jgd_t (ji_int (by omega) (by omega)), ji_n (by omega), show Int32.ofNat i + 1 = Int32.ofNat (i + 1) from ji_add i 1]
    have go : ∀ v, v = jxyz x y z i → ∃ m', c_X10_stands_l37 F f (jsI m 108 (48 * r + 6 * k + a) v) 101 (Int32.ofNat r) (Int32.ofNat k) x y z (Int32.ofNat (i + 1)) = some m' ∧ jfx (fun b i => b = 108 ∧ 48 * r + 6 * k ≤ i ∧ i < 48 * r + 6 * k + 6) m m' ∧ (∀ a, a < 6 → (∀ j, i ≤ j → j < jpop 8 (jDa D r) → jatt (jDa D r) j = some a → jI m' 108 (48 * r + 6 * k + a) = jxyz x y z j) ∧ ((∀ j, i ≤ j → j < jpop 8 (jDa D r) → jatt (jDa D r) j ≠ some a) → jI m' 108 (48 * r + 6 * k + a) = jI m 108 (48 * r + 6 * k + a))) := by
      intro v hv
      have hfx : jfx (fun b i => b = 108 ∧ 48 * r + 6 * k ≤ i ∧ i < 48 * r + 6 * k + 6) m (jsI m 108 (48 * r + 6 * k + a) v) := jfx_I ⟨rfl, by omega, by omega⟩
      have hy : jI (jsI m 108 (48 * r + 6 * k + a) v) 108 (48 * r + 6 * k + a) = v := jsI_y
      have ho : ∀ b, b ≠ a → jI (jsI m 108 (48 * r + 6 * k + a) v) 108 (48 * r + 6 * k + b) = jI m 108 (48 * r + 6 * k + b) := fun b hb => jsI_no (by omega)
      have hR1 : jRf D S (jsI m 108 (48 * r + 6 * k + a) v) := jRf_junk hD hr4 hk hkz hfx hR
      generalize jsI m 108 (48 * r + 6 * k + a) v = m1 at hfx hy ho hR1 ⊢
      obtain ⟨m', a1, a2, a3⟩ := ih (i + 1) f m1 (by omega) (by omega) hR1 hkz
      refine ⟨m', a1, hfx.trans a2, fun b hb => ⟨fun j h4 h5 h6 => ?_, fun h4 => ?_⟩⟩
      · by_cases hj : j = i
        · have hab : b = a := by
            rw [hj, e1] at h6
            cases h6
            rfl
          rw [hab, (a3 a e2).2 (fun j' h7 h8 h9 => by
            have := p3 i j' a (by omega) (by omega) e1 h9
            omega), hy, hv, hj]
        · exact (a3 b hb).1 j (by omega) h5 h6
      · have hba : b ≠ a := fun h => h4 i (Nat.le_refl _) (by omega) (by rw [h]; exact e1)
        rw [(a3 b hb).2 (fun j h7 h8 => h4 j (by omega) h8), ho b hba]
    by_cases i0 : i = 0
    · rw [if_pos (show Int32.ofNat i = 0 by rw [i0]; rfl)]
      exact go x (by unfold jxyz; rw [if_pos i0])
    rw [if_neg (show ¬ Int32.ofNat i = 0 from ji_eqn (b := 0) (by omega) (by omega) i0)]
    by_cases i1 : i = 1
    · rw [if_pos (show Int32.ofNat i = 1 by rw [i1]; rfl)]
      exact go y (by unfold jxyz; rw [if_neg i0, if_pos i1])
    rw [if_neg (show ¬ Int32.ofNat i = 1 from ji_eqn (b := 1) (by omega) (by omega) i1)]
    exact go z (by unfold jxyz; rw [if_neg i0, if_neg i1])
/-- values that are given lay out a row -/
theorem jpkd_s (hD : jDok D) {r : Nat} (hr : r < jDn D) {x y z : Int32} {f : Nat → Nat} (hp : jpkd (jDa D r) (jxyz x y z) 6 0 0 = some f) : (∀ j, j < jpop 8 (jDa D r) → jin (jxyz x y z j) 10 = true) ∧ (∀ j b, jatt (jDa D r) j = some b → j < jpop 8 (jDa D r) → jxyz x y z j = Int32.ofNat (f b) ∧ f b < 10) ∧ ∀ b, (6 ≤ b ∨ (jDa D r).testBit b = false) → f b = 0 := by
  have hr4 : r < 4 := Nat.lt_of_lt_of_le hr hD.1
  have hDr := hD.2.2.1 r hr4
  have hc := jcnt_6 hDr.2.1
  have hall : ∀ j, j < jpop 8 (jDa D r) → jin (jxyz x y z j) 10 = true := fun j hj => by
    cases e : jin (jxyz x y z j) 10 with
    | true => rfl
    | false =>
      rw [jpkd_n 6 0 0 j (by rw [hc]; exact hj) (by rw [Nat.zero_add]; exact e)] at hp
      cases hp
  obtain ⟨f', f1, f2, f3⟩ := jpkd_y (s := jDa D r) (u := jxyz x y z) 6 0 0 (fun j hj => by rw [Nat.zero_add]; exact hall j (by rw [← hc]; exact hj))
  rw [f1] at hp
  cases hp
  refine ⟨hall, fun j b h1 h2 => ?_, fun b hb => f3 b (hb.elim (fun h => Or.inr (Or.inl (by omega))) (fun h => Or.inr (Or.inr h)))⟩
  obtain ⟨v, v1, v2, v3⟩ := jin_nat (hall j h2)
  rw [f2 j b h1, Nat.zero_add, v1, ji_n v2]
  exact ⟨rfl, v3⟩
theorem y_stands (hF : 100 < F) (hD : jDok D) {r k : Nat} (hr : r < jDn D) (hk : k < 8) (hkz : k = jDz D r) {x y z : Int32} {f : Nat → Nat} (hp : jpkd (jDa D r) (jxyz x y z) 6 0 0 = some f) {m : jMe} (hR : jRf D S m) : ∃ m', c_X10_stands F m 101 (Int32.ofNat r) (Int32.ofNat k) x y z = some m' ∧ jfx (fun b i => b = 108 ∧ 48 * r + 6 * k ≤ i ∧ i < 48 * r + 6 * k + 6) m m' ∧ jRf D S m' ∧ jyS D r k f m' := by
  have hr4 : r < 4 := Nat.lt_of_lt_of_le hr hD.1
  have hDr := hD.2.2.1 r hr4
  obtain ⟨p1, p2, p3⟩ := jatt_all hDr.2.1 (hD.2.2.2.1 r hr).2
  obtain ⟨q1, q2, q3⟩ := jpkd_s hD hr hp
  obtain ⟨m1, a1, a2, a3⟩ := y_stands_l3 (F := F) hr4 hk (x := x) (y := y) (z := z) 6 0 F m (by omega) (by omega) hR.1
  have a1 : c_X10_stands_l3 F F m 101 (Int32.ofNat r) (Int32.ofNat k) x y z (0 : Int32) = _ := a1
  have hR1 := jRf_junk hD hr4 hk hkz a2 hR
  obtain ⟨m2, b1, b2, b3⟩ := y_stands_l37 (F := F) hF hD hr hk (x := x) (y := y) (z := z) (jpop 8 (jDa D r)) 0 F m1 (by omega) (by have := jpop_le 8 (jDa D r); omega) hR1 hkz
  have b1 : c_X10_stands_l37 F F m1 101 (Int32.ofNat r) (Int32.ofNat k) x y z (0 : Int32) = _ := b1
  refine ⟨m2, ?_, a2.trans b2, jRf_junk hD hr4 hk hkz b2 hR1, fun a ha => ?_⟩
  · unfold c_X10_stands
    rw [a1, jb_some]
    dsimp only
    rw [b1, jb_some]
  · cases e : (jDa D r).testBit a with
    | true =>
      obtain ⟨j, j1, j2⟩ := p2 a ha e
      rw [(b3 a ha).1 j (by omega) j1 j2, if_pos rfl]
      exact ⟨(q2 j a j2 j1).1, (q2 j a j2 j1).2, fun h => by cases h⟩
    | false =>
      have h0 := q3 a (Or.inr e)
      rw [(b3 a ha).2 (fun j h4 h5 h6 => by
        obtain ⟨c, c1, c2, c3⟩ := p1 j h5
        rw [c1] at h6
        cases h6
        rw [e] at c3
        cases c3), a3 a ha, if_pos (by omega), if_neg (by decide), h0]
      exact ⟨rfl, by omega, fun _ => rfl⟩
end YSTAND
