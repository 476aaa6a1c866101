/-! what is drawn -/
/-- rows as digits -/
def jdg (D : jD) (R : Nat → Nat) : Nat → Nat → Nat → Nat
  | 0, _, v => v
  | t + 1, r, v => jdg D R t (r + 1) (if (jDq D).testBit r = true then v * 10 + R r + 1 else v)
/-- the first of the query that has an attribute; its value -/
def jfa (D : jD) (a : Nat) : Nat → Nat → Option Nat
  | 0, _ => none
  | t + 1, r => if (jDq D).testBit r = true ∧ (jDa D r).testBit a = true then some r else jfa D a t (r + 1)
def jav (D : jD) (R : Nat → Nat) (a : Nat) : Int32 := match jfa D a 4 0 with
  | none => -1
  | some r => Int32.ofNat (jDv D r (R r) a)
/-- numbers are drawn till one is good: rows, how many -/
def jdrw (D : jD) : Nat → Int32 → Nat → Option (Nat → Nat) × Nat
  | 0, _, c => (none, c)
  | t + 1, z, c => match jlead D (jbelow (jsp D 4) z).1 with
    | some R => (some R, c + 1)
    | none => jdrw D t (jbelow (jsp D 4) z).2 (c + 1)
def jdraw (D : jD) (z : Int32) : Option (Nat → Nat) × Nat := if jsp D 4 = 0 then (none, 0) else jdrw D 20 z 0
def jdgo (D : jD) (o : Option (Nat → Nat)) : Int32 := match o with
  | none => -1
  | some R => Int32.ofNat (jdg D R 4 0 0)
theorem jfa_in {D : jD} {a : Nat} : ∀ {t r x : Nat}, jfa D a t r = some x → r ≤ x ∧ x < r + t ∧ (jDq D).testBit x = true ∧ (jDa D x).testBit a = true := by
  intro t
  induction t with
  | zero => intro r x h; cases h
  | succ t ih =>
    intro r x h
    unfold jfa at h
    by_cases e : (jDq D).testBit r = true ∧ (jDa D r).testBit a = true
    · rw [if_pos e] at h
      cases h
      exact ⟨Nat.le_refl _, by omega, e⟩
    · rw [if_neg e] at h
      have := ih h
      exact ⟨by omega, by omega, this.2.2⟩
theorem jfa_none {D : jD} {a : Nat} : ∀ {t r : Nat}, jfa D a t r = none → ∀ x, r ≤ x → x < r + t → ¬ ((jDq D).testBit x = true ∧ (jDa D x).testBit a = true) := by
  intro t
  induction t with
  | zero => intro r h x h1 h2; omega
  | succ t ih =>
    intro r h x h1 h2
    unfold jfa at h
    by_cases e : (jDq D).testBit r = true ∧ (jDa D r).testBit a = true
    · rw [if_pos e] at h
      cases h
    · rw [if_neg e] at h
      by_cases ex : x = r
      · rw [ex]
        exact e
      · exact ih h x (by omega) (by omega)
section DRAWN
variable {F b : Nat} {D : jD}
theorem q_digits_l4 {m : jMe} {R : Nat → Nat} (hI : jIn D b m) (hq : jDq D < 16) (h13 : jI m b 13 = Int32.ofNat (jDq D)) (hs : jsd D (fun x => (jDq D).testBit x) R b m) : ∀ (t r f v : Nat), r + t = 4 → t < f → v < 10 ^ r → c_X2_digits_l4 F m f b (Int32.ofNat v) (Int32.ofNat r) = some (Int32.ofNat (jdg D R t r v)) ∧ jdg D R t r v < 10 ^ 4 := by
  have hpk := hI.1.2.2.2.2.2.2.2.2.2.2.2.2.2.2.2.2.1
  intro t
  induction t with
  | zero =>
    intro r f v h1 h2 h3
    obtain ⟨f, rfl⟩ := jsucc h2
    have hr : r = 4 := by omega
    subst hr
    refine ⟨?_, h3⟩
    show c_X2_digits_l4_b F _ m _ _ _ = _
    unfold c_X2_digits_l4_b
    rw [jl_4, if_pos (ji_lep (by omega) (by omega) (by omega))]
    rfl
  | succ t ih =>
    intro r f v h1 h2 h3
    obtain ⟨f, rfl⟩ := jsucc h2
    have h10 : 10 ^ r ≤ 10 ^ 3 := Nat.pow_le_pow_right (by omega) (by omega)
    have hst : ∀ y, (if jbi ((jDq D).testBit r) = 0 then c_X2_digits_l4 F m f b (Int32.ofNat v) (Int32.ofNat (r + 1)) else c_X2_digits_l4 F m f b (Int32.ofNat v * (10 : Int32) + jI m (b + 12) r + (1 : Int32)) (Int32.ofNat (r + 1))) = y → c_X2_digits_l4 F m (f + 1) b (Int32.ofNat v) (Int32.ofNat r) = y := by
      intro y h
      rw [← h]
      show c_X2_digits_l4_b F _ m _ _ _ = _
      unfold c_X2_digits_l4_b
      rw [jl_4, if_neg (ji_len (by omega) (by omega) (by omega)), jgd_t hI.1.1, h13, q_isIn (by omega) (by omega), jb_some, hI.1.2.2.2.2.2.2.2.2.1, jgd_t hpk.1, hpk.2, jgd_t (ji_int (by omega) (by omega)), ji_n (by omega), jlet_m, show Int32.ofNat r + 1 = Int32.ofNat (r + 1) from ji_add r 1]
    unfold jdg
    cases e : (jDq D).testBit r with
    | false =>
      rw [if_neg (by decide)]
      have := ih (r + 1) f v (by omega) (by omega) (by rw [Nat.pow_succ]; omega)
      refine ⟨hst _ ?_, this.2⟩
      rw [e, if_pos (by decide)]
      exact this.1
    | true =>
      rw [if_pos rfl]
      obtain ⟨s1, s2⟩ := hs.2.2.2 r (by omega) e
      have hz := (hI.2.2.2.2.2 r (by omega)).2.2.1
      have := ih (r + 1) f (v * 10 + R r + 1) (by omega) (by omega) (by rw [Nat.pow_succ]; omega)
      refine ⟨hst _ ?_, this.2⟩
      rw [e, if_neg (by decide), s1, show (10 : Int32) = Int32.ofNat 10 from rfl, show (1 : Int32) = Int32.ofNat 1 from rfl, ji_mul, ji_add, ji_add]
      exact this.1
theorem q_digits (hF : 100 < F) {m : jMe} {R : Nat → Nat} (hI : jIn D b m) (hq : jDq D < 16) (h13 : jI m b 13 = Int32.ofNat (jDq D)) (hs : jsd D (fun x => (jDq D).testBit x) R b m) : c_X2_digits F m b = some (Int32.ofNat (jdg D R 4 0 0)) ∧ jdg D R 4 0 0 < 10 ^ 4 := by
  have h := q_digits_l4 (F := F) hI hq h13 hs 4 0 F 0 (by omega) (by omega) (by decide)
  refine ⟨?_, h.2⟩
  unfold c_X2_digits
  have h1 : c_X2_digits_l4 F m F b (0 : Int32) (0 : Int32) = _ := h.1
  rw [h1, jb_some]
theorem q_answerValue {m : jMe} {R : Nat → Nat} {a : Nat} (ha : a < 6) (hI : jIn D b m) (hs : jsd D (fun x => (jDq D).testBit x) R b m) : c_X2_answerValue F m b (Int32.ofNat a) = some (jav D R a) := by
  unfold c_X2_answerValue c_X2_answerValue_j29
  rw [if_neg (ji_ge0 (by omega)), jl_6, if_neg (ji_len (by omega) (by omega) (by omega)), jgd_t hI.1.1, jgd_t hI.1.1, jl_4, ji_mul, jnb_at (by omega), jnb_at (by omega), hs.1 a (by omega)]
  unfold jav
  cases e : jfa D a 4 0 with
  | none =>
    have : jSs D (fun x => (jDq D).testBit x) a = false := by
      cases h : jSs D (fun x => (jDq D).testBit x) a with
      | false => rfl
      | true =>
        obtain ⟨x, x1, x2, x3⟩ := jSs_iff.mp h
        exact absurd ⟨x2, x3⟩ (jfa_none e x (by omega) (by omega))
    rw [this]
    rfl
  | some r =>
    obtain ⟨-, r1, r2, r3⟩ := jfa_in e
    have : jSs D (fun x => (jDq D).testBit x) a = true := jSs_iff.mpr ⟨r, by omega, r2, r3⟩
    rw [this, hs.2.1 a r (by omega) (by omega) r2 r3]
    rfl
/-- what may change as it is drawn -/
def jSdr (b : Nat) : Nat → Prop := fun a => a = b ∨ a = b + 10 ∨ a = b + 12 ∨ a = b + 13
theorem jJ_of {m m' : jMe} (hf : jfr (jSdr b) m m') (h5 : jI m' b 5 = jI m b 5) (h13 : jI m' b 13 = jI m b 13) (hL : jL m' b = jL m b) (h : jJ D b m) : jJ D b m' := by
  obtain ⟨h1, h2, h3, h4, h6, g, g1, g2, g3⟩ := h
  have hI : ∀ a, a ≠ b → a ≠ b + 10 → a ≠ b + 12 → a ≠ b + 13 → jI m' a = jI m a ∧ jL m' a = jL m a := fun a a1 a2 a3 a4 => ⟨hf.2.2.2.2.2.1 a (by unfold jSdr; omega), hf.2.2.2.2.2.2 a (by unfold jSdr; omega)⟩
  refine ⟨jIn_fr (S := jSdr b) (fun a ha => by unfold jSdr at ha; omega) hf h1, jTM_of (fun a a1 a2 => (hI a (by omega) (by omega) (by omega) (by omega)).1) h2, by rw [h13]; exact h3, fun r hr => by rw [(hI _ (by omega) (by omega) (by omega) (by omega)).1]; exact h4 r hr, fun x hx => by rw [(hI _ (by omega) (by omega) (by omega) (by omega)).2]; exact h6 x hx, g, by rw [h5]; exact g1, g2, fun hg => ?_⟩
  obtain ⟨k1, k2, k3⟩ := g3 hg
  exact ⟨fun r hr => jRd_of (hI _ (by omega) (by omega) (by omega) (by omega)).2 (hI _ (by omega) (by omega) (by omega) (by omega)).2 (k1 r hr), by rw [hL]; exact k2, k3⟩
theorem q_drawn_l15 (hF : 2000 < F) (hD : jDok D) (hq0 : jDq D ≠ 0) (h0 : 0 < jsp D 4) : ∀ (t k f c : Nat) (m : jMe) (z : Int32), k + t = 20 → t < f → c = k → jJ D b m → jI m b 5 = 0 → jI m (b + 10) 0 = z → jI m b 7 = Int32.ofNat c → ∃ m', c_X2_drawn_l15 F f m b (Int32.ofNat k) = some (match (jdrw D t z c).1 with
    | none => .inr m'
    | some R => .inl (Int32.ofNat (jdg D R 4 0 0), m')) ∧ jfr (jSdr b) m m' ∧ (∀ j, j ≠ 7 → j ≠ 16 → j ≠ 17 → jI m' b j = jI m b j) ∧ jL m' b = jL m b ∧ jI m' b 7 = Int32.ofNat (jdrw D t z c).2 ∧ (∀ R, (jdrw D t z c).1 = some R → jsd D (fun x => (jDq D).testBit x) R b m' ∧ jdg D R 4 0 0 < 10 ^ 4) := by
  intro t
  induction t with
  | zero =>
    intro k f c m z h1 h2 h3 hJ hg hz h7
    obtain ⟨f, rfl⟩ := jsucc h2
    refine ⟨m, ?_, jfr.rfl, fun _ _ _ _ => rfl, rfl, ?_, fun R h => ?_⟩
    · show c_X2_drawn_l15_b F _ m _ _ = _
      unfold c_X2_drawn_l15_b jdrw
      rw [jl_20, if_pos (ji_lep (by omega) (by omega) (by omega))]
    · unfold jdrw
      exact h7
    · unfold jdrw at h
      cases h
  | succ t ih =>
    intro k f c m z h1 h2 h3 hJ hg hz h7
    obtain ⟨f, rfl⟩ := jsucc h2
    have hq := jDok_q hD
    have hJ0 := hJ
    obtain ⟨hI, hM, hq13, hps, hbo, g, g1, g2, g3⟩ := hJ
    have hgf : g = false := by
      have h := hg
      rw [g1, jbi_0] at h
      exact h
    obtain ⟨-, hsp, hspm, -⟩ := g3 hgf
    have hbl := jbe_lt (nx := jnx) (bt := jb1) (n := jsp D 4) (s := jbn (jsp D 4 - 1) 63 0) h0 30 z 0
    have hbl : (jbelow (jsp D 4) z).1 < jsp D 4 := hbl
    have hj : jdrw D (t + 1) z c = match jlead D (jbelow (jsp D 4) z).1 with
      | some R => (some R, c + 1)
      | none => jdrw D t (jbelow (jsp D 4) z).2 (c + 1) := by rw [jdrw]
    rw [hj]
    generalize hm1 : jsI m b 7 (Int32.ofNat (c + 1)) = m1
    have hf1 : jfr (jSdr b) m m1 := by
      rw [← hm1]
      exact jsI_f (Or.inl rfl)
    have hK1 : jK m1 (b + 10) = 32 := by rw [hf1.2.2.1]; exact hI.1.2.2.2.2.2.2.2.2.2.2.2.2.2.2.1
    have hz1 : jI m1 (b + 10) 0 = z := by rw [← hm1, jsI_n (by omega)]; exact hz
    obtain ⟨m2, a1, a2, a3, a4⟩ := q_below (F := F) (b := b + 10) (by omega) hspm h0 hK1 hz1
    generalize jbelow (jsp D 4) z = w at a1 a4 hbl ⊢
    obtain ⟨w, z'⟩ := w
    dsimp only at a1 a4 hbl ⊢
    have hf2 : jfr (jSdr b) m m2 := hf1.trans (a2.weak (fun a h => Or.inr (Or.inl h)))
    have hb2 : ∀ j, j ≠ 7 → jI m2 b j = jI m b j := by
      intro j hj
      rw [a2.2.2.2.2.2.1 b (by omega), ← hm1, jsI_e, jupd_n hj]
    have hL2 : jL m2 b = jL m b := by rw [a3, ← hm1, jL_sI]
    have hJ2 : jJ D b m2 := jJ_of hf2 (hb2 5 (by omega)) (hb2 13 (by omega)) hL2 hJ0
    have hg2 : jI m2 b 5 = 0 := by rw [hb2 5 (by omega)]; exact hg
    obtain ⟨m3, b1, b2, b3, b4, b5⟩ := q_lead (F := F) hF hD hq0 hJ2 hg2 hbl
    have hf3 : jfr (jSdr b) m m3 := hf2.trans (b2.weak (fun a h => by unfold jSle at h; unfold jSdr; omega))
    have hb3 : ∀ j, j ≠ 7 → j ≠ 16 → j ≠ 17 → jI m3 b j = jI m b j := fun j j1 j2 j3 => by rw [b3 j j2 j3, hb2 j j1]
    have hL3 : jL m3 b = jL m b := by rw [b4, hL2]
    have hJ3 : jJ D b m3 := jJ_of hf3 (hb3 5 (by omega) (by omega) (by omega)) (hb3 13 (by omega) (by omega) (by omega)) hL3 hJ0
    have h73 : jI m3 b 7 = Int32.ofNat (c + 1) := by
      rw [b3 7 (by omega) (by omega), a2.2.2.2.2.2.1 b (by omega), ← hm1, jsI_e, jupd_e]
    have hst : ∀ y, (if jbi (jlead D w).isSome = 0 then c_X2_drawn_l15 F f m3 b (Int32.ofNat (k + 1)) else jb (c_X2_digits F m3 b) fun t18 => some (.inl (t18, m3))) = y → c_X2_drawn_l15 F (f + 1) m b (Int32.ofNat k) = y := by
      intro y h
      rw [← h]
      show c_X2_drawn_l15_b F _ m _ _ = _
      unfold c_X2_drawn_l15_b
      have hnl : ¬ lg_cmp (jL m b 6) (0 : Int64) ≤ 0 := by
        intro h
        rw [hsp] at h
        have h : lg_cmp (Int64.ofNat (jsp D 4)) (Int64.ofNat 0) ≤ 0 := h
        rw [jc_le0, jq_le hspm (Nat.zero_le _)] at h
        omega
      rw [jl_20, if_neg (ji_len (by omega) (by omega) (by omega)), jgd_t hI.1.1, if_neg hnl, h7, show Int32.ofNat c + 1 = Int32.ofNat (c + 1) from ji_add c 1, hm1, hf1.2.2.2.2.1, hI.1.2.2.2.2.2.2.1, jgd_t hI.1.2.2.2.2.2.2.2.2.2.2.2.2.2.2.1]
      have hLb : jL m1 b 6 = Int64.ofNat (jsp D 4) := by rw [← hm1, jL_sI]; exact hsp
      rw [hLb, a1, jb_some]
      dsimp only
      rw [jgd_t hJ2.1.1.1, b1, jb_some]
      dsimp only
      rw [jgd_t hJ3.1.1.1, show Int32.ofNat k + 1 = Int32.ofNat (k + 1) from ji_add k 1]
    cases el : jlead D w with
    | some R =>
      have hs := b5 R el
      obtain ⟨d1, d2⟩ := q_digits (F := F) (by omega) hJ3.1 hq hJ3.2.2.1 hs
      refine ⟨m3, hst _ ?_, hf3, hb3, hL3, h73, fun R' h => ?_⟩
      · rw [el, if_neg (show ¬ jbi (some R).isSome = 0 by show ¬ jbi true = 0; decide), d1, jb_some]
      · cases h
        exact ⟨hs, d2⟩
    | none =>
      have hz3 : jI m3 (b + 10) 0 = z' := by rw [b2.2.2.2.2.2.1 _ (by unfold jSle; omega)]; exact a4
      obtain ⟨m', y1, y2, y3, y4, y5, y6⟩ := ih (k + 1) f (c + 1) m3 z' (by omega) (by omega) (by omega) hJ3 (by rw [hb3 5 (by omega) (by omega) (by omega)]; exact hg) hz3 h73
      refine ⟨m', hst _ ?_, hf3.trans y2, fun j j1 j2 j3 => by rw [y3 j j1 j2 j3, hb3 j j1 j2 j3], by rw [y4, hL3], y5, y6⟩
      rw [el, if_pos (show jbi (none : Option (Nat → Nat)).isSome = 0 from rfl)]
      exact y1
end DRAWN
