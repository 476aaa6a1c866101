/-! KEPT and CHECKS -/
def jgrow (A : Nat → Nat) (q : Nat) : Nat → Nat → Nat → Nat → Nat × Nat
  | 0, _, k, c => (k, c)
  | t + 1, a, k, c => if q.testBit a = true then (if (jplant A 3 (k ||| 2 ^ a)).isSome = true then jgrow A q t (a + 1) (k ||| 2 ^ a) c else jgrow A q t (a + 1) k (c ||| 2 ^ a)) else jgrow A q t (a + 1) k c
def jkept (A : Nat → Nat) (q : Nat) : Nat := (jgrow A q 4 0 0 0).1
def jchk (A : Nat → Nat) (q : Nat) : Nat := (jgrow A q 4 0 0 0).2
/-- of the row of relations: its cell, and attributes -/
def jRA (m : jMe) (A : Nat → Nat) : Prop := jK m 33 = 5 ∧ jZ m 33 = 4 ∧ ∀ r, r < 4 → jP m 33 r = jrc r ∧ jK m (jrc r) = 36 ∧ jI m (jrc r) 3 = Int32.ofNat (A r)
theorem jRA_of {m m' : jMe} {A : Nat → Nat} (hK : jK m' = jK m) (hZ : jZ m' = jZ m) (hP : jP m' = jP m) (hI : ∀ r, r < 4 → jI m' (jrc r) = jI m (jrc r)) (h : jRA m A) : jRA m' A := by
  unfold jRA at h ⊢
  rw [hK, hZ, hP]
  exact ⟨h.1, h.2.1, fun r hr => ⟨(h.2.2 r hr).1, (h.2.2 r hr).2.1, by rw [hI r hr]; exact (h.2.2 r hr).2.2⟩⟩
/-- what may change as a tree is grown -/
def jSg (b : Nat) : Nat → Prop := fun a => b ≤ a ∧ a ≤ b + 4
theorem jSp_g {b : Nat} : ∀ a, jSp b a → jSg b a := fun a h => by
  unfold jSp at h
  unfold jSg
  omega
theorem jset_or2 {k a : Nat} (hk : k < 2 ^ a) (ha : a < 4) : Int32.ofNat k ||| jshl (1 : Int32) (Int32.ofNat a) = Int32.ofNat (k ||| 2 ^ a) ∧ k ||| 2 ^ a < 2 ^ (a + 1) ∧ k ||| 2 ^ a < 16 := by
  have h1 := jp2 (i := a) (j := 3) (by omega)
  have h2 : k ||| 2 ^ a < 2 ^ (a + 1) := Nat.or_lt_two_pow (Nat.lt_of_lt_of_le hk (jp2 (by omega))) (by rw [Nat.pow_succ]; have := Nat.two_pow_pos a; omega)
  have h3 := jp2 (i := a + 1) (j := 4) (by omega)
  exact ⟨jset_or (by omega) (by omega), h2, by omega⟩
section GROW2
variable {F b : Nat} {A : Nat → Nat}
theorem q_grow_l12 (hF : 2000 < F) (hb : b + 4 < 77 ∧ 33 < b) (hA : ∀ q, q < 4 → A q < 64) {q : Nat} (hq : q < 16) : ∀ (t a k c g : Nat) (m : jMe), jLT m b → jRA m A → a + t = 4 → t < g → k < 2 ^ a → c < 2 ^ a → jI m b 6 = Int32.ofNat k → jI m b 7 = Int32.ofNat c → (∀ x, x < a → jI m (b + 4) x = Int32.ofNat (A x)) → ∃ m', c_X8_grow_l12 F g m b 33 (Int32.ofNat q) (Int32.ofNat a) = some (m', b) ∧ jfr (jSg b) m m' ∧ jI m' b 6 = Int32.ofNat (jgrow A q t a k c).1 ∧ jI m' b 7 = Int32.ofNat (jgrow A q t a k c).2 ∧ (jgrow A q t a k c).1 < 16 ∧ (jgrow A q t a k c).2 < 16 ∧ (∀ x, x < 4 → jI m' (b + 4) x = Int32.ofNat (A x)) := by
  intro t
  induction t with
  | zero =>
    intro a k c g m hL hR h1 h2 hk hc h6 h7 hm
    obtain ⟨g, rfl⟩ := jsucc h2
    have h16 := jp2 (i := a) (j := 4) (by omega)
    refine ⟨m, ?_, jfr.rfl, h6, h7, by show k < 16; omega, by show c < 16; omega, fun x hx => hm x (by omega)⟩
    show c_X8_grow_l12_b F _ m _ _ _ _ = _
    unfold c_X8_grow_l12_b
    rw [jl_4, if_pos (ji_lep (by omega) (by omega) (by omega))]
  | succ t ih =>
    intro a k c g m hL hR h1 h2 hk hc h6 h7 hm
    obtain ⟨g, rfl⟩ := jsucc h2
    have hL0 := hL
    obtain ⟨l1, l2, l3, l4, l5, l6, l7, l8, l9, l10, l11, l12, l13⟩ := hL
    obtain ⟨r1, r2, r3⟩ := hR
    obtain ⟨r4, r5, r6⟩ := r3 a (by omega)
    generalize hm1 : jsI m (b + 4) a (Int32.ofNat (A a)) = m1
    have hf1 : jfr (jSg b) m m1 := by
      rw [← hm1]
      exact jsI_f ⟨by omega, by omega⟩
    have hL1 : jLT m1 b := jLT_of hf1.2.2.1 hf1.2.2.2.1 hf1.2.2.2.2.1 hL0
    have hR0 : jRA m A := ⟨r1, r2, r3⟩
    have hrc : ∀ r, r < 4 → ¬ jSg b (jrc r) := fun r hr => by unfold jSg jrc; omega
    have hR1 : jRA m1 A := jRA_of hf1.2.2.1 hf1.2.2.2.1 hf1.2.2.2.2.1 (fun r hr => hf1.2.2.2.2.2.1 _ (hrc r hr)) hR0
    have hb1 : jI m1 b = jI m b := by rw [← hm1, jsI_n (by omega)]
    have ha1 : jI m1 (b + 4) = jupd (jI m (b + 4)) a (Int32.ofNat (A a)) := by rw [← hm1, jsI_e]
    have hm1' : ∀ x, x < a + 1 → jI m1 (b + 4) x = Int32.ofNat (A x) := by
      intro x hx
      rw [ha1]
      by_cases e : x = a
      · rw [e, jupd_e]
      · rw [jupd_n e, hm x (by omega)]
    obtain ⟨k1, k2, k3⟩ := jset_or2 hk (show a < 4 by omega)
    obtain ⟨k4, k5, k6⟩ := jset_or2 hc (show a < 4 by omega)
    have hpp : 2 ^ a ≤ 2 ^ (a + 1) := jp2 (by omega)
    have hst : ∀ z, (if jbi (q.testBit a) = 0 then c_X8_grow_l12 F g m1 b 33 (Int32.ofNat q) (Int32.ofNat (a + 1)) else jb (c_X8_plant F m1 b (Int32.ofNat (k ||| 2 ^ a))) fun t13 => jgd (jK t13.2 b = 40) <| (if t13.1 = 0 then c_X8_grow_j68_l12 F (fun m y0 y1 y2 y3 => c_X8_grow_l12 F g m y0 y1 y2 y3) t13.2 b 33 (Int32.ofNat q) (Int32.ofNat a) t13.1 (0 : Int32) (jI t13.2 b 6) b else c_X8_grow_j68_l12 F (fun m y0 y1 y2 y3 => c_X8_grow_l12 F g m y0 y1 y2 y3) t13.2 b 33 (Int32.ofNat q) (Int32.ofNat a) t13.1 (jshl (1 : Int32) (Int32.ofNat a)) (jI t13.2 b 6) b)) = z → c_X8_grow_l12 F (g + 1) m b 33 (Int32.ofNat q) (Int32.ofNat a) = z := by
      intro z h
      rw [← h]
      show c_X8_grow_l12_b F _ m _ _ _ _ = _
      unfold c_X8_grow_l12_b
      rw [jl_4, if_neg (ji_len (by omega) (by omega) (by omega)), jgd_t l1, jgd_t r1, r2, jgd_t (ji_int (by omega) (by omega)), ji_n (by omega), r4, jgd_t r5, l5, jgd_t l12, l13, jgd_t (ji_int (by omega) (by omega)), r6, hm1, q_isIn (by omega) (by omega), jb_some, hb1, h6, k1, show Int32.ofNat a + 1 = Int32.ofNat (a + 1) from ji_add a 1]
    unfold jgrow
    cases eq : q.testBit a with
    | false =>
      rw [if_neg (by decide)]
      obtain ⟨m', y1, y2, y3⟩ := ih (a + 1) k c g m1 hL1 hR1 (by omega) (by omega) (by omega) (by omega) (by rw [hb1, h6]) (by rw [hb1, h7]) hm1'
      refine ⟨m', hst _ ?_, hf1.trans y2, y3⟩
      rw [eq, if_pos (by decide)]
      exact y1
    | true =>
      rw [if_pos rfl]
      have hmq : ∀ q', q' < 4 → (k ||| 2 ^ a).testBit q' = true → jI m1 (b + 4) q' = Int32.ofNat (A q') := by
        intro q' h1 h2
        refine hm1' q' ?_
        rcases Nat.lt_or_ge q' (a + 1) with h | h
        · exact h
        · rw [Nat.testBit_lt_two_pow (Nat.lt_of_lt_of_le k2 (jp2 h))] at h2
          cases h2
      obtain ⟨m2, p1, p2, p3, p4⟩ := q_plant hF hA hL1 hmq k3
      have hL2 : jLT m2 b := jLT_of p2.2.2.1 p2.2.2.2.1 p2.2.2.2.2.1 hL1
      have h26 : jI m2 b 6 = Int32.ofNat k := by rw [p3 6 (by omega) (by omega), hb1, h6]
      have h27 : jI m2 b 7 = Int32.ofNat c := by rw [p3 7 (by omega) (by omega), hb1, h7]
      have h24 : jI m2 (b + 4) = jI m1 (b + 4) := p2.2.2.2.2.2.1 _ (by unfold jSp; omega)
      have hf2 : jfr (jSg b) m m2 := hf1.trans (p2.weak jSp_g)
      cases ei : (jplant A 3 (k ||| 2 ^ a)).isSome with
      | false =>
        rw [if_neg (by decide)]
        generalize hm3 : jsI (jsI m2 b 6 (Int32.ofNat k)) b 7 (Int32.ofNat (c ||| 2 ^ a)) = m3
        have hf3 : jfr (jSg b) m2 m3 := by
          rw [← hm3]
          exact (jsI_f (S := jSg b) ⟨by omega, by omega⟩).trans (jsI_f ⟨by omega, by omega⟩)
        have hL3 : jLT m3 b := jLT_of hf3.2.2.1 hf3.2.2.2.1 hf3.2.2.2.2.1 hL2
        have hf03 := hf2.trans hf3
        have hR3 : jRA m3 A := jRA_of hf03.2.2.1 hf03.2.2.2.1 hf03.2.2.2.2.1 (fun r hr => hf03.2.2.2.2.2.1 _ (hrc r hr)) hR0
        obtain ⟨m', y1, y2, y3⟩ := ih (a + 1) k (c ||| 2 ^ a) g m3 hL3 hR3 (by omega) (by omega) (by omega) (by omega) (by rw [← hm3, jsI_e, jupd_n (by omega), jsI_e, jupd_e]) (by rw [← hm3, jsI_e, jupd_e]) (fun x hx => by rw [← hm3, jsI_n (by omega), jsI_n (by omega), h24]; exact hm1' x hx)
        refine ⟨m', hst _ ?_, hf03.trans y2, y3⟩
        rw [eq, if_neg (by decide), p1, jb_some]
        dsimp only
        rw [jgd_t hL2.1, ei, if_pos (show jbi false = 0 from rfl)]
        unfold c_X8_grow_j68_l12 c_X8_grow_j89_l12
        rw [jgd_t hL2.1, jgd_t hL2.1, if_pos (show jbi false = 0 from rfl), h26, Int32.or_zero, jsI_e, jupd_n (by omega), h27, k4]
        have : jK (jsI m2 b 6 (Int32.ofNat k)) b = 40 := hL2.1
        rw [jgd_t this, hm3, show Int32.ofNat a + 1 = Int32.ofNat (a + 1) from ji_add a 1]
        exact y1
      | true =>
        rw [if_pos rfl]
        generalize hm3 : jsI (jsI m2 b 6 (Int32.ofNat (k ||| 2 ^ a))) b 7 (Int32.ofNat c) = m3
        have hf3 : jfr (jSg b) m2 m3 := by
          rw [← hm3]
          exact (jsI_f (S := jSg b) ⟨by omega, by omega⟩).trans (jsI_f ⟨by omega, by omega⟩)
        have hL3 : jLT m3 b := jLT_of hf3.2.2.1 hf3.2.2.2.1 hf3.2.2.2.2.1 hL2
        have hf03 := hf2.trans hf3
        have hR3 : jRA m3 A := jRA_of hf03.2.2.1 hf03.2.2.2.1 hf03.2.2.2.2.1 (fun r hr => hf03.2.2.2.2.2.1 _ (hrc r hr)) hR0
        obtain ⟨m', y1, y2, y3⟩ := ih (a + 1) (k ||| 2 ^ a) c g m3 hL3 hR3 (by omega) (by omega) (by omega) (by omega) (by rw [← hm3, jsI_e, jupd_n (by omega), jsI_e, jupd_e]) (by rw [← hm3, jsI_e, jupd_e]) (fun x hx => by rw [← hm3, jsI_n (by omega), jsI_n (by omega), h24]; exact hm1' x hx)
        refine ⟨m', hst _ ?_, hf03.trans y2, y3⟩
        rw [eq, if_neg (by decide), p1, jb_some]
        dsimp only
        rw [jgd_t hL2.1, ei, if_neg (show ¬ jbi true = 0 by decide)]
        unfold c_X8_grow_j68_l12 c_X8_grow_j89_l12
        rw [jgd_t hL2.1, jgd_t hL2.1, if_neg (show ¬ jbi true = 0 by decide), h26, k1, jsI_e, jupd_n (by omega), h27, Int32.or_zero]
        have : jK (jsI m2 b 6 (Int32.ofNat (k ||| 2 ^ a))) b = 40 := hL2.1
        rw [jgd_t this, hm3, show Int32.ofNat a + 1 = Int32.ofNat (a + 1) from ji_add a 1]
        exact y1
end GROW2
