/-! the tally -/
def jTly (D : jD) (b : Nat) (m : jMe) : Prop := jL m b 15 = Int64.ofNat (jct D jf1) ∧ ∀ i k, i < 4 → k < 8 → jL m (b + 9) (i * 8 + k) = Int64.ofNat (if (jDq D).testBit i = true then jct D (jfr1 i k) else 0)
def jSty (b : Nat) : Nat → Prop := fun a => a = b ∨ a = b + 9
section TALLY
variable {F b : Nat} {D : jD}
theorem jJ_of2 {m m' : jMe} (hf : jfr (jSty b) m m') (h5 : jI m' b 5 = jI m b 5) (h13 : jI m' b 13 = jI m b 13) (hL : jL m' b 6 = jL m b 6) (h : jJ D b m) : jJ D b m' := by
  obtain ⟨h1, h2, h3, h4, h6, g, g1, g2, g3⟩ := h
  have hI : ∀ a, a ≠ b → a ≠ b + 9 → jI m' a = jI m a ∧ jL m' a = jL m a := fun a a1 a2 => ⟨hf.2.2.2.2.2.1 a (by unfold jSty; omega), hf.2.2.2.2.2.2 a (by unfold jSty; omega)⟩
  refine ⟨jIn_fr (S := jSty b) (fun a ha => by unfold jSty at ha; omega) hf h1, jTM_of (fun a a1 a2 => (hI a (by omega) (by omega)).1) h2, by rw [h13]; exact h3, fun r hr => by rw [(hI _ (by omega) (by omega)).1]; exact h4 r hr, fun x hx => by rw [(hI _ (by omega) (by omega)).2]; exact h6 x hx, g, by rw [h5]; exact g1, g2, fun hg => ?_⟩
  obtain ⟨k1, k2, k3⟩ := g3 hg
  exact ⟨fun r hr => jRd_of (hI _ (by omega) (by omega)).2 (hI _ (by omega) (by omega)).2 (k1 r hr), by rw [hL]; exact k2, k3⟩
theorem q_tally (hF : 2000 < F) (hq16 : jDq D < 16) {m : jMe} (hJ : jJ D b m) (ht : jI m b 14 = 0 ∨ (jI m b 14 = 1 ∧ jTly D b m)) : ∃ m', c_X2_tally F m b = some (Int64.ofNat (jct D jf1), m') ∧ jfr (jSty b) m m' ∧ (∀ j, j ≠ 14 → jI m' b j = jI m b j) ∧ (∀ j, j ≠ 15 → jL m' b j = jL m b j) ∧ jJ D b m' ∧ jI m' b 14 = 1 ∧ jTly D b m' := by
  have hJ0 := hJ
  obtain ⟨hI, hM, hq13, hps, -⟩ := hJ
  rcases ht with ht | ⟨ht, hty⟩
  · have hus := hI.1.2.2.2.2.2.2.2.2.2.2.2.2.2.1
    obtain ⟨m1, a1, a2, a3⟩ := q_fillL (F := F) (x := 0) (b := b + 9) (z := 32) (m := m) (by omega) (by omega) hus.1 hus.2
    have hI1 : jIn D b m1 := jIn_fr (S := (· = b + 9)) (fun a ha => by omega) a2 hI
    have hIa : ∀ a, a ≠ b + 9 → jI m1 a = jI m a := fun a ha => a2.2.2.2.2.2.1 a ha
    have hw : ∃ m2, (if jI m1 b 13 = 0 then c_X2_tally_j35 F m1 b (0 : Int64) b else jb (c_X2_walk_s F 64 0 m1 b (0 : Int32) (0 : Int32) (0 : Int32) (1 : Int64)) fun t9 => c_X2_tally_j35 F t9.2 b t9.1 b) = c_X2_tally_j35 F m2 b (Int64.ofNat (jct D jf1)) b ∧ jfr (· = b + 9) m m2 ∧ (∀ a, a ≠ b + 9 → jI m2 a = jI m a) ∧ (∀ i k, i < 4 → k < 8 → jL m2 (b + 9) (i * 8 + k) = Int64.ofNat (if (jDq D).testBit i = true then jct D (jfr1 i k) else 0)) := by
      rw [hIa b (by omega), hq13]
      by_cases h0 : jDq D = 0
      · refine ⟨m1, ?_, a2, hIa, fun i k hi hk => ?_⟩
        · rw [if_pos (by rw [h0]; rfl)]
          unfold jct
          rw [if_pos h0]
          rfl
        · rw [a3, if_pos (by omega), h0, if_neg (by simp)]
          rfl
      · have hp1 : ∀ x, x < 4 → (jDq D).testBit x = true → jI m1 (b + 11) x = Int32.ofNat (jpw D x) := by
          intro x hx hb
          rw [hIa _ (by omega), hps x hx, if_pos hb]
        have hP0 : ∀ x, jPq D 0 x = false := by
          intro x
          unfold jPq
          rw [decide_eq_false (by omega), Bool.and_false]
        have hS0 : ∀ a, jSs D (jPq D 0) a = false := by
          intro a
          cases e : jSs D (jPq D 0) a with
          | false => rfl
          | true =>
            obtain ⟨x, -, h, -⟩ := jSs_iff.mp e
            rw [hP0] at h
            cases h
        have hs : jsw D (jPq D 0) (fun _ => 0) 0 0 := ⟨fun a ha => by rw [hS0, jnb_0]; rfl, (fun a r ha hr h => by rw [hP0] at h; cases h), fun a ha _ => jnb_0 a⟩
        obtain ⟨m2, b1, b2, b3, b4⟩ := q_walk (F := F) (by omega) hq16 4 4 0 64 m1 1 (fun _ => 0) 0 0 (by omega) (by omega) (by omega) hI1 hp1 (by rw [hIa b (by omega)]; exact hq13) hs
        have b1 : c_X2_walk_s F 64 0 m1 b (0 : Int32) (0 : Int32) (0 : Int32) (1 : Int64) = _ := b1
        have hct : ∀ f, jct D f = jwk D f 4 0 (fun _ => 0) := by
          intro f
          unfold jct
          rw [if_neg h0]
        refine ⟨m2, ?_, a2.trans b2, fun a ha => by rw [b3]; exact hIa a ha, fun i k hi hk => ?_⟩
        · rw [if_neg (show ¬ Int32.ofNat (jDq D) = 0 from fun h => h0 ((ji_eq (b := 0) (by omega) (by omega)).mp h)), b1, jb_some, hct, Nat.one_mul]
        · rw [b4 i k hi hk, a3, if_pos (by omega)]
          have h00 : (0 : Int64) + Int64.ofNat (if 0 ≤ i ∧ (jDq D).testBit i = true then 1 * jwk D (jfr1 i k) 4 0 (fun _ => 0) else 0) = Int64.ofNat (if 0 ≤ i ∧ (jDq D).testBit i = true then 1 * jwk D (jfr1 i k) 4 0 (fun _ => 0) else 0) := Int64.zero_add _
          rw [h00, hct, Nat.one_mul]
          have hiff : (0 ≤ i ∧ (jDq D).testBit i = true) ↔ (jDq D).testBit i = true := ⟨fun h => h.2, fun h => ⟨Nat.zero_le _, h⟩⟩
          simp only [hiff]
    obtain ⟨m2, w1, w2, w3, w4⟩ := hw
    have hI2 : jIn D b m2 := jIn_fr (S := (· = b + 9)) (fun a ha => by omega) w2 hI
    generalize hm3 : jsI (jsL m2 b 15 (Int64.ofNat (jct D jf1))) b 14 (1 : Int32) = m3
    have hf3 : jfr (jSty b) m m3 := by
      rw [← hm3]
      exact ((w2.weak (fun a h => Or.inr h)).trans (jsL_f (S := jSty b) (Or.inl rfl))).trans (jsI_f (Or.inl rfl))
    have hb3 : ∀ j, j ≠ 14 → jI m3 b j = jI m b j := by
      intro j hj
      rw [← hm3, jsI_e, jupd_n hj, jI_sL, w3 b (by omega)]
    have hL3 : ∀ j, j ≠ 15 → jL m3 b j = jL m b j := by
      intro j hj
      rw [← hm3, jL_sI, jsL_e, jupd_n hj, w2.2.2.2.2.2.2 b (by omega)]
    have h15 : jL m3 b 15 = Int64.ofNat (jct D jf1) := by rw [← hm3, jL_sI, jsL_e, jupd_e]
    have hK3 : jK m3 b = 34 := by rw [hf3.2.2.1]; exact hI.1.1
    refine ⟨m3, ?_, hf3, hb3, hL3, jJ_of2 hf3 (hb3 5 (by omega)) (hb3 13 (by omega)) (hL3 6 (by omega)) hJ0, by rw [← hm3, jsI_e, jupd_e], h15, fun i k hi hk => ?_⟩
    · unfold c_X2_tally
      rw [jgd_t hI.1.1, ht, if_pos rfl, hI.1.2.2.2.2.2.1, a1, jb_some, jgd_t hI1.1.1, w1]
      unfold c_X2_tally_j35 c_X2_tally_j43
      rw [jgd_t hI2.1.1, jgd_t hI2.1.1, hm3, jgd_t hK3, h15]
    · rw [← hm3, jL_sI, jsL_n (by omega)]
      exact w4 i k hi hk
  · refine ⟨m, ?_, jfr.rfl, fun _ _ => rfl, fun _ _ => rfl, hJ0, ht, hty⟩
    unfold c_X2_tally c_X2_tally_j43
    rw [jgd_t hI.1.1, ht, if_neg (show ¬ (1 : Int32) = 0 by decide), jgd_t hI.1.1, hty.1]
end TALLY
