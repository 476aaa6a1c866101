/-! answers are counted, as the class does it -/
section WALK2
variable {F b : Nat} {D : jD}
/-- what a walk leaves in use: u before, u' behind -/
def jus (D : jD) (t r o : Nat) (R : Nat → Nat) (u u' : Nat → Int64) : Prop := ∀ i k, i < 4 → k < 8 → u' (i * 8 + k) = u (i * 8 + k) + Int64.ofNat (if r ≤ i ∧ (jDq D).testBit i = true then o * jwk D (jfr1 i k) t r R else 0)
theorem jq_add0 (x : Int64) : x + Int64.ofNat 0 = x := by
  show x + 0 = x
  exact Int64.add_zero x
/-- a relation's rows are gone through -/
theorem q_walk_l14 {t r : Nat} (hr : r < 4) (hqr : (jDq D).testBit r = true) {st sp : Int32} {o : Nat} {R : Nat → Nat} (hs : jsw D (jPq D r) R st sp) {G : Nat → jMe → Nat → Int32 → Int32 → Int32 → Int64 → Option (Int64 × jMe)} (hG : ∀ (m : jMe) (k : Nat), jIn D b m → (∀ x, x < 4 → (jDq D).testBit x = true → jI m (b + 11) x = Int32.ofNat (jpw D x)) → jI m b 13 = Int32.ofNat (jDq D) → k < jDz D r → jMq D R r k = true → ∃ m', G 0 m b (Int32.ofNat (r + 1)) (st ||| jI m (jrv r) k) (sp ||| jI m (jrc r) 4) (Int64.ofNat (o * jwth D r k)) = some (Int64.ofNat (o * jwth D r k * jwk D jf1 t (r + 1) (fun y => if y = r then k else R y)), m') ∧ jfr (· = b + 9) m m' ∧ jI m' = jI m ∧ jus D t (r + 1) (o * jwth D r k) (fun y => if y = r then k else R y) (jL m (b + 9)) (jL m' (b + 9))) : ∀ (w k f : Nat) (m : jMe) (s : Nat), k + w = jDz D r → w < f → jIn D b m → (∀ x, x < 4 → (jDq D).testBit x = true → jI m (b + 11) x = Int32.ofNat (jpw D x)) → jI m b 13 = Int32.ofNat (jDq D) → ∃ m', c_X2_walkRows_l14 F G f m b (Int32.ofNat r) st sp (Int64.ofNat o) (jrc r) (Int64.ofNat s) (Int32.ofNat k) = some (m', Int64.ofNat (s + jsum w (fun i => if jMq D R r (k + i) = true then o * (jwth D r (k + i) * jwk D jf1 t (r + 1) (fun y => if y = r then k + i else R y)) else 0))) ∧ jfr (· = b + 9) m m' ∧ jI m' = jI m ∧ (∀ i x, i < 4 → x < 8 → jL m' (b + 9) (i * 8 + x) = jL m (b + 9) (i * 8 + x) + Int64.ofNat (if r + 1 ≤ i ∧ (jDq D).testBit i = true then jsum w (fun j => if jMq D R r (k + j) = true then o * (jwth D r (k + j) * jwk D (jfr1 i x) t (r + 1) (fun y => if y = r then k + j else R y)) else 0) else if i = r ∧ k ≤ x ∧ x < k + w ∧ jMq D R r x = true then o * (jwth D r x * jwk D jf1 t (r + 1) (fun y => if y = r then x else R y)) else 0)) := by
  have hsh : ∀ (n : Nat) (f : Nat → Nat), jsum (n + 1) f = f 0 + jsum n (fun i => f (i + 1)) := by
    intro n
    induction n with
    | zero => intro f; show 0 + f 0 = f 0 + 0; omega
    | succ n ih2 =>
      intro f
      rw [jsum_s, ih2, jsum_s]
      omega
  intro w
  induction w with
  | zero =>
    intro k f m s h1 h2 hI hp h13
    obtain ⟨f, rfl⟩ := jsucc h2
    have hz := (hI.2.2.2.2.2 r hr).2.2.1
    refine ⟨m, ?_, jfr.rfl, rfl, fun i x hi hx => ?_⟩
    · show c_X2_walkRows_l14_b F G _ m _ _ _ _ _ _ _ _ = _
      unfold c_X2_walkRows_l14_b
      rw [jgd_t (hI.2.2.1.2.2 r hr).2.1, (hI.2.2.2.2.1 r hr).2.2.2.1, if_pos (ji_lep (by omega) (by omega) (by omega))]
      rfl
    · have h1 : jsum 0 (fun j => if jMq D R r (k + j) = true then o * (jwth D r (k + j) * jwk D (jfr1 i x) t (r + 1) (fun y => if y = r then k + j else R y)) else 0) = 0 := rfl
      rw [h1, if_neg (show ¬ (i = r ∧ k ≤ x ∧ x < k + 0 ∧ jMq D R r x = true) by omega)]
      split <;> rw [jq_add0]
  | succ w ih =>
    intro k f m s h1 h2 hI hp h13
    obtain ⟨f, rfl⟩ := jsucc h2
    have hI0 := hI
    obtain ⟨i1, i2, i3, i4, i5, i6⟩ := hI
    obtain ⟨r1, r2⟩ := i3.2.2 r hr
    have hz := (i6 r hr).2.2.1
    have hk : k < jDz D r := by omega
    have hpa := i1.2.2.2.2.2.2.2.2.2.2.2.2.2.2.2.1
    have hus := i1.2.2.2.2.2.2.2.2.2.2.2.2.2.1
    have hMe := jMq_e hs k
    have hst : ∀ z, (if jbi (jpb D r k) = 0 then c_X2_walkRows_l14 F G f m b (Int32.ofNat r) st sp (Int64.ofNat o) (jrc r) (Int64.ofNat s) (Int32.ofNat (k + 1)) else (if jbi (jmg D r k (jSs D (jPq D r)) (jnb st)) = 0 then c_X2_walkRows_l14 F G f m b (Int32.ofNat r) st sp (Int64.ofNat o) (jrc r) (Int64.ofNat s) (Int32.ofNat (k + 1)) else jb (G 0 m b (Int32.ofNat (r + 1)) (st ||| jI m (jrv r) k) (sp ||| jI m (jrc r) 4) (Int64.ofNat (o * jwth D r k))) fun t24 => jgd (jK t24.2 b = 34) <| jgd (jK t24.2 (jP t24.2 b 4) = 2) <| jgd (jin (Int32.ofNat (r * 8 + k)) (jZ t24.2 (jP t24.2 b 4)) = true) <| jgd (jin (Int32.ofNat (r * 8 + k)) (jZ t24.2 (jP t24.2 b 4)) = true) <| c_X2_walkRows_l14 F G f (jsL t24.2 (jP t24.2 b 4) (r * 8 + k) (jL t24.2 (jP t24.2 b 4) (r * 8 + k) + t24.1)) b (Int32.ofNat r) st sp (Int64.ofNat o) (jrc r) (Int64.ofNat s + t24.1) (Int32.ofNat (k + 1)))) = z → c_X2_walkRows_l14 F G (f + 1) m b (Int32.ofNat r) st sp (Int64.ofNat o) (jrc r) (Int64.ofNat s) (Int32.ofNat k) = z := by
      intro z h
      rw [← h]
      show c_X2_walkRows_l14_b F G _ m _ _ _ _ _ _ _ _ = _
      unfold c_X2_walkRows_l14_b
      rw [jgd_t r2.1, (i5 r hr).2.2.2.1, if_neg (ji_len (by omega) (by omega) (by omega)), jgd_t i1.1, i1.2.2.2.2.2.2.2.1, jgd_t hpa.1, hpa.2, jgd_t (ji_int (by omega) hr), ji_n (by omega), hp r hr hqr, q_isIn (by omega) (by have := jpw_lt (D := D) (r := r); omega), jb_some, jpw_bit (i6 r hr), q_matches r2 (i6 r hr) (i5 r hr) hk hs.1, jb_some, r2.2.1, jgd_t r2.2.2.2.1, r2.2.2.2.2.1, jgd_t (ji_int (by omega) (by omega)), q_worthOf r2 (i6 r hr) (i5 r hr) hk, jb_some, ji_n (by omega), jq_mul, jl_8, ji_mul, ji_add, ji_n (by omega), show Int32.ofNat r + 1 = Int32.ofNat (r + 1) from ji_add r 1, show Int32.ofNat k + 1 = Int32.ofNat (k + 1) from ji_add k 1]
    have hadd : ∀ j, k + (j + 1) = k + 1 + j := fun j => by omega
    cases eM : jMq D R r k with
    | false =>
      rw [eM] at hMe
      obtain ⟨m', y1, y2, y3, y4⟩ := ih (k + 1) f m s (by omega) (by omega) hI0 hp h13
      refine ⟨m', hst _ ?_, y2, y3, fun i x hi hx => ?_⟩
      · have hss : ∀ (z : Nat → Nat), jsum (w + 1) (fun i => if jMq D R r (k + i) = true then z (k + i) else 0) = jsum w (fun i => if jMq D R r (k + 1 + i) = true then z (k + 1 + i) else 0) := by
          intro z
          rw [hsh, Nat.add_zero, eM, if_neg (by decide), Nat.zero_add]
          exact jsum_c (fun i hi => by rw [hadd])
        rw [hss (fun x => o * (jwth D r x * jwk D jf1 t (r + 1) (fun y => if y = r then x else R y)))]
        cases e1 : jpb D r k with
        | false =>
          rw [if_pos (by decide)]
          exact y1
        | true =>
          rw [e1, Bool.true_and] at hMe
          rw [if_neg (by decide), hMe, if_pos (by decide)]
          exact y1
      · rw [y4 i x hi hx]
        congr 2
        have hss : jsum (w + 1) (fun j => if jMq D R r (k + j) = true then o * (jwth D r (k + j) * jwk D (jfr1 i x) t (r + 1) (fun y => if y = r then k + j else R y)) else 0) = jsum w (fun j => if jMq D R r (k + 1 + j) = true then o * (jwth D r (k + 1 + j) * jwk D (jfr1 i x) t (r + 1) (fun y => if y = r then k + 1 + j else R y)) else 0) := by
          rw [hsh, Nat.add_zero, eM, if_neg (by decide), Nat.zero_add]
          exact jsum_c (fun i hi => by rw [hadd])
        rw [hss]
        by_cases hx2 : x = k
        · subst hx2
          rw [if_neg (show ¬ (i = r ∧ x + 1 ≤ x ∧ x < x + 1 + w ∧ jMq D R r x = true) by omega), if_neg (show ¬ (i = r ∧ x ≤ x ∧ x < x + (w + 1) ∧ jMq D R r x = true) by rw [eM]; simp)]
        · have hiff : (i = r ∧ k + 1 ≤ x ∧ x < k + 1 + w ∧ jMq D R r x = true) ↔ (i = r ∧ k ≤ x ∧ x < k + (w + 1) ∧ jMq D R r x = true) := by
            constructor
            · rintro ⟨a1, a2, a3, a4⟩
              exact ⟨a1, by omega, by omega, a4⟩
            · rintro ⟨a1, a2, a3, a4⟩
              exact ⟨a1, by omega, by omega, a4⟩
          simp only [hiff]
    | true =>
      rw [eM] at hMe
      rw [Bool.and_eq_true] at hMe
      obtain ⟨m1, a1, a2, a3, a4⟩ := hG m k hI0 hp h13 hk eM
      have hI1 : jIn D b m1 := jIn_fr (S := (· = b + 9)) (fun a ha => by omega) a2 hI0
      have hk8 : k < 8 := by omega
      -- what is counted at this row
      have hmo : o * jwth D r k * jwk D jf1 t (r + 1) (fun y => if y = r then k else R y) = o * (jwth D r k * jwk D jf1 t (r + 1) (fun y => if y = r then k else R y)) := Nat.mul_assoc _ _ _
      rw [hmo] at a1
      generalize hmore : o * (jwth D r k * jwk D jf1 t (r + 1) (fun y => if y = r then k else R y)) = more at a1
      generalize hm2 : jsL m1 (b + 9) (r * 8 + k) (jL m1 (b + 9) (r * 8 + k) + Int64.ofNat more) = m2
      have hf2 : jfr (· = b + 9) m m2 := by
        rw [← hm2]
        exact a2.trans (jsL_f (S := (· = b + 9)) rfl)
      have hI2 : jIn D b m2 := jIn_fr (S := (· = b + 9)) (fun a ha => by omega) hf2 hI0
      have hIe : jI m2 = jI m := by rw [← hm2, jI_sL, a3]
      have hL2 : jL m2 (b + 9) = jupd (jL m1 (b + 9)) (r * 8 + k) (jL m1 (b + 9) (r * 8 + k) + Int64.ofNat more) := by rw [← hm2, jsL_e]
      obtain ⟨m', y1, y2, y3, y4⟩ := ih (k + 1) f m2 (s + more) (by omega) (by omega) hI2 (fun x hx hq => by rw [hIe]; exact hp x hx hq) (by rw [hIe]; exact h13)
      refine ⟨m', hst _ ?_, hf2.trans y2, by rw [y3, hIe], fun i x hi hx => ?_⟩
      · have hss : jsum (w + 1) (fun i => if jMq D R r (k + i) = true then o * (jwth D r (k + i) * jwk D jf1 t (r + 1) (fun y => if y = r then k + i else R y)) else 0) = more + jsum w (fun i => if jMq D R r (k + 1 + i) = true then o * (jwth D r (k + 1 + i) * jwk D jf1 t (r + 1) (fun y => if y = r then k + 1 + i else R y)) else 0) := by
          rw [hsh, ← hmore]
          congr 1
          · simp only [Nat.add_zero]
            rw [eM, if_pos rfl]
          · exact jsum_c (fun i hi => by rw [hadd])
        rw [hss, ← Nat.add_assoc, hMe.1, hMe.2, if_neg (by decide), if_neg (by decide), a1, jb_some]
        dsimp only
        rw [jgd_t hI1.1.1, hI1.1.2.2.2.2.2.1, jgd_t hI1.1.2.2.2.2.2.2.2.2.2.2.2.2.2.1.1, hI1.1.2.2.2.2.2.2.2.2.2.2.2.2.2.1.2, jgd_t (ji_int (by omega) (by omega)), jgd_t (ji_int (by omega) (by omega)), hm2, jq_add]
        exact y1
      · have h4 := a4 i x hi hx
        rw [y4 i x hi hx, hL2]
        by_cases hA : r + 1 ≤ i ∧ (jDq D).testBit i = true
        · rw [if_pos hA] at h4
          rw [if_pos hA, if_pos hA, jupd_n (by omega), h4, Int64.add_assoc, jq_add]
          congr 2
          rw [hsh]
          congr 1
          · simp only [Nat.add_zero]
            rw [eM, if_pos rfl, Nat.mul_assoc]
          · exact (jsum_c (fun i hi => by rw [hadd])).symm
        · rw [if_neg hA, jq_add0] at h4
          rw [if_neg hA, if_neg hA]
          by_cases hB : i = r ∧ x = k
          · obtain ⟨rfl, rfl⟩ := hB
            rw [jupd_e, h4, if_neg (show ¬ (i = i ∧ x + 1 ≤ x ∧ x < x + 1 + w ∧ jMq D R i x = true) by omega), jq_add0, if_pos ⟨rfl, Nat.le_refl _, by omega, eM⟩, hmore]
          · rw [jupd_n (by omega), h4]
            congr 2
            have hiff : (i = r ∧ k + 1 ≤ x ∧ x < k + 1 + w ∧ jMq D R r x = true) ↔ (i = r ∧ k ≤ x ∧ x < k + (w + 1) ∧ jMq D R r x = true) := by
              constructor
              · rintro ⟨a1, a2, a3, a4⟩
                exact ⟨a1, by omega, by omega, a4⟩
              · rintro ⟨a1, a2, a3, a4⟩
                refine ⟨a1, ?_, by omega, a4⟩
                rcases Nat.lt_or_ge k x with h | h
                · exact h
                · exact absurd ⟨a1, by omega⟩ hB
            simp only [hiff]
end WALK2
