/-! a join is told -/
theorem jP_sL {m : jMe} {a i : Nat} {x : Int64} : jP (jsL m a i x) = jP m := Eq.trans (Eq.refl _) (Eq.refl _)
theorem jK_sL {m : jMe} {a i : Nat} {x : Int64} : jK (jsL m a i x) = jK m := Eq.trans (Eq.refl _) (Eq.refl _)
theorem jZ_sL {m : jMe} {a i : Nat} {x : Int64} : jZ (jsL m a i x) = jZ m := Eq.trans (Eq.refl _) (Eq.refl _)
theorem jI_sL {m : jMe} {a i : Nat} {x : Int64} : jI (jsL m a i x) = jI m := Eq.trans (Eq.refl _) (Eq.refl _)
theorem jP_sI {m : jMe} {a i : Nat} {x : Int32} : jP (jsI m a i x) = jP m := Eq.trans (Eq.refl _) (Eq.refl _)
theorem jK_sI {m : jMe} {a i : Nat} {x : Int32} : jK (jsI m a i x) = jK m := Eq.trans (Eq.refl _) (Eq.refl _)
theorem jZ_sI {m : jMe} {a i : Nat} {x : Int32} : jZ (jsI m a i x) = jZ m := Eq.trans (Eq.refl _) (Eq.refl _)
theorem jL_sI {m : jMe} {a i : Nat} {x : Int32} : jL (jsI m a i x) = jL m := Eq.trans (Eq.refl _) (Eq.refl _)
theorem jsp_s {D : jD} {n : Nat} : jsp D (n + 1) = jsp D n * (if (jdC D).testBit n = true then jbd D n else 1) := by
  unfold jsp
  rw [jprd_s, Nat.mul_assoc]
theorem jdC_lt {D : jD} : jdC D < 16 := by
  refine Nat.lt_pow_two_of_testBit (n := 4) _ (fun i hi => ?_)
  cases e : (jdC D).testBit i with
  | false => rfl
  | true =>
    rcases (jgrow_bits (A := jDa D) (q := jDq D) 4 0 0 0 i).2.2.1 e with h | h
    · simp at h
    · omega
def jSbd (b : Nat) : Nat → Prop := fun a => a = b ∨ a = b + 7
section TELL
variable {F b : Nat} {D : jD}
theorem q_boundChecks_l47 (hF : 100 < F) : ∀ (t k f : Nat) (m : jMe) (gs : Int32) (g : Bool), k + t = 4 → t < f → jIn D b m → jTM D (b + 1) m → (∀ r, r < 4 → (jdC D).testBit r = true → jI m (b + 11) r = Int32.ofNat (jpw D r)) → (∀ a, a < 8 → jnb gs a = if jkn D k a then 15 else 0) → jI m b 5 = jbi g → (∀ x, x < k → jL m (b + 7) x = Int64.ofNat (if (jdC D).testBit x = true then jbd D x else 0)) → (g = false → jL m b 6 = Int64.ofNat (jsp D k) ∧ jsp D k ≤ jMX ∧ ∀ r, r < k → (jdC D).testBit r = true → jsp D (r + 1) ≤ jMX) → ∃ m' g', c_X2_boundChecks_l47 F f m b gs (Int32.ofNat k) = some m' ∧ jfr (jSbd b) m m' ∧ (∀ j, j ≠ 5 → jI m' b j = jI m b j) ∧ jI m' b 5 = jbi g' ∧ (∀ x, x < 4 → jL m' (b + 7) x = Int64.ofNat (if (jdC D).testBit x = true then jbd D x else 0)) ∧ (g' = false → g = false ∧ jL m' b 6 = Int64.ofNat (jsp D 4) ∧ jsp D 4 ≤ jMX ∧ ∀ r, r < 4 → (jdC D).testBit r = true → jsp D (r + 1) ≤ jMX) ∧ (g' = true → g = true ∨ ∃ r, r < 4 ∧ (jdC D).testBit r = true ∧ jMX < jsp D (r + 1)) := by
  intro t
  induction t with
  | zero =>
    intro k f m gs g h1 h2 hI hM hp hgs hg hb hv
    obtain ⟨f, rfl⟩ := jsucc h2
    have hk : k = 4 := by omega
    subst hk
    refine ⟨m, g, ?_, jfr.rfl, fun _ _ => rfl, hg, hb, fun h => ⟨h, hv h⟩, fun h => Or.inl h⟩
    show c_X2_boundChecks_l47_b F _ m _ _ _ = _
    unfold c_X2_boundChecks_l47_b
    rw [jl_4, if_pos (ji_lep (by omega) (by omega) (by omega))]
  | succ t ih =>
    intro k f m gs g h1 h2 hI hM hp hgs hg hb hv
    obtain ⟨f, rfl⟩ := jsucc h2
    have hI0 := hI
    obtain ⟨i1, i2, i3, i4, i5, i6⟩ := hI
    have hlt := i1.2.2.2.2.2.2.2.2.2.2.2.2.2.2.2.2.2.2
    obtain ⟨r1, r2⟩ := i3.2.2 k (by omega)
    have hbo := i1.2.2.2.2.2.2.2.2.2.2.2.1
    generalize hm1 : jsL m (b + 7) k (0 : Int64) = m1
    have hf1 : jfr (jSbd b) m m1 := by
      rw [← hm1]
      exact jsL_f (Or.inr rfl)
    have hI1 : jIn D b m1 := jIn_fr (S := jSbd b) (fun a ha => by unfold jSbd at ha; omega) hf1 hI0
    have hM1 : jTM D (b + 1) m1 := jTM_of (fun a h1 h2 => hf1.2.2.2.2.2.1 a (by unfold jSbd; omega)) hM
    have hIe : jI m1 = jI m := by rw [← hm1, jI_sL]
    have hPe : jP m1 = jP m := by rw [← hm1, jP_sL]
    have hst0 : ∀ z, (if jbi ((jdC D).testBit k) = 0 then c_X2_boundChecks_l47 F f m1 b gs (Int32.ofNat (k + 1)) else jb (c_X2_greatestHeap F m1 b (Int32.ofNat k) gs) fun t22 => jb (c_X2_times F (jsL m1 (b + 7) k t22) b (jL (jsL m1 (b + 7) k t22) b 6) (jL (jsL m1 (b + 7) k t22) (b + 7) k)) fun t28 => jgd (jK t28.2 b = 34) <| jgd (jK t28.2 (jP (jsL t28.2 b 6 t28.1) b 12) = 5) <| jgd (jin (Int32.ofNat k) (jZ t28.2 (jP (jsL t28.2 b 6 t28.1) b 12)) = true) <| jgd (jK t28.2 (jP (jsL t28.2 b 6 t28.1) (jP (jsL t28.2 b 6 t28.1) b 12) k) = 36) <| c_X2_boundChecks_l47 F f (jsL t28.2 b 6 t28.1) b (gs ||| (jI (jsL t28.2 b 6 t28.1) (jP (jsL t28.2 b 6 t28.1) (jP (jsL t28.2 b 6 t28.1) b 12) k) 4)) (Int32.ofNat (k + 1))) = z → c_X2_boundChecks_l47 F (f + 1) m b gs (Int32.ofNat k) = z := by
      intro z h
      rw [← h]
      show c_X2_boundChecks_l47_b F _ m _ _ _ = _
      unfold c_X2_boundChecks_l47_b
      rw [jl_4, if_neg (ji_len (by omega) (by omega) (by omega)), jgd_t i1.1, i1.2.2.2.1, jgd_t hbo.1, hbo.2, jgd_t (ji_int (by omega) (by omega)), ji_n (by omega), hm1, hPe, i1.2.1, jgd_t hlt.1, hIe, hM.2.1, q_isIn (by omega) (by have := jdC_lt (D := D); omega), jb_some, i1.2.2.2.1, hbo.2, show Int32.ofNat k + 1 = Int32.ofNat (k + 1) from ji_add k 1]
      simp only [jgd_t hbo.1, jgd_t (ji_int (show k < 2147483648 by omega) (show k < 4 by omega)), jP_sL, hPe, i1.2.2.2.1, hbo.2, jlet_m]
    cases e : (jdC D).testBit k with
    | false =>
      have hjk : ∀ a, jkn D (k + 1) a = jkn D k a := by
        intro a
        rw [jkn_e (by omega), jkn_e (by omega), jun_s (n := k), e, Bool.false_and, Bool.or_false]
      have hsp : jsp D (k + 1) = jsp D k := by rw [jsp_s, e, if_neg (by decide), Nat.mul_one]
      obtain ⟨m', g', y1, y2, y3, y4, y5, y6, y7⟩ := ih (k + 1) f m1 gs g (by omega) (by omega) hI1 hM1 (fun r hr hc => by rw [hIe]; exact hp r hr hc) (fun a ha => by rw [hjk]; exact hgs a ha) (by rw [hIe]; exact hg) (fun x hx => by
        rw [← hm1, jsL_e]
        by_cases ex : x = k
        · subst ex
          rw [jupd_e, e, if_neg (by decide)]
          rfl
        · rw [jupd_n ex]
          exact hb x (by omega)) (fun h => by
        obtain ⟨v1, v2, v3⟩ := hv h
        rw [hsp, ← hm1, jsL_n (by omega)]
        refine ⟨v1, v2, fun r hr hc => ?_⟩
        rcases Nat.lt_succ_iff_lt_or_eq.mp hr with hr | rfl
        · exact v3 r hr hc
        · rw [e] at hc
          cases hc)
      refine ⟨m', g', hst0 _ ?_, hf1.trans y2, fun j hj => by rw [y3 j hj, hIe], y4, y5, y6, y7⟩
      rw [e, if_pos (by decide)]
      exact y1
    | true =>
      have hgh := q_greatestHeap hF (show k < 4 by omega) hI1 (by rw [hIe]; exact hp k (by omega) e) hgs
      have hbd := jbd_le (i6 k (by omega))
      generalize hm2 : jsL m1 (b + 7) k (Int64.ofNat (jbd D k)) = m2
      have hf2 : jfr (jSbd b) m m2 := by
        rw [← hm2]
        exact hf1.trans (jsL_f (Or.inr rfl))
      have hIe2 : jI m2 = jI m := by rw [← hm2, jI_sL, hIe]
      have hb6 : jL m2 b = jL m b := by rw [← hm2, jsL_n (by omega), ← hm1, jsL_n (by omega)]
      have hb7 : jL m2 (b + 7) = jupd (jupd (jL m (b + 7)) k 0) k (Int64.ofNat (jbd D k)) := by rw [← hm2, jsL_e, ← hm1, jsL_e]
      have hK2 : jK m2 b = 34 := by rw [← hm2, jK_sL, ← hm1, jK_sL]; exact i1.1
      have hg2 : jI m2 b 5 = jbi g := by rw [hIe2]; exact hg
      have hsp : jsp D (k + 1) = jsp D k * jbd D k := by rw [jsp_s, e, if_pos rfl]
      have ht : ∃ v2 g2, c_X2_times F m2 b (jL m b 6) (Int64.ofNat (jbd D k)) = some (v2, jsI m2 b 5 (jbi g2)) ∧ (g2 = false → g = false ∧ v2 = Int64.ofNat (jsp D (k + 1)) ∧ jsp D (k + 1) ≤ jMX) ∧ (g2 = true → g = true ∨ jMX < jsp D (k + 1)) := by
        cases g with
        | true => exact ⟨0, true, q_times_t hK2 hg2, (fun h => by cases h), fun _ => Or.inl rfl⟩
        | false =>
          obtain ⟨v1, v2, v3⟩ := hv rfl
          have hp := q_times (F := F) hK2 hg2 v2 (y := jbd D k) (by unfold jMX; omega)
          rw [← hsp, Bool.false_or, ← v1] at hp
          refine ⟨_, _, hp, fun h => ?_, fun h => Or.inr (of_decide_eq_true h)⟩
          rw [h]
          have h := of_decide_eq_false h
          exact ⟨rfl, by rw [if_neg (by decide)], by omega⟩
      obtain ⟨v2, g2, t1, t2, t3⟩ := ht
      generalize hm3 : jsI m2 b 5 (jbi g2) = m3 at t1
      generalize hm4 : jsL m3 b 6 v2 = m4
      have hf4 : jfr (jSbd b) m m4 := by
        rw [← hm4, ← hm3]
        exact (hf2.trans (jsI_f (S := jSbd b) (Or.inl rfl))).trans (jsL_f (Or.inl rfl))
      have hI4 : jIn D b m4 := jIn_fr (S := jSbd b) (fun a ha => by unfold jSbd at ha; omega) hf4 hI0
      have hM4 : jTM D (b + 1) m4 := jTM_of (fun a h1 h2 => hf4.2.2.2.2.2.1 a (by unfold jSbd; omega)) hM
      have hIx : ∀ x, x ≠ b → jI m4 x = jI m x := by
        intro x hx
        rw [← hm4, jI_sL, ← hm3, jsI_n hx, hIe2]
      have hIb : ∀ j, j ≠ 5 → jI m4 b j = jI m b j := by
        intro j hj
        rw [← hm4, jI_sL, ← hm3, jsI_e, jupd_n hj, hIe2]
      have hst : ∀ z, c_X2_boundChecks_l47 F f m4 b (gs ||| jI m (jrc k) 4) (Int32.ofNat (k + 1)) = z → c_X2_boundChecks_l47 F (f + 1) m b gs (Int32.ofNat k) = z := by
        intro z h
        refine hst0 z ?_
        rw [← h, e, if_neg (by decide), hgh, jb_some, hm2, hb6, hb7, jupd_e, t1, jb_some]
        dsimp only
        have hK3 : jK m3 = jK m := by rw [← hm3, jK_sI, ← hm2, jK_sL, ← hm1, jK_sL]
        have hZ3 : jZ m3 = jZ m := by rw [← hm3, jZ_sI, ← hm2, jZ_sL, ← hm1, jZ_sL]
        have hP3 : jP m3 = jP m := by rw [← hm3, jP_sI, ← hm2, jP_sL, hPe]
        rw [hm4, hK3, hZ3, jgd_t i1.1, hf4.2.2.2.2.1, i2, jgd_t i3.1, i3.2.1, jgd_t (ji_int (by omega) (by omega)), r1, jgd_t r2.1, hIx (jrc k) (by unfold jrc; omega)]
      have hjk : ∀ a, jkn D (k + 1) a = (jkn D k a || (jDa D k).testBit a) := by
        intro a
        rw [jkn_e (by omega), jkn_e (by omega), jun_s (n := k), e, Bool.true_and, Bool.or_assoc]
      obtain ⟨m', g', y1, y2, y3, y4, y5, y6, y7⟩ := ih (k + 1) f m4 (gs ||| jI m (jrc k) 4) g2 (by omega) (by omega) hI4 hM4 (fun r hr hc => by rw [hIx _ (by omega)]; exact hp r hr hc) (fun a ha => by
        rw [jnb_or15 (hgs a ha) ((i5 k (by omega)).2.2.1 a ha), hjk]) (by rw [← hm4, jI_sL, ← hm3, jsI_e, jupd_e]) (fun x hx => by
        rw [← hm4, jsL_n (by omega), ← hm3, jL_sI, hb7]
        by_cases ex : x = k
        · subst ex
          rw [jupd_e, e, if_pos rfl]
        · rw [jupd_n ex, jupd_n ex]
          exact hb x (by omega)) (fun h => by
        obtain ⟨u1, u2, u3⟩ := t2 h
        obtain ⟨v1, v2, v3⟩ := hv u1
        refine ⟨by rw [← hm4, jsL_e, jupd_e, u2], u3, fun r hr hc => ?_⟩
        rcases Nat.lt_succ_iff_lt_or_eq.mp hr with hr | rfl
        · exact v3 r hr hc
        · exact u3)
      refine ⟨m', g', hst _ y1, hf4.trans y2, fun j hj => by rw [y3 j hj, hIb j hj], y4, y5, fun h => ⟨(t2 (y6 h).1).1, (y6 h).2⟩, fun h => ?_⟩
      rcases y7 h with h | h
      · rcases t3 h with h | h
        · exact Or.inl h
        · exact Or.inr ⟨k, by omega, e, h⟩
      · exact Or.inr h
theorem q_boundChecks (hF : 100 < F) (hq : jDq D < 16) {m : jMe} {g : Bool} (hI : jIn D b m) (hM : jTM D (b + 1) m) (hp : ∀ r, r < 4 → (jdC D).testBit r = true → jI m (b + 11) r = Int32.ofNat (jpw D r)) (hg : jI m b 5 = jbi g) (hv : g = false → jL m b 6 = Int64.ofNat (jsp D 0) ∧ jsp D 0 ≤ jMX) : ∃ m' g', c_X2_boundChecks F m b = some m' ∧ jfr (jSbd b) m m' ∧ (∀ j, j ≠ 5 → jI m' b j = jI m b j) ∧ jI m' b 5 = jbi g' ∧ (∀ x, x < 4 → jL m' (b + 7) x = Int64.ofNat (if (jdC D).testBit x = true then jbd D x else 0)) ∧ (g' = false → g = false ∧ jL m' b 6 = Int64.ofNat (jsp D 4) ∧ jsp D 4 ≤ jMX ∧ ∀ r, r < 4 → (jdC D).testBit r = true → jsp D (r + 1) ≤ jMX) ∧ (g' = true → g = true ∨ ∃ r, r < 4 ∧ (jdC D).testBit r = true ∧ jMX < jsp D (r + 1)) := by
  obtain ⟨gs, a1, a2⟩ := q_boundChecks_l4 (F := F) hI hM hq 4 0 F 0 (by omega) (by omega) (fun a ha => by rw [jnb_0]; rfl)
  obtain ⟨m', g', y1, y2⟩ := q_boundChecks_l47 hF 4 0 F m gs g (by omega) (by omega) hI hM hp (fun a ha => by
    rw [a2 a ha, jkn_e (by omega)]
    have : jun D (fun q => (jdC D).testBit q) 0 a = false := rfl
    rw [this, Bool.or_false]) hg (fun x hx => by omega) (fun h => ⟨(hv h).1, (hv h).2, fun r hr => by omega⟩)
  refine ⟨m', g', ?_, y2⟩
  unfold c_X2_boundChecks
  have a1 : c_X2_boundChecks_l4 F F m b (0 : Int32) (0 : Int32) = _ := a1
  rw [a1, jb_some]
  have y1 : c_X2_boundChecks_l47 F F m b gs (0 : Int32) = _ := y1
  dsimp only
  rw [y1, jb_some]
end TELL
