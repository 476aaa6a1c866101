/-! a join is told: all of it -/
def jDok (D : jD) : Prop := jDn D ≤ 4 ∧ jDq D < 2 ^ jDn D ∧ (∀ r, r < 4 → jDR D r) ∧ (∀ r, r < jDn D → 1 ≤ jDa D r ∧ jpop 8 (jDa D r) ≤ 3) ∧ (∀ r, jDn D ≤ r → jDz D r = 0 ∧ jDl D r = 0)
theorem jDok_q {D : jD} (h : jDok D) : jDq D < 16 := by
  have := jp2 h.1
  have := h.2.1
  omega
/-- of the class: a join at b holds what is told of D -/
def jJ (D : jD) (b : Nat) (m : jMe) : Prop := jIn D b m ∧ jTM D (b + 1) m ∧ jI m b 13 = Int32.ofNat (jDq D) ∧ (∀ r, r < 4 → jI m (b + 11) r = Int32.ofNat (if (jDq D).testBit r = true then jpw D r else 0)) ∧ (∀ x, x < 4 → jL m (b + 7) x = Int64.ofNat (if (jdC D).testBit x = true then jbd D x else 0)) ∧ ∃ g, jI m b 5 = jbi g ∧ (g = true ↔ jGt D) ∧ (g = false → (∀ r, r ∈ jord D → jRd D b m r) ∧ jL m b 6 = Int64.ofNat (jsp D 4) ∧ jsp D 4 ≤ jMX ∧ ∀ r, r < 4 → (jdC D).testBit r = true → jsp D (r + 1) ≤ jMX)
theorem jtree0 {D : jD} (hD : jDok D) : ∃ root, jTre (jDa D) (jdK D) root (jpar D) (jord D) ∧ (jrt D = if jDq D = 0 then none else some root) ∧ root < 4 ∧ (jDq D ≠ 0 → root ∈ jord D) := by
  have hA : ∀ q, q < 4 → jDa D q < 64 := fun q hq => (hD.2.2.1 q hq).2.1
  by_cases h0 : jDq D = 0
  · have hK : jdK D = 0 := by
      refine Nat.eq_of_testBit_eq (fun i => ?_)
      rw [Nat.zero_testBit]
      cases e : (jdK D).testBit i with
      | false => rfl
      | true =>
        rcases (jgrow_bits (A := jDa D) (q := jDq D) 4 0 0 0 i).1 e with h | h
        · simp at h
        · rw [h0] at h
          simp at h
    have hp : jdP D = ([], 0) := by
      have := jdP_some (D := D)
      rw [hK, jplant_0] at this
      exact (Option.some.inj this).symm
    have ho : jord D = [] := by
      unfold jord jrt
      rw [hp]
      rfl
    refine ⟨0, ?_, ?_, by omega, fun h => absurd h0 h⟩
    · rw [ho]
      refine ⟨List.nodup_nil, fun r => ?_, fun pre r post e => ?_⟩
      · rw [hK]
        simp
      · simp at e
    · rw [if_pos h0]
      unfold jrt
      rw [hp]
      rfl
  · obtain ⟨root, h1, h2, h3, h4⟩ := jtree hA (jDok_q hD) h0
    refine ⟨root, h3, ?_, h2, fun _ => ?_⟩
    · rw [if_neg h0, h1]
    · rw [h4]
      simp
theorem jIn_nt {D : jD} {b : Nat} {m : jMe} (h : jIn D b m) : jLJ m b := h.1
section TELL2
variable {F b : Nat} {D : jD}
/-- what may change as a join at b is told by a text with stack s -/
def jSt2 (b s : Nat) : Nat → Prop := fun a => (b ≤ a ∧ a ≤ b + 13) ∨ a = s
theorem q_tell (hF : 2000 < F) {tb c s n : Nat} {m : jMe} (hD : jDok D) (hL : jLJ m b) (hR : jLR m) (hS : jLs m) (hb : 33 < b ∧ b < 64) (hC : ∀ r, r < 4 → jCr D m r) (hT : jTX D tb c s n m) (htb : tb ≠ b) : ∃ m', c_X2_tell F m b 33 tb (Int32.ofNat (jDq D)) = some m' ∧ jN m' = jN m ∧ jT m' = jT m ∧ jK m' = jK m ∧ jZ m' = jZ m ∧ jP m' = jup (jP m) b 12 33 ∧ (∀ a, ¬ jSt2 b s a → jI m' a = jI m a ∧ jL m' a = jL m a) ∧ jJ D b m' ∧ jI m' b 14 = 0 := by
  have hq := jDok_q hD
  have hA : ∀ q, q < 4 → jDa D q < 64 := fun q hq => (hD.2.2.1 q hq).2.1
  obtain ⟨root, hTr, hrt, hr4, hro⟩ := jtree0 hD
  have hs2 := hT.2.1
  have hc2 := hT.2.2.1
  generalize hm0 : jsI (jsI (jsI (jsP m b 12 33) b 13 (Int32.ofNat (jDq D))) b 5 (0 : Int32)) b 14 (0 : Int32) = m0
  have hK0 : jK m0 = jK m := by rw [← hm0, jK_sI, jK_sI, jK_sI]; rfl
  have hZ0 : jZ m0 = jZ m := by rw [← hm0, jZ_sI, jZ_sI, jZ_sI]; rfl
  have hP0 : jP m0 = jup (jP m) b 12 33 := by rw [← hm0, jP_sI, jP_sI, jP_sI]; rfl
  have hL0' : jL m0 = jL m := by rw [← hm0, jL_sI, jL_sI, jL_sI]; rfl
  have hN0 : jN m0 = jN m ∧ jT m0 = jT m := by rw [← hm0]; exact ⟨rfl, rfl⟩
  have hI0a : ∀ a, a ≠ b → jI m0 a = jI m a := by
    intro a ha
    rw [← hm0, jsI_n ha, jsI_n ha, jsI_n ha]
    rfl
  have hP0a : ∀ a, a ≠ b → jP m0 a = jP m a := by
    intro a ha
    rw [hP0, jup_ne _ _ _ ha]
  have hLJ0 : jLJ m0 b := jLJ_of hK0 hZ0 (fun k hk => by rw [hP0, jup_at]; exact if_neg hk) (hP0a _ (by omega)) hL
  have hLR0 : jLR m0 := jLR_of hK0 hZ0 (fun a ha => hP0a a (by omega)) hR
  have hI0 : jIn D b m0 := by
    refine ⟨hLJ0, by rw [hP0, jup_at]; exact if_pos rfl, hLR0, ⟨?_, hb⟩, fun r hr => jCr_of (hI0a _ (by unfold jrc; omega)) (hI0a _ (by unfold jrv; omega)) (hI0a _ (by unfold jrk; omega)) (hC r hr), hD.2.2.1⟩
    unfold jLs at hS ⊢
    rw [hK0, hZ0, hI0a 1 (by omega)]
    exact hS
  have hT0 : jTX D tb c s n m0 := jTX_of hK0 hZ0 (hP0a _ htb) (hI0a _ (by omega)) hT
  have hlt0 := hLJ0.2.2.2.2.2.2.2.2.2.2.2.2.2.2.2.2.2.2
  have hRA0 : jRA m0 (jDa D) := ⟨hLR0.1, hLR0.2.1, fun r hr => ⟨(hLR0.2.2 r hr).1, (hLR0.2.2 r hr).2.1, (hI0.2.2.2.2.1 r hr).2.1⟩⟩
  have h0b : jI m0 b 13 = Int32.ofNat (jDq D) ∧ jI m0 b 5 = 0 ∧ jI m0 b 14 = 0 := by
    rw [← hm0]
    refine ⟨?_, ?_, ?_⟩
    · rw [jsI_e, jupd_n (by omega), jsI_e, jupd_n (by omega), jsI_e, jupd_e]
    · rw [jsI_e, jupd_n (by omega), jsI_e, jupd_e]
    · rw [jsI_e, jupd_e]
  obtain ⟨m1, a1, a2, a3⟩ := q_grow (F := F) (b := b + 1) hF (by omega) hA hq hlt0 hRA0
  have hI1 : jIn D b m1 := jIn_fr (S := jSg (b + 1)) (fun a ha => by unfold jSg at ha; omega) a2 hI0
  have hT1 : jTX D tb c s n m1 := jTX_of a2.2.2.1 a2.2.2.2.1 (by rw [a2.2.2.2.2.1]) (a2.2.2.2.2.2.1 _ (by unfold jSg; omega)) hT0
  obtain ⟨m2, b1, b2, b3⟩ := q_tell_l32 hF hq 4 0 F m1 (by omega) (by omega) hI1 hT1 (fun r hr => by omega)
  have hI2 : jIn D b m2 := jIn_of b2.2.2.1 b2.2.2.2.1 b2.2.2.2.2.1 (fun a ha => b2.2.2.2.2.2.1 a (by unfold jSq; omega)) hI1
  have hM2 : jTM D (b + 1) m2 := jTM_of (fun a h1 h2 => b2.2.2.2.2.2.1 a (by unfold jSq; omega)) a3
  obtain ⟨m3, c1, c2, c3⟩ := q_fillL (F := F) (x := 0) (b := b + 6) (z := 32) (m := m2) (by omega) (by omega) hI2.1.2.2.2.2.2.2.2.2.2.2.1.1 hI2.1.2.2.2.2.2.2.2.2.2.2.1.2
  have hI3 : jIn D b m3 := jIn_fr (S := (· = b + 6)) (fun a ha => by omega) c2 hI2
  have hM3 : jTM D (b + 1) m3 := jTM_of (fun a h1 h2 => c2.2.2.2.2.2.1 a (by omega)) hM2
  have hpass : ∀ r, r < 4 → jI m3 (b + 11) r = Int32.ofNat (if (jDq D).testBit r = true then jpw D r else 0) := by
    intro r hr
    rw [c2.2.2.2.2.2.1 _ (by omega)]
    exact b3 r hr
  have hpo : ∀ r, r ∈ jord D → jI m3 (b + 11) r = Int32.ofNat (jpw D r) := by
    intro r hr
    obtain ⟨h1, h2⟩ := (hTr.2.1 r).mp hr
    rw [hpass r h1, if_pos ((jdK_bits r h1).1 h2)]
  have h35 : jI m3 b 5 = jbi false := by
    rw [c2.2.2.2.2.2.1 _ (by omega), b2.2.2.2.2.2.1 _ (by unfold jSq; omega), a2.2.2.2.2.2.1 _ (by unfold jSg; omega)]
    exact h0b.2.1
  obtain ⟨m4, g4, d1, d2, d3, d4, d5⟩ := q_tell_l85 (F := F) hF hTr hq (jord D) [] F m3 false rfl (by have := jord_le hTr; omega) hI3 hM3 hpo h35 (fun r hr x hx => by
    have h1 := ((hTr.2.1 r).mp hr).1
    rw [c3, if_pos (by omega)]) (fun _ r hr => by cases hr)
  have hI4 : jIn D b m4 := jIn_fr (S := jSw b) (fun a ha => by unfold jSw at ha; omega) d2.1 hI3
  have hM4 : jTM D (b + 1) m4 := jTM_of (fun a h1 h2 => d2.1.2.2.2.2.2.1 a (by unfold jSw; omega)) hM3
  have hlt4 := hI4.1.2.2.2.2.2.2.2.2.2.2.2.2.2.2.2.2.2.2
  have d1 : c_X2_tell_l85 F F m3 b (0 : Int32) = some (m4, b) := d1
  have b1 : c_X2_tell_l32 F F m1 b 33 tb (Int32.ofNat (jDq D)) (0 : Int32) = some (m2, b) := b1
  have hst0 : ∀ z, (if jo1 (jrt D) = (-1 : Int32) then c_X2_tell_j146 F m4 b (0 : Int64) b else jb (c_X2_sumOf F m4 b (jo1 (jrt D)) (0 : Int32) (0 : Int32)) fun t37 => c_X2_tell_j146 F t37.2 b t37.1 b) = z → c_X2_tell F m b 33 tb (Int32.ofNat (jDq D)) = z := by
    intro z h
    rw [← h]
    unfold c_X2_tell
    rw [hm0, hLJ0.2.1, jgd_t hL.1, ← hK0, jgd_t hlt0.1, a1, jb_some, b1, jb_some]
    dsimp only
    rw [jgd_t hI2.1.1, hI2.1.2.2.1, c1, jb_some, d1, jb_some]
    dsimp only
    rw [jgd_t hI4.1.1, hI4.1.2.1, jgd_t hlt4.1, hM4.2.2.2.2.2.2]
  -- the sum at the root
  have hroot : ∃ m5 v g5, (∀ z, c_X2_tell_j146 F m5 b v b = z → c_X2_tell F m b 33 tb (Int32.ofNat (jDq D)) = z) ∧ jfg b m4 m5 ∧ jI m5 b 5 = jbi g5 ∧ (g5 = false → g4 = false ∧ v = Int64.ofNat (jAll D) ∧ jAll D ≤ jMX) ∧ (g5 = true → g4 = true ∨ jMX < jAll D) := by
    by_cases h0 : jDq D = 0
    · rw [if_pos h0] at hrt
      have hall : jAll D = 0 := by
        unfold jAll
        rw [hrt]
      refine ⟨m4, 0, g4, fun z h => hst0 z ?_, jfg.rfl, d3, fun h => ⟨h, by rw [hall]; rfl, by rw [hall]; exact Nat.zero_le _⟩, fun h => Or.inl h⟩
      rw [hrt, if_pos (show jo1 none = -1 from rfl)]
      exact h
    · rw [if_neg h0] at hrt
      have hall : jAll D = jsum (jDz D root) (fun x => if jmg D root x (fun _ => false) (jnb 0) = true then jW1 D root x else 0) := by
        unfold jAll
        rw [hrt]
        refine jsum_c (fun x hx => ?_)
        rw [if_pos (jmg_iff.mpr (fun a _ _ h => by cases h))]
      obtain ⟨m5, v, g5, e1, e2, e3, e4, e5⟩ := q_sumOf (F := F) (by omega) hr4 (gs := 0) (g0 := 0) (S := fun _ => false) (fun a ha => by rw [jnb_0]; rfl) (w := jW1 D root) hI4 d3 (fun h x hx _ => ((d4 h).2 root (hro h0)).1 x hx)
      rw [← hall] at e4 e5
      refine ⟨m5, v, g5, fun z h => hst0 z ?_, e2, e3, e4, e5⟩
      rw [hrt, if_neg (by rw [jo1_ne (fun a h => by cases h; omega)]; simp), show jo1 (some root) = Int32.ofNat root from rfl, e1, jb_some]
      exact h
  obtain ⟨m5, v, g5, hst5, e2, e3, e4, e5⟩ := hroot
  generalize hm6 : jsL m5 b 6 v = m6
  have hI5 : jIn D b m5 := jIn_fr (S := (· = b)) (fun a ha => by omega) e2.1 hI4
  have hf56 : jfr (· = b) m5 m6 := by
    rw [← hm6]
    exact jsL_f rfl
  have hI6 : jIn D b m6 := jIn_fr (S := (· = b)) (fun a ha => by omega) hf56 hI5
  have hIe6 : jI m6 = jI m5 := by rw [← hm6, jI_sL]
  have hIx6 : ∀ a, a ≠ b → jI m6 a = jI m4 a := fun a ha => by rw [hIe6]; exact e2.1.2.2.2.2.2.1 a ha
  have hM6 : jTM D (b + 1) m6 := jTM_of (fun a h1 h2 => hIx6 a (by omega)) hM4
  have hp4 : ∀ r, r < 4 → jI m6 (b + 11) r = Int32.ofNat (if (jDq D).testBit r = true then jpw D r else 0) := by
    intro r hr
    rw [hIx6 _ (by omega), d2.1.2.2.2.2.2.1 _ (by unfold jSw; omega)]
    exact hpass r hr
  have hsp0 : jsp D 0 = jAll D := by
    unfold jsp jprd
    rw [Nat.mul_one]
  obtain ⟨m7, g7, y1, y2, y3, y4, y5, y6, y7⟩ := q_boundChecks (F := F) (by omega) hq (g := g5) hI6 hM6 (fun r hr hc => by
    rw [hp4 r hr, if_pos ((jdK_bits r hr).2.mp hc).1]) (by rw [hIe6]; exact e3) (fun h => by
    rw [hsp0, ← hm6, jsL_e, jupd_e]
    exact (e4 h).2)
  have hI7 : jIn D b m7 := jIn_fr (S := jSbd b) (fun a ha => by unfold jSbd at ha; omega) y2 hI6
  have hM7 : jTM D (b + 1) m7 := jTM_of (fun a h1 h2 => y2.2.2.2.2.2.1 a (by unfold jSbd; omega)) hM6
  have hL67 : ∀ a, a ≠ b → a ≠ b + 7 → jL m7 a = jL m4 a := by
    intro a h1 h2
    rw [y2.2.2.2.2.2.2 a (by unfold jSbd; omega), ← hm6, jsL_n h1, e2.2.2]
  have hKr : ∀ j, j ≠ 5 → jI m7 b j = jI m0 b j := by
    intro j hj
    rw [y3 j hj, hIe6, e2.2.1 j hj, d2.2.1 j hj, c2.2.2.2.2.2.1 _ (by omega), b2.2.2.2.2.2.1 _ (by unfold jSq; omega), a2.2.2.2.2.2.1 _ (by unfold jSg; omega)]
  refine ⟨m7, hst5 _ ?_, ?_, ?_, ?_, ?_, ?_, fun a ha => ⟨?_, ?_⟩, ⟨hI7, hM7, by rw [hKr 13 (by omega)]; exact h0b.1, fun r hr => by rw [y2.2.2.2.2.2.1 _ (by unfold jSbd; omega)]; exact hp4 r hr, y5, g7, y4, ?_, ?_⟩, by rw [hKr 14 (by omega)]; exact h0b.2.2⟩
  · unfold c_X2_tell_j146
    rw [jgd_t hI5.1.1, jgd_t hI5.1.1, hm6, y1, jb_some]
  · rw [y2.1, hf56.1, e2.1.1, d2.1.1, c2.1, b2.1, a2.1, hN0.1]
  · rw [y2.2.1, hf56.2.1, e2.1.2.1, d2.1.2.1, c2.2.1, b2.2.1, a2.2.1, hN0.2]
  · rw [y2.2.2.1, hf56.2.2.1, e2.1.2.2.1, d2.1.2.2.1, c2.2.2.1, b2.2.2.1, a2.2.2.1, hK0]
  · rw [y2.2.2.2.1, hf56.2.2.2.1, e2.1.2.2.2.1, d2.1.2.2.2.1, c2.2.2.2.1, b2.2.2.2.1, a2.2.2.2.1, hZ0]
  · rw [y2.2.2.2.2.1, hf56.2.2.2.2.1, e2.1.2.2.2.2.1, d2.1.2.2.2.2.1, c2.2.2.2.2.1, b2.2.2.2.2.1, a2.2.2.2.2.1, hP0]
  · unfold jSt2 at ha
    rw [y2.2.2.2.2.2.1 a (by unfold jSbd; omega), hIx6 a (by omega), d2.1.2.2.2.2.2.1 a (by unfold jSw; omega), c2.2.2.2.2.2.1 a (by omega), b2.2.2.2.2.2.1 a (by unfold jSq; omega), a2.2.2.2.2.2.1 a (by unfold jSg; omega), hI0a a (by omega)]
  · unfold jSt2 at ha
    rw [hL67 a (by omega) (by omega), d2.1.2.2.2.2.2.2 a (by unfold jSw; omega), c2.2.2.2.2.2.2 a (by omega), b2.2.2.2.2.2.2 a (by unfold jSq; omega), a2.2.2.2.2.2.2 a (by unfold jSg; omega), hL0']
  · constructor
    · intro h
      rcases y7 h with h | h
      · rcases e5 h with h | h
        · rcases d5 h with h | ⟨r, x, h1, h2, h3⟩
          · cases h
          · obtain ⟨h4, h5⟩ := (hTr.2.1 r).mp h1
            exact Or.inl ⟨r, x, h4, h5, h2, h3⟩
        · exact Or.inr (Or.inl h)
      · exact Or.inr (Or.inr h)
    · intro h
      cases hg : g7 with
      | true => rfl
      | false =>
        exfalso
        obtain ⟨z1, z2, z3, z4⟩ := y6 hg
        obtain ⟨w1, w2, w3⟩ := e4 z1
        obtain ⟨u1, u2⟩ := d4 w1
        rcases h with ⟨r, k, h1, h2, h3, h4, x, x1, x2, x3⟩ | h | ⟨r, h1, h2, h3⟩
        · have := (u2 r ((hTr.2.1 r).mpr ⟨h1, h2⟩)).2 k h3 h4 x x1 x2
          omega
        · omega
        · have := z4 r h1 h2
          omega
  · intro h
    obtain ⟨z1, z2, z3, z4⟩ := y6 h
    obtain ⟨w1, w2, w3⟩ := e4 z1
    obtain ⟨u1, u2⟩ := d4 w1
    refine ⟨fun r hr => ?_, z2, z3, z4⟩
    have := u2 r hr
    unfold jRd jWd jUd at this ⊢
    rw [hL67 (b + 6) (by omega) (by omega), hL67 (b + 8) (by omega) (by omega)]
    exact this
end TELL2
