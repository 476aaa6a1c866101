/-! weights of all rows -/
/-- a set as bits -/
def jbw : Nat → (Nat → Bool) → Nat
  | 0, _ => 0
  | n + 1, p => jbw n p ||| (if p n = true then 2 ^ n else 0)
theorem jbw_bit {p : Nat → Bool} {k : Nat} : ∀ {n : Nat}, (jbw n p).testBit k = (decide (k < n) && p k) := by
  intro n
  induction n with
  | zero => simp [jbw]
  | succ n ih =>
    unfold jbw
    rw [Nat.testBit_or, ih]
    by_cases e : k = n
    · subst e
      cases q : p k with
      | false => simp
      | true => simp
    · have h1 : (if p n = true then 2 ^ n else 0).testBit k = false := by
        split
        · rw [Nat.testBit_two_pow]
          exact decide_eq_false (Ne.symm e)
        · exact Nat.zero_testBit k
      rw [h1, Bool.or_false]
      have h2 : decide (k < n + 1) = decide (k < n) := by
        by_cases h : k < n
        · rw [decide_eq_true h, decide_eq_true (by omega)]
        · rw [decide_eq_false h, decide_eq_false (by omega)]
      rw [h2]
theorem jbw_lt {p : Nat → Bool} : ∀ {n : Nat}, jbw n p < 2 ^ n := by
  intro n
  refine Nat.lt_pow_two_of_testBit _ (fun i hi => ?_)
  rw [jbw_bit, decide_eq_false (by omega)]
  rfl
/-- rows that pass, as bits -/
def jpw (D : jD) (r : Nat) : Nat := jbw 8 (jpb D r)
theorem jpb_lt {D : jD} {r k : Nat} (hD : jDR D r) (h : jpb D r k = true) : k < jDz D r := by
  rcases Nat.lt_or_ge k (jDz D r) with q | q
  · exact q
  · unfold jpb at h
    rw [jl_bits hD q] at h
    cases h
theorem jpw_bit {D : jD} {r k : Nat} (hD : jDR D r) : (jpw D r).testBit k = jpb D r k := by
  unfold jpw
  rw [jbw_bit]
  cases e : jpb D r k with
  | false => simp
  | true =>
    have h1 := jpb_lt hD e
    have h2 := hD.2.2.1
    rw [decide_eq_true (by omega)]
    rfl
theorem jpw_lt {D : jD} {r : Nat} : jpw D r < 256 := jbw_lt (n := 8)
theorem jwth_le {D : jD} {r k : Nat} (hD : jDR D r) (hk : k < jDz D r) : jwth D r k ≤ 4000000000 := by
  have h := (hD.2.2.2.2 k hk).2.2
  unfold jwth
  split
  · omega
  · split <;> omega
def jUd (D : jD) (b : Nat) (m : jMe) (r k : Nat) : Prop := ∀ x, x < 4 → jkid D x r = true → jS1 D r k x ≤ jMX ∧ jpre D r k (x + 1) ≤ jMX ∧ jL m (b + 8) ((r * 8 + k) * 4 + x) = Int64.ofNat (jS1 D r k x)
/-- of a relation that was weighed -/
def jRd (D : jD) (b : Nat) (m : jMe) (r : Nat) : Prop := jWd D b m r ∧ ∀ k, k < jDz D r → jpb D r k = true → jUd D b m r k
section WEIGH2
variable {F b : Nat} {D : jD}
theorem q_weigh_l2 (hF : 100 < F) {root r : Nat} (hT : jTre (jDa D) (jdK D) root (jpar D) (jord D)) (hro : r ∈ jord D) (hr : r < 4) (hne : ∀ c, jkid D c r = true → c ≠ r) (hq : jDq D < 16) : ∀ (t k f : Nat) (m : jMe) (g : Bool), k + t = jDz D r → t < f → jIn D b m → (∀ x, x < 4 → jI m (b + 1 + 2) x = Int32.ofNat (jkidw (jdP D).1 x)) → jI m (b + 11) r = Int32.ofNat (jpw D r) → jI m b 5 = jbi g → (∀ x, k ≤ x → x < 8 → jL m (b + 6) (r * 8 + x) = 0) → (g = false → (∀ c, c < 4 → jkid D c r = true → jWd D b m c) ∧ (∀ x, x < k → jL m (b + 6) (r * 8 + x) = Int64.ofNat (jW1 D r x) ∧ jW1 D r x ≤ jMX ∧ (jpb D r x = true → jUd D b m r x))) → ∃ m' g', c_X2_weigh_l2 F f m b (Int32.ofNat r) (Int32.ofNat k) = some m' ∧ jfw b m m' ∧ (∀ i, (∀ x, x < 8 → i ≠ r * 8 + x) → jL m' (b + 6) i = jL m (b + 6) i) ∧ (∀ i, (∀ x, x < 32 → i ≠ r * 32 + x) → jL m' (b + 8) i = jL m (b + 8) i) ∧ jI m' b 5 = jbi g' ∧ (g' = false → g = false ∧ jRd D b m' r) ∧ (g' = true → g = true ∨ ∃ x, x < jDz D r ∧ jGr D r x) := by
  intro t
  induction t with
  | zero =>
    intro k f m g h1 h2 hI hkid hp hg h0 hv
    obtain ⟨f, rfl⟩ := jsucc h2
    obtain ⟨i1, i2, i3, i4, i5, i6⟩ := hI
    have hk : k = jDz D r := by omega
    subst hk
    have hz := (i6 r hr).2.2.1
    obtain ⟨r1, r2⟩ := i3.2.2 r hr
    refine ⟨m, g, ?_, jfw.rfl, fun _ _ => rfl, fun _ _ => rfl, hg, fun h => ⟨h, fun k hk => ⟨((hv h).2 k hk).1, ((hv h).2 k hk).2.1⟩, fun k hk => ((hv h).2 k hk).2.2⟩, fun h => Or.inl h⟩
    show c_X2_weigh_l2_b F _ m _ _ _ = _
    unfold c_X2_weigh_l2_b
    rw [jgd_t i1.1, i2, jgd_t i3.1, i3.2.1, jgd_t (ji_int (by omega) hr), ji_n (by omega), r1, jgd_t r2.1, (i5 r hr).2.2.2.1, if_pos (ji_lep (by omega) (by omega) (by omega))]
  | succ t ih =>
    intro k f m g h1 h2 hI hkid hp hg h0 hv
    obtain ⟨f, rfl⟩ := jsucc h2
    have hI0 := hI
    obtain ⟨i1, i2, i3, i4, i5, i6⟩ := hI
    have hz := (i6 r hr).2.2.1
    have hk : k < jDz D r := by omega
    have hw := jwth_le (i6 r hr) hk
    obtain ⟨r1, r2⟩ := i3.2.2 r hr
    have hpa := i1.2.2.2.2.2.2.2.2.2.2.2.2.2.2.2.1
    have hst : ∀ z, (if jbi (jpb D r k) = 0 then c_X2_weigh_l2 F f m b (Int32.ofNat r) (Int32.ofNat (k + 1)) else jb (c_X2_weigh_l42 F F m b (Int32.ofNat r) (Int32.ofNat k) (Int64.ofNat (jwth D r k)) (0 : Int32)) fun e36 => jgd (jK e36.1 e36.2.1 = 34) <| jgd (jK e36.1 (jP e36.1 e36.2.1 1) = 2) <| jgd (jin ((e36.2.2.1 * (8 : Int32)) + e36.2.2.2.1) (jZ e36.1 (jP e36.1 e36.2.1 1)) = true) <| c_X2_weigh_l2 F f (jsL e36.1 (jP e36.1 e36.2.1 1) ((e36.2.2.1 * (8 : Int32)) + e36.2.2.2.1).toNatClampNeg e36.2.2.2.2) e36.2.1 e36.2.2.1 (e36.2.2.2.1 + (1 : Int32))) = z → c_X2_weigh_l2 F (f + 1) m b (Int32.ofNat r) (Int32.ofNat k) = z := by
      intro z h
      rw [← h]
      show c_X2_weigh_l2_b F _ m _ _ _ = _
      unfold c_X2_weigh_l2_b
      rw [jgd_t i1.1, i2, jgd_t i3.1, i3.2.1, jgd_t (ji_int (by omega) hr), ji_n (by omega), r1, jgd_t r2.1, (i5 r hr).2.2.2.1, if_neg (ji_len (by omega) (by omega) (by omega)), i1.2.2.2.2.2.2.2.1, jgd_t hpa.1, hpa.2, jgd_t (ji_int (by omega) hr), hp, q_isIn (by omega) (by have := jpw_lt (D := D) (r := r); omega), jb_some, jpw_bit (i6 r hr), jgd_t (ji_int (by omega) hr), q_worthOf r2 (i6 r hr) (i5 r hr) hk, jb_some, show Int32.ofNat k + 1 = Int32.ofNat (k + 1) from ji_add k 1]
    have hro2 := jW1_e hT hro k
    cases ep : jpb D r k with
    | false =>
      rw [ep, if_neg (by decide)] at hro2
      obtain ⟨m', g', y1, y2⟩ := ih (k + 1) f m g (by omega) (by omega) hI0 hkid hp hg (fun x hx hx2 => h0 x (by omega) hx2) (fun h => by
        refine ⟨(hv h).1, fun x hx => ?_⟩
        rcases Nat.lt_succ_iff_lt_or_eq.mp hx with hx | rfl
        · exact (hv h).2 x hx
        · rw [h0 x (by omega) (by omega), hro2]
          exact ⟨rfl, Nat.zero_le _, fun h => by rw [ep] at h; cases h⟩)
      refine ⟨m', g', hst _ ?_, y2⟩
      rw [ep, if_pos (by decide)]
      exact y1
    | true =>
      rw [ep, if_pos rfl] at hro2
      obtain ⟨m1, v1, g1, a1, a2, a3, a4, a5, a6, a7⟩ := q_weigh_l42 (F := F) hF hr hk (by unfold jMX; omega) hq 4 0 F m (Int64.ofNat (jwth D r k)) g (by omega) (by omega) hI0 hkid hg (fun h => ⟨(hv h).1, by unfold jpre jprd; rw [Nat.mul_one], by unfold jpre jprd jMX; omega, fun x hx => by omega⟩)
      have hI1 : jIn D b m1 := jIn_fr (S := jSw b) (fun a ha => by unfold jSw at ha; omega) a2.1 hI0
      generalize hm2 : jsL m1 (b + 6) (r * 8 + k) v1 = m2
      have hfw2 : jfw b m m2 := by
        rw [← hm2]
        exact a2.trans (jsL_w (Or.inl rfl))
      have hI2 : jIn D b m2 := jIn_fr (S := jSw b) (fun a ha => by unfold jSw at ha; omega) hfw2.1 hI0
      have hL6 : jL m2 (b + 6) = jupd (jL m (b + 6)) (r * 8 + k) v1 := by
        rw [← hm2, jsL_e, a3]
      have hL8 : jL m2 (b + 8) = jL m1 (b + 8) := by
        rw [← hm2, jsL_n (by omega)]
      have hst2 : ∀ z, c_X2_weigh_l2 F f m2 b (Int32.ofNat r) (Int32.ofNat (k + 1)) = z → c_X2_weigh_l2 F (f + 1) m b (Int32.ofNat r) (Int32.ofNat k) = z := by
        intro z h
        refine hst z ?_
        rw [← h, ep, if_neg (by decide), show (0 : Int32) = Int32.ofNat 0 from rfl, a1, jb_some]
        dsimp only
        obtain ⟨j1, -, j3, -, -, -, -, -, -, -, j11, -⟩ := hI1.1
        rw [jgd_t j1, j3, jgd_t j11.1, j11.2, jl_8, ji_mul, ji_add, jgd_t (ji_int (by omega) (by omega)), ji_n (by omega), hm2, show Int32.ofNat k + 1 = Int32.ofNat (k + 1) from ji_add k 1]
      obtain ⟨m', g', y1, y2, y3, y4, y5, y6, y7⟩ := ih (k + 1) f m2 g1 (by omega) (by omega) hI2 (fun x hx => by rw [hfw2.1.2.2.2.2.2.1 _ (by unfold jSw; omega)]; exact hkid x hx) (by rw [hfw2.1.2.2.2.2.2.1 _ (by unfold jSw; omega)]; exact hp) (by rw [← hm2]; exact a5) (fun x hx hx2 => by rw [hL6, jupd_n (by omega)]; exact h0 x (by omega) hx2) (fun h => by
        obtain ⟨u1, u2, u3, u4⟩ := a6 h
        obtain ⟨w1, w2⟩ := hv u1
        refine ⟨fun c hc hk' x hx => ?_, fun x hx => ?_⟩
        · have hzc := (i6 c hc).2.2.1
          have hcr := hne c hk'
          rw [hL6, jupd_n (by omega)]
          exact w1 c hc hk' x hx
        · rcases Nat.lt_succ_iff_lt_or_eq.mp hx with hx | rfl
          · rw [hL6, jupd_n (by omega)]
            refine ⟨(w2 x hx).1, (w2 x hx).2.1, fun h => ?_⟩
            unfold jUd
            intro y hy hky
            rw [hL8, a4 _ (fun x' hx' => by omega)]
            exact (w2 x hx).2.2 h y hy hky
          · rw [hL6, jupd_e, hro2]
            refine ⟨u2, u3, fun _ => ?_⟩
            unfold jUd
            rw [hL8]
            exact u4)
      refine ⟨m', g', hst2 _ y1, hfw2.trans y2, fun i hi => ?_, fun i hi => ?_, y5, fun h => ⟨(a6 (y6 h).1).1, (y6 h).2⟩, fun h => ?_⟩
      · rw [y3 i hi, hL6, jupd_n (hi k (by omega))]
      · rw [y4 i hi, hL8, a4 i (fun x hx => by have := hi (k * 4 + x) (by omega); omega)]
      · rcases y7 h with h | h
        · rcases a7 h with h | ⟨x, x1, x2, x3⟩
          · exact Or.inl h
          · exact Or.inr ⟨k, hk, ep, x, x1, x2, x3⟩
        · exact Or.inr h
/-- relations are weighed in their order -/
theorem q_tell_l85 (hF : 2000 < F) {root : Nat} (hT : jTre (jDa D) (jdK D) root (jpar D) (jord D)) (hq : jDq D < 16) : ∀ (post pre : List Nat) (f : Nat) (m : jMe) (g : Bool), jord D = pre ++ post → post.length < f → jIn D b m → jTM D (b + 1) m → (∀ r, r ∈ post → jI m (b + 11) r = Int32.ofNat (jpw D r)) → jI m b 5 = jbi g → (∀ r, r ∈ post → ∀ x, x < 8 → jL m (b + 6) (r * 8 + x) = 0) → (g = false → ∀ r, r ∈ pre → jRd D b m r) → ∃ m' g', c_X2_tell_l85 F f m b (Int32.ofNat pre.length) = some (m', b) ∧ jfw b m m' ∧ jI m' b 5 = jbi g' ∧ (g' = false → g = false ∧ ∀ r, r ∈ jord D → jRd D b m' r) ∧ (g' = true → g = true ∨ ∃ r x, r ∈ jord D ∧ x < jDz D r ∧ jGr D r x) := by
  have hlen := jord_le hT
  intro post
  induction post with
  | nil =>
    intro pre f m g e h2 hI hM hp hg h0 hv
    obtain ⟨f, rfl⟩ := jsucc h2
    rw [List.append_nil] at e
    refine ⟨m, g, ?_, jfw.rfl, hg, fun h => ⟨h, fun r hr => hv h r (e ▸ hr)⟩, fun h => Or.inl h⟩
    show c_X2_tell_l85_b F _ m _ _ = _
    unfold c_X2_tell_l85_b
    have hlt := hI.1.2.2.2.2.2.2.2.2.2.2.2.2.2.2.2.2.2.2
    rw [e] at hlen
    rw [jgd_t hI.1.1, hI.1.2.1, jgd_t hlt.1, hM.2.2.2.2.2.1, e, if_pos (ji_lep (by omega) (by omega) (by omega))]
  | cons r post ih =>
    intro pre f m g e h2 hI hM hp hg h0 hv
    obtain ⟨f, rfl⟩ := jsucc (show 0 < f by omega)
    have hI0 := hI
    have hro : r ∈ jord D := by rw [e]; simp
    have hr := ((hT.2.1 r).mp hro).1
    have hlt := hI.1.2.2.2.2.2.2.2.2.2.2.2.2.2.2.2.2.2.2
    have hle : pre.length < (jord D).length := by rw [e]; simp
    have hget : (jord D).getD pre.length 0 = r := by rw [e]; simp [List.getD]
    have hst : ∀ z, (jb (c_X2_weigh F m b (Int32.ofNat r)) fun t29 => c_X2_tell_l85 F f t29 b (Int32.ofNat (pre.length + 1))) = z → c_X2_tell_l85 F (f + 1) m b (Int32.ofNat pre.length) = z := by
      intro z h
      rw [← h]
      show c_X2_tell_l85_b F _ m _ _ = _
      unfold c_X2_tell_l85_b
      rw [jgd_t hI.1.1, hI.1.2.1, jgd_t hlt.1, hM.2.2.2.2.2.1, if_neg (ji_len (by omega) (by omega) (by omega)), hlt.2.2.2.1, jgd_t hlt.2.2.2.2.2.2.2.2.2.1, hlt.2.2.2.2.2.2.2.2.2.2.1, jgd_t (ji_int (by omega) (by omega)), ji_n (by omega), hM.2.2.2.2.1 _ hle, hget, show Int32.ofNat pre.length + 1 = Int32.ofNat (pre.length + 1) from ji_add pre.length 1]
    have hnd := hT.1
    rw [e] at hnd
    have hkp : ∀ c, c < 4 → jkid D c r = true → c ∈ pre := by
      intro c hc hk
      unfold jkid at hk
      rw [Bool.and_eq_true, beq_iff_eq] at hk
      exact jTr_kid hT e hc hk.1 hk.2
    have hrpre : r ∉ pre := by
      intro h
      exact (List.nodup_append.mp hnd).2.2 r h r (List.mem_cons_self ..) rfl
    have hne : ∀ c, jkid D c r = true → c ≠ r := by
      intro c hk he
      subst he
      exact hrpre (hkp c hr hk)
    have hz := (hI.2.2.2.2.2 r hr).2.2.1
    obtain ⟨m1, g1, a1, a2, a3, a4, a5, a6, a7⟩ := q_weigh_l2 (F := F) (by omega) hT hro hr hne hq (jDz D r) 0 F m g (by omega) (by omega) hI (fun x hx => hM.2.2.2.1 x hx) (hp r (List.mem_cons_self ..)) hg (fun x _ hx => h0 r (List.mem_cons_self ..) x hx) (fun h => ⟨fun c hc hk => (hv h c (hkp c hc hk)).1, fun x hx => by omega⟩)
    have hI1 : jIn D b m1 := jIn_fr (S := jSw b) (fun a ha => by unfold jSw at ha; omega) a2.1 hI0
    have hM1 : jTM D (b + 1) m1 := jTM_of (fun a h1 h2 => a2.1.2.2.2.2.2.1 a (by unfold jSw; omega)) hM
    have hrpost : r ∉ post := by
      intro h
      exact (List.nodup_cons.mp (List.nodup_append.mp hnd).2.1).1 h
    obtain ⟨m', g', y1, y2, y3, y4, y5⟩ := ih (pre ++ [r]) f m1 g1 (by rw [e]; simp) (by simp at h2; omega) hI1 hM1 (fun r' hr' => by rw [a2.1.2.2.2.2.2.1 _ (by unfold jSw; omega)]; exact hp r' (List.mem_cons_of_mem _ hr')) a5 (fun r' hr' x hx => by
      have hrr : r' ≠ r := fun h => hrpost (h ▸ hr')
      rw [a3 _ (fun y hy => by omega)]
      exact h0 r' (List.mem_cons_of_mem _ hr') x hx) (fun h r' hr' => by
      obtain ⟨u1, u2⟩ := a6 h
      rcases List.mem_append.mp hr' with h' | h'
      · have hrr : r' ≠ r := fun h => hrpre (h ▸ h')
        have hr4 := ((hT.2.1 r').mp (by rw [e]; exact List.mem_append_left _ h')).1
        have hz' := (hI.2.2.2.2.2 r' hr4).2.2.1
        obtain ⟨w1, w2⟩ := hv u1 r' h'
        refine ⟨fun k hk => ?_, fun k hk hp' => ?_⟩
        · rw [a3 _ (fun y hy => by omega)]
          exact w1 k hk
        · intro x hx hx2
          rw [a4 _ (fun y hy => by omega)]
          exact w2 k hk hp' x hx hx2
      · rw [List.mem_singleton] at h'
        subst h'
        exact u2)
    refine ⟨m', g', hst _ ?_, a2.trans y2, y3, fun h => ⟨(a6 (y4 h).1).1, (y4 h).2⟩, fun h => ?_⟩
    · unfold c_X2_weigh
      rw [show (0 : Int32) = Int32.ofNat 0 from rfl, a1, jb_some, jb_some]
      rw [List.length_append] at y1
      exact y1
    · rcases y5 h with h | h
      · rcases a7 h with h | ⟨x, x1, x2⟩
        · exact Or.inl h
        · exact Or.inr ⟨r, x, hro, x1, x2⟩
      · exact Or.inr h
end WEIGH2
