/-! weights of all rows, round by round -/
theorem jvn_1 : vp_nar .boolean (1 : Int32) = 1 := by decide +kernel
theorem jvn_0 : vp_nar .boolean (0 : Int32) = 0 := by decide +kernel
abbrev jyFr1 (r : Nat) (m m' : jMe) : Prop := jfx (fun a i => jSpp a i ∨ (a = 101 ∧ i = 31) ∨ (a = 114 ∧ 8 * r ≤ i ∧ i < 8 * r + 8) ∨ (a = 115 ∧ i = r)) m m'
/-- all of the rows of r is told -/
def jyR (D : jD) (m : jMe) (r : Nat) : Prop := jyW D m r ∧ ∀ k, k < jDz D r → jpb D r k = true → jyU1 D r k
/-- those that are weighed -/
def jyWd (D : jD) (W : Nat → Bool) (g : Bool) (m : jMe) : Prop := (∀ r, r < 4 → jI m 115 r = jbi (W r)) ∧ jI m 101 31 = jbi g ∧ (∀ r, r < 4 → W r = true → (jdK D).testBit r = true) ∧ (g = false → ∀ r, r < 4 → W r = true → jyR D m r) ∧ (g = true → ∃ r k, r < 4 ∧ (jdK D).testBit r = true ∧ k < jDz D r ∧ jGr D r k)
def jrdy (D : jD) (W : Nat → Bool) (r : Nat) : Bool := (jdK D).testBit r && (!W r) && (List.range' 0 4).all fun c => !jkid D c r || W c
section YROUND
variable {F : Nat} {D : jD} {S : jTS}
theorem y_weighs_l2 (hF : 1000 < F) (hDS : jDS D S) {root r : Nat} (hT : jTre (jDa D) (jdK D) root (jpar D) (jord D)) (hro : r ∈ jord D) (hr : r < 4) (hne : ∀ c, jkid D c r = true → c ≠ r) : ∀ (t k f : Nat) (m : jMe) (g : Bool), k + t = jDz D r → t < f → jRk D S m → jI m 101 31 = jbi g → (g = false → (∀ c, c < 4 → jkid D c r = true → jyW D m c) ∧ (∀ x, x < k → (jL m 114 (8 * r + x) = Int64.ofNat (jW1 D r x) ∧ jW1 D r x ≤ jMX) ∧ (jpb D r x = true → jyU1 D r x))) → ∃ m' g', c_X10_weighs_l2 F f m 101 (Int32.ofNat r) (Int32.ofNat k) = some (m', 101, Int32.ofNat r) ∧ jyFr1 r m m' ∧ (∀ i, jI m' 115 i = jI m 115 i) ∧ jRk D S m' ∧ jI m' 101 31 = jbi g' ∧ (g' = false → g = false ∧ jyR D m' r) ∧ (g' = true → g = true ∨ ∃ x, x < jDz D r ∧ jGr D r x) := by
  have hD := hDS.1
  have hDr := hD.2.2.1 r hr
  have hz := hDr.2.2.1
  intro t
  induction t with
  | zero =>
    intro k f m g h1 h2 hR hg hv
    obtain ⟨f, rfl⟩ := jsucc h2
    have hL := hR.1.1
    refine ⟨m, g, ?_, jfx.rfl, fun _ => rfl, hR, hg, fun h => ⟨h, fun x hx => ((hv h).2 x (by omega)).1, fun x hx => ((hv h).2 x (by omega)).2⟩, fun h => Or.inl h⟩
    show c_X10_weighs_l2_b F _ m _ _ _ = _
    unfold c_X10_weighs_l2_b
    rw [jgd_t hL.1, jp_107 hL, jgd_t (jk_107 hL), jz_107 hL, jgd_t (ji_int (by omega) hr), ji_n (by omega), (hR.1.2.1.2.2.2 r hr).2.2.1, if_pos (ji_lep (by omega) (by omega) (by omega))]
  | succ t ih =>
    intro k f m g h1 h2 hR hg hv
    obtain ⟨f, rfl⟩ := jsucc h2
    have hL := hR.1.1
    have hk : k < jDz D r := by omega
    obtain ⟨m1, b1, b2, b3⟩ := y_isPassing (F := F) hF hDS hr hk hR.1
    have hR1 := jRk_p b2 hR b3
    have hg1 : jI m1 101 31 = jbi g := by rw [b2.I (by unfold jSpp; omega)]; exact hg
    have hwl := jwth_le hDr hk
    have f1 : jyFr1 r m m1 := b2.weak (fun a i h => Or.inl h)
    obtain ⟨m2, v2, g2, c1, c2, c3, c4, c5, c6⟩ := y_weighs_l35 (F := F) hF hDS hr hk (by unfold jMX; omega) 4 0 F m1 (if jpb D r k = true then Int64.ofNat (jwth D r k) else 0) g (by omega) (by omega) hR1 hg1 (fun h => by
      obtain ⟨u1, u2⟩ := hv h
      refine ⟨fun c hc hc2 x hx => ?_, ?_, ?_, fun _ x hx => by omega⟩
      · rw [b2.L (by unfold jSpp; omega)]
        exact u1 c hc hc2 x hx
      · unfold jpre jprd
        rw [Nat.mul_one]
        by_cases e : jpb D r k = true
        · rw [if_pos e, if_pos e]
        · rw [if_neg e, if_neg e]
          rfl
      · unfold jpre jprd
        rw [Nat.mul_one]
        split <;> (unfold jMX; omega))
    have hW1 := jW1_e hT hro k
    rw [← hW1] at c5
    generalize hm3 : jsL m2 114 (8 * r + k) v2 = m3
    have f2 : jyFr1 r m1 m2 := c2.weak (fun a i h => h.elim (fun h => Or.inl h) (fun h => Or.inr (Or.inl h)))
    have f3 : jyFr1 r m2 m3 := by
      rw [← hm3]
      exact jfx_L (Or.inr (Or.inr (Or.inl ⟨rfl, by omega, by omega⟩)))
    have f13 := (f1.trans f2).trans f3
    have hR3 : jRk D S m3 := by
      rw [← hm3]
      exact jRk_w (jfx_L (Or.inr (Or.inl rfl))) c3
    have hst : ∀ z, c_X10_weighs_l2 F f m3 101 (Int32.ofNat r) (Int32.ofNat (k + 1)) = z → c_X10_weighs_l2 F (f + 1) m 101 (Int32.ofNat r) (Int32.ofNat k) = z := by
      intro z h
      rw [← h]
      show c_X10_weighs_l2_b F _ m _ _ _ = _
      unfold c_X10_weighs_l2_b
      have hL1 := hR1.1.1
      have hL2 := c3.1.1
      rw [jgd_t hL.1, jp_107 hL, jgd_t (jk_107 hL), jz_107 hL, jgd_t (ji_int (by omega) hr), ji_n (by omega), (hR.1.2.1.2.2.2 r hr).2.2.1, if_neg (ji_len (by omega) (by omega) (by omega)), b1, jb_some]
      dsimp only
      rw [jgd_t hL1.1, y_worthOf hL1 hR1.1.2.1 hr hDr hk, jb_some]
      have hend : (jgd (jK m2 101 = 42) <| jgd (jK m2 (jP m2 101 32) = 2) <| jgd (jin (((8 : Int32) * Int32.ofNat r) + Int32.ofNat k) (jZ m2 (jP m2 101 32)) = true) <| c_X10_weighs_l2 F f (jsL m2 (jP m2 101 32) (((8 : Int32) * Int32.ofNat r) + Int32.ofNat k).toNatClampNeg v2) 101 (Int32.ofNat r) (Int32.ofNat k + (1 : Int32))) = c_X10_weighs_l2 F f m3 101 (Int32.ofNat r) (Int32.ofNat (k + 1)) := by
        rw [jgd_t hL2.1, jp_114 hL2, jgd_t (jk_114 hL2), jz_114 hL2, show (8 : Int32) = Int32.ofNat 8 from rfl, ji_mul, ji_add, jgd_t (ji_int (by omega) (by omega)), ji_n (by omega), hm3, show Int32.ofNat k + 1 = Int32.ofNat (k + 1) from ji_add k 1]
      by_cases e : jpb D r k = true
      · rw [if_pos e] at c1
        rw [e, if_neg (show ¬ jbi true = 0 by decide)]
        have c1 : c_X10_weighs_l35 F F m1 101 (Int32.ofNat r) (Int32.ofNat k) (Int64.ofNat (jwth D r k)) (0 : Int32) = _ := c1
        rw [c1, jb_some]
        exact hend
      · rw [if_neg e] at c1
        have e' : jpb D r k = false := by cases q : jpb D r k with | false => rfl | true => exact absurd q e
        rw [e', if_pos (show jbi false = 0 from rfl)]
        have c1 : c_X10_weighs_l35 F F m1 101 (Int32.ofNat r) (Int32.ofNat k) (0 : Int64) (0 : Int32) = _ := c1
        rw [c1, jb_some]
        exact hend
    obtain ⟨m', g', a1, a2, a3, a4, a5, a6, a7⟩ := ih (k + 1) f m3 g2 (by omega) (by omega) hR3 (by rw [← hm3, jI_sL]; exact c4) (fun h => by
      obtain ⟨u1, u2, u3, u4⟩ := c5 h
      obtain ⟨w1, w2⟩ := hv u1
      refine ⟨fun c hc hc2 x hx => ?_, fun x hx => ?_⟩
      · have := hne c hc2
        have hzc := (hD.2.2.1 c hc).2.2.1
        rw [f13.L (by unfold jSpp; omega)]
        exact w1 c hc hc2 x hx
      · by_cases e : x = k
        · subst e
          refine ⟨?_, u4⟩
          rw [← hm3, jsL_y]
          exact ⟨u2, u3⟩
        · refine ⟨?_, (w2 x (by omega)).2⟩
          rw [← hm3, jsL_no (by omega), c2.L (by unfold jSpp; omega), b2.L (by unfold jSpp; omega)]
          exact (w2 x (by omega)).1)
    refine ⟨m', g', hst _ a1, f13.trans a2, fun i => ?_, a4, a5, fun h => ⟨(c5 (a6 h).1).1, (a6 h).2⟩, fun h => ?_⟩
    · rw [a3, ← hm3, jI_sL, c2.I (by unfold jSpp; omega), b2.I (by unfold jSpp; omega)]
    · rcases a7 h with h | h
      · rcases c6 h with h | ⟨h, x, x1, x2, x3⟩
        · exact Or.inl h
        · exact Or.inr ⟨k, hk, h, x, x1, x2, x3⟩
      · exact Or.inr h
theorem y_weighs (hF : 1000 < F) (hDS : jDS D S) {root r : Nat} (hT : jTre (jDa D) (jdK D) root (jpar D) (jord D)) (hro : r ∈ jord D) (hr : r < 4) (hne : ∀ c, jkid D c r = true → c ≠ r) {m : jMe} {g : Bool} (hR : jRk D S m) (hg : jI m 101 31 = jbi g) (hv : g = false → ∀ c, c < 4 → jkid D c r = true → jyW D m c) : ∃ m' g', c_X10_weighs F m 101 (Int32.ofNat r) = some m' ∧ jyFr1 r m m' ∧ (∀ i, jI m' 115 i = if i = r then 1 else jI m 115 i) ∧ jRk D S m' ∧ jI m' 101 31 = jbi g' ∧ (g' = false → g = false ∧ jyR D m' r) ∧ (g' = true → g = true ∨ ∃ x, x < jDz D r ∧ jGr D r x) := by
  have hz := (hDS.1.2.2.1 r hr).2.2.1
  obtain ⟨m1, g1, a1, a2, a3, a4, a5, a6, a7⟩ := y_weighs_l2 (F := F) hF hDS hT hro hr hne (jDz D r) 0 F m g (by omega) (by omega) hR hg (fun h => ⟨hv h, fun x hx => by omega⟩)
  have hL1 := a4.1.1
  refine ⟨jsI m1 115 r 1, g1, ?_, a2.trans (jfx_I (Or.inr (Or.inr (Or.inr ⟨rfl, rfl⟩)))), fun i => ?_, jRk_w (jfx_I (Or.inr (Or.inr rfl))) a4, by rw [jsI_no (by omega)]; exact a5, fun h => ?_, a7⟩
  · unfold c_X10_weighs
    have a1 : c_X10_weighs_l2 F F m 101 (Int32.ofNat r) (0 : Int32) = _ := a1
    rw [a1, jb_some]
    dsimp only
    rw [jgd_t hL1.1, jp_115 hL1, jgd_t (jk_115 hL1), jz_115 hL1, jgd_t (ji_int (by omega) hr), ji_n (by omega), jvn_1]
  · rw [jsI_g, a3]
    by_cases e : i = r
    · rw [if_pos ⟨rfl, e⟩, if_pos e]
    · rw [if_neg (fun h => e h.2), if_neg e]
  · obtain ⟨u1, u2, u3⟩ := a6 h
    refine ⟨u1, fun k hk => ?_, u3⟩
    rw [jL_sI]
    exact u2 k hk
theorem y_isReady_l29 {m : jMe} (hR : jRk D S m) (hq : jDq D < 16) (hF : 100 < F) {r : Nat} (hr : r < 4) {W : Nat → Bool} (hW : ∀ r, r < 4 → jI m 115 r = jbi (W r)) : ∀ (t c f : Nat) (b : Bool), c + t = 4 → t < f → c_X10_isReady_l29 F m f 101 (Int32.ofNat r) (jbi b) (Int32.ofNat c) = some (jbi (b && (List.range' c t).all fun c => !jkid D c r || W c)) := by
  have hL := hR.1.1
  intro t
  induction t with
  | zero =>
    intro c f b h1 h2
    obtain ⟨f, rfl⟩ := jsucc h2
    show c_X10_isReady_l29_b F _ m _ _ _ _ = _
    unfold c_X10_isReady_l29_b
    rw [if_pos (show (4 : Int32) ≤ Int32.ofNat c from ji_lep (a := 4) (by omega) (by omega) (by omega))]
    show some (jbi b) = some (jbi (b && true))
    rw [Bool.and_true]
  | succ t ih =>
    intro c f b h1 h2
    obtain ⟨f, rfl⟩ := jsucc h2
    have ih := fun b => ih (c + 1) f b (by omega) (by omega)
    have i0 : c_X10_isReady_l29 F m f 101 (Int32.ofNat r) (0 : Int32) (Int32.ofNat (c + 1)) = _ := ih false
    have i1 : c_X10_isReady_l29 F m f 101 (Int32.ofNat r) (1 : Int32) (Int32.ofNat (c + 1)) = _ := ih true
    show c_X10_isReady_l29_b F _ m _ _ _ _ = _
    unfold c_X10_isReady_l29_b
    rw [if_neg (show ¬ (4 : Int32) ≤ Int32.ofNat c from ji_len (a := 4) (by omega) (by omega) (by omega)), show Int32.ofNat c + 1 = Int32.ofNat (c + 1) from ji_add c 1, jgd_t hL.1, y_childrenOf hF hL hR.2.1 hR.2.2 hq hr, jb_some, y_kidbit (by omega), jp_115 hL, jgd_t (jk_115 hL), jz_115 hL, jgd_t (ji_int (by omega) (by omega)), ji_n (by omega), hW c (by omega), jall_s]
    dsimp only
    rw [i0, i1]
    cases b with
    | false => rfl
    | true =>
      cases jkid D c r with
      | false => rfl
      | true => cases W c <;> rfl
theorem y_isReady {m : jMe} (hR : jRk D S m) (hq : jDq D < 16) (hF : 100 < F) {r : Nat} (hr : r < 4) {W : Nat → Bool} (hW : ∀ r, r < 4 → jI m 115 r = jbi (W r)) : c_X10_isReady F m 101 (Int32.ofNat r) = some (jbi (jrdy D W r)) := by
  have hL := hR.1.1
  have hK := jdK_lt hq
  have ih := fun b => y_isReady_l29 (F := F) hR hq hF hr hW 4 0 F b (by omega) (by omega)
  have i0 : c_X10_isReady_l29 F m F 101 (Int32.ofNat r) (0 : Int32) (0 : Int32) = _ := ih false
  have i1 : c_X10_isReady_l29 F m F 101 (Int32.ofNat r) (1 : Int32) (0 : Int32) = _ := ih true
  have hb : ∀ b : Bool, jbi b = 0 ∨ jbi b = 1 := fun b => by cases b <;> simp [jbi]
  unfold c_X10_isReady jrdy
  rw [jgd_t hL.1, hR.2.2, jshr_1 (by omega) (by omega), jp_115 hL, jgd_t (jk_115 hL), jz_115 hL, jgd_t (ji_int (by omega) hr), ji_n (by omega), hW r hr, i0, i1, jb_some, jb_some, jgd_t (hb _), jgd_t (hb _)]
  cases (jdK D).testBit r with
  | false => rfl
  | true => cases W r <;> rfl
/-- within one round -/
theorem y_reckons_l42 (hF : 1000 < F) (hDS : jDS D S) {root : Nat} (hT : jTre (jDa D) (jdK D) root (jpar D) (jord D)) {n : Nat} : ∀ (t a f : Nat) (m : jMe) (W : Nat → Bool) (g : Bool), a + t = 4 → t < f → jRk D S m → jyWd D W g m → ∃ m' W' g', c_X10_reckons_l42 F f m 101 (Int32.ofNat n) (Int32.ofNat a) = some (m', 101, Int32.ofNat n) ∧ jfx (fun a i => jSpp a i ∨ (a = 101 ∧ i = 31) ∨ a = 114 ∨ a = 115) m m' ∧ jRk D S m' ∧ jyWd D W' g' m' ∧ (∀ r, W r = true → W' r = true) ∧ (∀ r, a ≤ r → r < 4 → (jdK D).testBit r = true → (∀ c, c < 4 → jkid D c r = true → W c = true) → W' r = true) := by
  have hq := jDok_q hDS.1
  intro t
  induction t with
  | zero =>
    intro a f m W g h1 h2 hR hW
    obtain ⟨f, rfl⟩ := jsucc h2
    refine ⟨m, W, g, ?_, jfx.rfl, hR, hW, fun _ h => h, fun r h3 h4 => by omega⟩
    show c_X10_reckons_l42_b F _ m _ _ _ = _
    unfold c_X10_reckons_l42_b
    rw [if_pos (show (4 : Int32) ≤ Int32.ofNat a from ji_lep (a := 4) (by omega) (by omega) (by omega))]
  | succ t ih =>
    intro a f m W g h1 h2 hR hW
    obtain ⟨f, rfl⟩ := jsucc h2
    have ha : a < 4 := by omega
    have hst : ∀ z, (if jrdy D W a = true then (jb (c_X10_weighs F m 101 (Int32.ofNat a)) fun t19 => c_X10_reckons_l42 F f t19 101 (Int32.ofNat n) (Int32.ofNat (a + 1))) else c_X10_reckons_l42 F f m 101 (Int32.ofNat n) (Int32.ofNat (a + 1))) = z → c_X10_reckons_l42 F (f + 1) m 101 (Int32.ofNat n) (Int32.ofNat a) = z := by
      intro z h
      rw [← h]
      show c_X10_reckons_l42_b F _ m _ _ _ = _
      unfold c_X10_reckons_l42_b
      rw [if_neg (show ¬ (4 : Int32) ≤ Int32.ofNat a from ji_len (a := 4) (by omega) (by omega) (by omega)), jgd_t hR.1.1.1, y_isReady hR hq (by omega) ha hW.1, jb_some, show Int32.ofNat a + 1 = Int32.ofNat (a + 1) from ji_add a 1]
      cases jrdy D W a with
      | true => rw [if_neg (by decide), if_pos rfl]
      | false => rw [if_pos (by decide), if_neg (by decide)]
    by_cases e : jrdy D W a = true
    · rw [if_pos e] at hst
      unfold jrdy at e
      rw [Bool.and_eq_true, Bool.and_eq_true, List.all_eq_true] at e
      obtain ⟨⟨e1, e2⟩, e3⟩ := e
      have hkid : ∀ c, c < 4 → jkid D c a = true → W c = true := by
        intro c hc hk
        have := e3 c (by rw [List.mem_range']; exact ⟨c, by omega, by omega⟩)
        rw [hk] at this
        simpa using this
      have hro : a ∈ jord D := (hT.2.1 a).mpr ⟨ha, e1⟩
      have hne : ∀ c, jkid D c a = true → c ≠ a := by
        intro c hk he
        subst he
        have hh := hkid c ha hk
        rw [hh] at e2
        cases e2
      obtain ⟨w1, w2, w3, w4, w5⟩ := hW
      obtain ⟨m1, g1, b1, b2, b3, b4, b5, b6, b7⟩ := y_weighs (F := F) hF hDS hT hro ha hne hR w2 (fun h c hc hk => (w4 h c hc (hkid c hc hk)).1)
      have hW1 : jyWd D (fun x => W x || x == a) g1 m1 := by
        refine ⟨fun r hr => ?_, b5, fun r hr h => ?_, fun h r hr hWr => ?_, fun h => ?_⟩
        · rw [b3, w1 r hr]
          by_cases q : r = a
          · subst q
            rw [if_pos rfl]
            simp [jbi]
          · rw [if_neg q]
            show jbi (W r) = jbi (W r || r == a)
            rw [beq_eq_false_iff_ne.mpr q, Bool.or_false]
        · rw [Bool.or_eq_true, beq_iff_eq] at h
          rcases h with h | h
          · exact w3 r hr h
          · rw [h]; exact e1
        · obtain ⟨u1, u2⟩ := b6 h
          by_cases q : r = a
          · rw [q]; exact u2
          · have hWr : W r = true := by simpa [q] using hWr
            obtain ⟨x1, x2⟩ := w4 u1 r hr hWr
            refine ⟨fun k hk => ?_, x2⟩
            have hz := (hDS.1.2.2.1 r hr).2.2.1
            rw [b2.L (by unfold jSpp; omega)]
            exact x1 k hk
        · rcases b7 h with h | ⟨x, x1, x2⟩
          · exact w5 h
          · exact ⟨a, x, ha, e1, x1, x2⟩
      obtain ⟨m', W', g', c1, c2, c3, c4, c5, c6⟩ := ih (a + 1) f m1 _ g1 (by omega) (by omega) b4 hW1
      refine ⟨m', W', g', hst _ (by rw [b1, jb_some]; exact c1), (b2.weak (fun a i h => by rcases h with h | h | h | h; exact Or.inl h; exact Or.inr (Or.inl h); exact Or.inr (Or.inr (Or.inl h.1)); exact Or.inr (Or.inr (Or.inr h.1)))).trans c2, c3, c4, fun r h => c5 r (by rw [h, Bool.true_or]), fun r h3 h4 h5 h6 => ?_⟩
      by_cases q : r = a
      · exact c5 r (by simp [q])
      · exact c6 r (by omega) h4 h5 (fun c hc hk => by rw [h6 c hc hk, Bool.true_or])
    · rw [if_neg e] at hst
      obtain ⟨m', W', g', c1, c2, c3, c4, c5, c6⟩ := ih (a + 1) f m W g (by omega) (by omega) hR hW
      refine ⟨m', W', g', hst _ c1, c2, c3, c4, c5, fun r h3 h4 h5 h6 => ?_⟩
      by_cases q : r = a
      · subst q
        apply c5
        cases hw : W r with
        | true => rfl
        | false =>
          exfalso
          apply e
          unfold jrdy
          rw [h5, hw, Bool.and_eq_true, List.all_eq_true]
          refine ⟨rfl, fun c hc => ?_⟩
          obtain ⟨i, hi, rfl⟩ := List.mem_range'.mp hc
          cases hk : jkid D (0 + 1 * i) r with
          | false => rfl
          | true => rw [h6 _ (by omega) hk]; rfl
      · exact c6 r (by omega) h4 h5 h6
theorem jTr_kids {root : Nat} (hT : jTre (jDa D) (jdK D) root (jpar D) (jord D)) {pre post : List Nat} {r : Nat} (e : jord D = pre ++ r :: post) {c : Nat} (hc : c < 4) (hk : jkid D c r = true) : c ∈ pre := by
  unfold jkid at hk
  rw [Bool.and_eq_true, beq_iff_eq] at hk
  exact jTr_kid hT e hc hk.1 hk.2
/-- rounds: after n of these the first n of the order are weighed -/
theorem y_reckons_l35 (hF : 1000 < F) (hDS : jDS D S) {root : Nat} (hT : jTre (jDa D) (jdK D) root (jpar D) (jord D)) : ∀ (t n f : Nat) (m : jMe) (W : Nat → Bool) (g : Bool), n + t = 4 → t < f → jRk D S m → jyWd D W g m → (∀ i, i < n → i < (jord D).length → W ((jord D).getD i 0) = true) → ∃ m' W' g', c_X10_reckons_l35 F f m 101 (Int32.ofNat n) = some (m', 101) ∧ jfx (fun a i => jSpp a i ∨ (a = 101 ∧ i = 31) ∨ a = 114 ∨ a = 115) m m' ∧ jRk D S m' ∧ jyWd D W' g' m' ∧ (∀ r, r ∈ jord D → W' r = true) := by
  have hlen := jord_le hT
  intro t
  induction t with
  | zero =>
    intro n f m W g h1 h2 hR hW hn
    obtain ⟨f, rfl⟩ := jsucc h2
    refine ⟨m, W, g, ?_, jfx.rfl, hR, hW, fun r hr => ?_⟩
    · show c_X10_reckons_l35_b F _ m _ _ = _
      unfold c_X10_reckons_l35_b
      rw [if_pos (show (4 : Int32) ≤ Int32.ofNat n from ji_lep (a := 4) (by omega) (by omega) (by omega))]
    · obtain ⟨i, hi, e⟩ := List.mem_iff_getElem.mp hr
      have := hn i (by omega) hi
      rw [List.getD_eq_getElem?_getD, List.getElem?_eq_getElem hi, e] at this
      exact this
  | succ t ih =>
    intro n f m W g h1 h2 hR hW hn
    obtain ⟨f, rfl⟩ := jsucc h2
    obtain ⟨m1, W1, g1, b1, b2, b3, b4, b5, b6⟩ := y_reckons_l42 (F := F) hF hDS hT (n := n) 4 0 F m W g (by omega) (by omega) hR hW
    obtain ⟨m', W', g', c1, c2, c3, c4, c5⟩ := ih (n + 1) f m1 W1 g1 (by omega) (by omega) b3 b4 (fun i hi hil => by
      by_cases e : i < n
      · exact b5 _ (hn i e hil)
      · have hi : i = n := by omega
        subst hi
        have hget : (jord D).getD i 0 = (jord D)[i] := by
          rw [List.getD_eq_getElem?_getD, List.getElem?_eq_getElem hil]
          rfl
        have hsp : jord D = (jord D).take i ++ (jord D)[i] :: (jord D).drop (i + 1) := by
          rw [List.getElem_cons_drop, List.take_append_drop]
        have hmem := (hT.2.1 _).mp (List.getElem_mem hil)
        rw [hget]
        refine b6 _ (Nat.zero_le _) hmem.1 hmem.2 (fun c hc hk => ?_)
        have hp := jTr_kids hT hsp hc hk
        obtain ⟨j, hj, ej⟩ := List.mem_iff_getElem.mp hp
        rw [List.length_take] at hj
        have := hn j (by omega) (by omega)
        rw [List.getD_eq_getElem?_getD, List.getElem?_eq_getElem (by omega)] at this
        rw [List.getElem_take] at ej
        rw [← ej]
        exact this)
    refine ⟨m', W', g', ?_, b2.trans c2, c3, c4, c5⟩
    show c_X10_reckons_l35_b F _ m _ _ = _
    unfold c_X10_reckons_l35_b
    rw [if_neg (show ¬ (4 : Int32) ≤ Int32.ofNat n from ji_len (a := 4) (by omega) (by omega) (by omega)), jl_0, b1, jb_some]
    dsimp only
    rw [show Int32.ofNat n + 1 = Int32.ofNat (n + 1) from ji_add n 1]
    exact c1
end YROUND
