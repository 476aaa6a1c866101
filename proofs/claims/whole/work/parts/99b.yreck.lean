/-! the reference reckons: weights, bounds, SPACE, GREAT -/
/-- all is reckoned -/
def jYJ (D : jD) (S : jTS) (m : jMe) : Prop := jRk D S m ∧ (∀ x, x < 4 → jL m 116 x = Int64.ofNat (if (jdC D).testBit x = true then jbd D x else 0)) ∧ ∃ g, jI m 101 31 = jbi g ∧ (g = true ↔ jGt D) ∧ (g = false → (∀ r, r ∈ jord D → jyR D m r) ∧ jL m 101 35 = Int64.ofNat (jsp D 4) ∧ jsp D 4 ≤ jMX)
def jSrk (a i : Nat) : Prop := (a = 101 ∧ ((15 ≤ i ∧ i ≤ 25) ∨ i = 29 ∨ i = 30 ∨ i = 31 ∨ i = 35)) ∨ (111 ≤ a ∧ a ≤ 116)
section YRECK
variable {F : Nat} {D : jD} {S : jTS}
theorem y_reckons_l15 : ∀ (t a f : Nat) (m : jMe), a + t = 4 → t < f → jLM m → ∃ m', c_X10_reckons_l15 F f m 101 (Int32.ofNat a) = some (m', 101) ∧ jfx (fun a i => a = 115) m m' ∧ (∀ r, a ≤ r → r < 4 → jI m' 115 r = 0) ∧ (∀ r, r < a → jI m' 115 r = jI m 115 r) := by
  intro t
  induction t with
  | zero =>
    intro a f m h1 h2 hL
    obtain ⟨f, rfl⟩ := jsucc h2
    refine ⟨m, ?_, jfx.rfl, fun r h3 h4 => by omega, fun _ _ => rfl⟩
    show c_X10_reckons_l15_b F _ m _ _ = _
    unfold c_X10_reckons_l15_b
    rw [if_pos (show (4 : Int32) ≤ Int32.ofNat a from ji_lep (a := 4) (by omega) (by omega) (by omega))]
  | succ t ih =>
    intro a f m h1 h2 hL
    obtain ⟨f, rfl⟩ := jsucc h2
    have f1 : jfx (fun a i => a = 115) m (jsI m 115 a 0) := jfx_I rfl
    obtain ⟨m', b1, b2, b3, b4⟩ := ih (a + 1) f _ (by omega) (by omega) (jLM_fx f1 hL)
    refine ⟨m', ?_, f1.trans b2, fun r h3 h4 => ?_, fun r h3 => ?_⟩
    · show c_X10_reckons_l15_b F _ m _ _ = _
      unfold c_X10_reckons_l15_b
      rw [if_neg (show ¬ (4 : Int32) ≤ Int32.ofNat a from ji_len (a := 4) (by omega) (by omega) (by omega)), jgd_t hL.1, jp_115 hL, jgd_t (jk_115 hL), jz_115 hL, jgd_t (ji_int (by omega) (by omega)), ji_n (by omega), jvn_0, show Int32.ofNat a + 1 = Int32.ofNat (a + 1) from ji_add a 1]
      exact b1
    · by_cases e : r = a
      · subst e
        rw [b4 r (by omega), jsI_y]
      · exact b3 r (by omega) h4
    · rw [b4 r (by omega), jsI_no (by omega)]
theorem y_reckons_l99 (hF : 1000 < F) (hDS : jDS D S) : ∀ (t k f : Nat) (m : jMe) (g : Bool), k + t = 4 → t < f → jRk D S m → jI m 101 31 = jbi g → (∀ x, x < k → jL m 116 x = Int64.ofNat (if (jdC D).testBit x = true then jbd D x else 0)) → (g = false → jL m 101 35 = Int64.ofNat (jsp D k) ∧ jsp D k ≤ jMX) → ∃ m' g', c_X10_reckons_l99 F f m 101 (Int32.ofNat k) = some m' ∧ jfx (fun a i => jSpp a i ∨ (a = 101 ∧ (i = 31 ∨ i = 35)) ∨ a = 116) m m' ∧ jRk D S m' ∧ jI m' 101 31 = jbi g' ∧ (∀ x, x < 4 → jL m' 116 x = Int64.ofNat (if (jdC D).testBit x = true then jbd D x else 0)) ∧ (g' = false → g = false ∧ jL m' 101 35 = Int64.ofNat (jsp D 4) ∧ jsp D 4 ≤ jMX ∧ ∀ r, k ≤ r → r < 4 → (jdC D).testBit r = true → jsp D (r + 1) ≤ jMX) ∧ (g' = true → g = true ∨ ∃ r, r < 4 ∧ (jdC D).testBit r = true ∧ jMX < jsp D (r + 1)) := by
  have hD := hDS.1
  have hq := jDok_q hD
  intro t
  induction t with
  | zero =>
    intro k f m g h1 h2 hR hg hb hv
    obtain ⟨f, rfl⟩ := jsucc h2
    have hk : k = 4 := by omega
    subst hk
    refine ⟨m, g, ?_, jfx.rfl, hR, hg, hb, fun h => ⟨h, (hv h).1, (hv h).2, fun r h3 h4 => by omega⟩, fun h => Or.inl h⟩
    show c_X10_reckons_l99_b F _ m _ _ = _
    unfold c_X10_reckons_l99_b
    rw [if_pos (show (4 : Int32) ≤ Int32.ofNat 4 by decide)]
  | succ t ih =>
    intro k f m g h1 h2 hR hg hb hv
    obtain ⟨f, rfl⟩ := jsucc h2
    have hk : k < 4 := by omega
    have hL := hR.1.1
    -- the bound, then the space
    have hmid : ∃ (m1 m2 : jMe) (v : Int64) (g2 : Bool), jfx (fun a i => jSpp a i ∨ (a = 101 ∧ i = 31) ∨ a = 116) m m2 ∧ jRk D S m2 ∧ jI m2 101 31 = jbi g2 ∧ (∀ x, x < k + 1 → jL m2 116 x = Int64.ofNat (if (jdC D).testBit x = true then jbd D x else 0)) ∧ (g2 = false → g = false ∧ v = Int64.ofNat (jsp D (k + 1)) ∧ jsp D (k + 1) ≤ jMX) ∧ (g2 = true → g = true ∨ ((jdC D).testBit k = true ∧ jMX < jsp D (k + 1))) ∧ ∀ z, c_X10_reckons_j157_l99 F (fun m y0 y1 => c_X10_reckons_l99 F f m y0 y1) m2 101 (Int32.ofNat k) v 101 = z → c_X10_reckons_l99 F (f + 1) m 101 (Int32.ofNat k) = z := by
      cases hc : (jdC D).testBit k with
      | false =>
        have f1 : jfx (fun a i => jSpp a i ∨ (a = 101 ∧ i = 31) ∨ a = 116) m (jsL m 116 k 0) := jfx_L (Or.inr (Or.inr rfl))
        have hR1 : jRk D S (jsL m 116 k 0) := jRk_fx (jfx_L (S := fun a i => a = 116) rfl) (fun a i h => by unfold jSr at h; omega) hR
        refine ⟨m, jsL m 116 k 0, jL m 101 35, g, f1, hR1, by rw [jI_sL]; exact hg, fun x hx => ?_, fun h => ?_, fun h => Or.inl h, fun z h => ?_⟩
        · by_cases e : x = k
          · subst e
            rw [jsL_y, hc, if_neg (by decide)]
            rfl
          · rw [jsL_no (by omega)]
            exact hb x (by omega)
        · have hs : jsp D (k + 1) = jsp D k := by rw [jsp_s, hc, if_neg (by decide), Nat.mul_one]
          rw [hs]
          exact ⟨h, hv h⟩
        · rw [← h]
          show c_X10_reckons_l99_b F _ m _ _ = _
          unfold c_X10_reckons_l99_b c_X10_reckons_j126_l99
          rw [if_neg (show ¬ (4 : Int32) ≤ Int32.ofNat k from ji_len (a := 4) (by omega) (by omega) (by omega)), jgd_t hL.1, y_isCheck hR hq hk, jb_some, hc, if_pos (show jbi false = 0 from rfl), jp_116 hL, jgd_t (jk_116 hL), jz_116 hL, jgd_t (ji_int (by omega) hk), ji_n (by omega), jgd_t hL.1, y_isCheck hR1 hq hk, jb_some, hc, if_pos (show jbi false = 0 from rfl), jsL_no (by omega)]
      | true =>
        obtain ⟨m1, b1, b2, b3⟩ := y_boundOf (F := F) hF hDS hk hR
        have hDk := hD.2.2.1 k hk
        have hbl := jbd_le hDk
        have hL1 := b3.1.1
        have hR1 : jRk D S (jsL m1 116 k (Int64.ofNat (jbd D k))) := jRk_fx (jfx_L (S := fun a i => a = 116) rfl) (fun a i h => by unfold jSr at h; omega) b3
        have hL2 := hR1.1.1
        obtain ⟨v, m2, g2, c1, c2, c3, c4, c5⟩ := y_times (F := F) hL2 (g := g) (by rw [jI_sL, b2.I (by unfold jSpp; omega)]; exact hg) (x := jL m1 101 35) (y := Int64.ofNat (jbd D k)) (a := jsp D k) (b := jbd D k) (fun h => ⟨by rw [b2.L (by unfold jSpp; omega)]; exact (hv h).1, (hv h).2, rfl, by unfold jMX; omega⟩)
        have hs : jsp D (k + 1) = jsp D k * jbd D k := by rw [jsp_s, hc, if_pos rfl]
        rw [← hs] at c4 c5
        have hR2 : jRk D S m2 := jRk_w (c2.weak (fun a i h => Or.inl h)) hR1
        refine ⟨m1, m2, v, g2, ((b2.weak (fun a i h => Or.inl h)).trans (jfx_L (S := fun a i => jSpp a i ∨ (a = 101 ∧ i = 31) ∨ a = 116) (Or.inr (Or.inr rfl)))).trans (c2.weak (fun a i h => Or.inr (Or.inl h))), hR2, c3, fun x hx => ?_, c4, fun h => ?_, fun z h => ?_⟩
        · rw [c2.L (by omega)]
          by_cases e : x = k
          · subst e
            rw [jsL_y, hc, if_pos rfl]
          · rw [jsL_no (by omega), b2.L (by unfold jSpp; omega)]
            exact hb x (by omega)
        · rcases c5 h with h | h
          · exact Or.inl h
          · exact Or.inr ⟨rfl, h⟩
        · rw [← h]
          show c_X10_reckons_l99_b F _ m _ _ = _
          unfold c_X10_reckons_l99_b c_X10_reckons_j126_l99
          rw [if_neg (show ¬ (4 : Int32) ≤ Int32.ofNat k from ji_len (a := 4) (by omega) (by omega) (by omega)), jgd_t hL.1, y_isCheck hR hq hk, jb_some, hc, if_neg (show ¬ jbi true = 0 by decide), b1, jb_some]
          dsimp only
          rw [jp_116 hL, jgd_t (jk_116 hL1), jz_116 hL1, jgd_t (ji_int (by omega) hk), ji_n (by omega), jgd_t hL1.1, y_isCheck hR1 hq hk, jb_some, hc, if_neg (show ¬ jbi true = 0 by decide), jP_sL, jp_116 hL1, jgd_t (jk_116 hL1), jz_116 hL1, jgd_t (ji_int (by omega) hk), jsL_no (by omega), jsL_y, c1, jb_some]
    obtain ⟨m1, m2, v, g2, f2, hR2, g31, hb2, hv2, hg2, hst⟩ := hmid
    generalize hm3 : jsL m2 101 35 v = m3
    have f3 : jfx (fun a i => jSpp a i ∨ (a = 101 ∧ (i = 31 ∨ i = 35)) ∨ a = 116) m2 m3 := by
      rw [← hm3]
      exact jfx_L (Or.inr (Or.inl ⟨rfl, Or.inr rfl⟩))
    have hR3 : jRk D S m3 := by
      rw [← hm3]
      exact jRk_fx (jfx_L (S := fun a i => a = 101 ∧ i = 35) ⟨rfl, rfl⟩) (fun a i h => by unfold jSr at h; omega) hR2
    obtain ⟨m', g', a1, a2, a3, a4, a5, a6, a7⟩ := ih (k + 1) f m3 g2 (by omega) (by omega) hR3 (by rw [← hm3, jI_sL]; exact g31) (fun x hx => by rw [← hm3, jsL_no (by omega)]; exact hb2 x hx) (fun h => by rw [← hm3, jsL_y]; exact (hv2 h).2)
    refine ⟨m', g', hst _ ?_, ((f2.weak (fun a i h => by rcases h with h | h | h; exact Or.inl h; exact Or.inr (Or.inl ⟨h.1, Or.inl h.2⟩); exact Or.inr (Or.inr h))).trans f3).trans a2, a3, a4, a5, fun h => ?_, fun h => ?_⟩
    · unfold c_X10_reckons_j157_l99
      rw [jgd_t hR2.1.1.1, hm3, show Int32.ofNat k + 1 = Int32.ofNat (k + 1) from ji_add k 1]
      exact a1
    · obtain ⟨u1, u2, u3, u4⟩ := a6 h
      obtain ⟨w1, w2, w3⟩ := hv2 u1
      refine ⟨w1, u2, u3, fun r h3 h4 h5 => ?_⟩
      by_cases e : r = k
      · subst e; exact w3
      · exact u4 r (by omega) h4 h5
    · rcases a7 h with h | h
      · rcases hg2 h with h | h
        · exact Or.inl h
        · exact Or.inr ⟨k, hk, h.1, h.2⟩
      · exact Or.inr h
theorem y_reckons (hF : 1000 < F) (hDS : jDS D S) {m : jMe} (hR : jRf D S m) {x : Nat} (hx : jI m 101 29 = Int32.ofNat x) (hx4 : x < 4) : ∃ m', c_X10_reckons F m 101 = some m' ∧ jfx jSrk m m' ∧ jYJ D S m' := by
  have hD := hDS.1
  have hq := jDok_q hD
  obtain ⟨root, hTr, hrt, hr4, hro⟩ := jtree0 hD
  obtain ⟨m1, a1, a2, a3⟩ := y_keptNow (F := F) (by omega) hR.1 hR.2.1 hD hx hx4
  have hL1 := jLM_fx a2 hR.1
  have hR1 : jRf D S m1 := jRf_fx a2 (fun a i h => by unfold jSr at h; omega) hR
  generalize hm2 : jsI (jsI m1 101 30 (Int32.ofNat (jdK D))) 101 31 (0 : Int32) = m2
  have f2 : jfx (fun a i => a = 101 ∧ (i = 30 ∨ i = 31)) m1 m2 := by
    rw [← hm2]
    exact (jfx_I (S := fun a i => a = 101 ∧ (i = 30 ∨ i = 31)) ⟨rfl, Or.inl rfl⟩).trans (jfx_I ⟨rfl, Or.inr rfl⟩)
  have hR2 : jRk D S m2 := ⟨jRf_fx f2 (fun a i h => by unfold jSr at h; omega) hR1, jyT_of f2 (fun i => by omega) (by omega) a3, by rw [← hm2, jsI_no (by omega), jsI_y]⟩
  obtain ⟨m3, b1, b2, b3, -⟩ := y_reckons_l15 (F := F) 4 0 F m2 (by omega) (by omega) hR2.1.1
  have hR3 : jRk D S m3 := jRk_w (b2.weak (fun a i h => Or.inr (Or.inr h))) hR2
  have hW3 : jyWd D (fun _ => false) false m3 := ⟨fun r hr => b3 r (Nat.zero_le _) hr, (by rw [b2.I (by omega), ← hm2, jsI_y]; rfl), fun r hr h => (by cases h), fun _ r hr h => (by cases h), fun h => (by cases h)⟩
  obtain ⟨m4, W, g, c1, c2, c3, c4, c5⟩ := y_reckons_l35 (F := F) hF hDS hTr 4 0 F m3 _ false (by omega) (by omega) hR3 hW3 (fun i hi => by omega)
  obtain ⟨w1, w2, w3, w4, w5⟩ := c4
  have hL4 := c3.1.1
  have hWo : g = false → ∀ r, r ∈ jord D → jyR D m4 r := fun h r hr => w4 h r ((hTr.2.1 r).mp hr).1 (c5 r hr)
  have hstart : ∀ z, (if jI m4 101 14 = 0 then c_X10_reckons_j94 F m4 101 (0 : Int64) 101 else jb (c_X10_sumOf F m4 101 (jI m4 101 29) (-1 : Int32) (0 : Int32)) fun t29 => c_X10_reckons_j94 F t29.2 101 t29.1 101) = z → c_X10_reckons F m 101 = z := by
    intro z h
    rw [← h]
    unfold c_X10_reckons
    rw [jgd_t hR.1.1, a1, jb_some]
    dsimp only
    have b1 : c_X10_reckons_l15 F F m2 101 (0 : Int32) = _ := b1
    have c1 : c_X10_reckons_l35 F F m3 101 (0 : Int32) = _ := c1
    rw [jgd_t hL1.1, hm2, b1, jb_some]
    dsimp only
    rw [c1, jb_some]
    dsimp only
    rw [jgd_t hL4.1]
  have hroot : ∃ m5 v g5, (∀ z, c_X10_reckons_j94 F m5 101 v 101 = z → c_X10_reckons F m 101 = z) ∧ jy31 m4 m5 ∧ jI m5 101 31 = jbi g5 ∧ (g5 = false → g = false ∧ v = Int64.ofNat (jAll D) ∧ jAll D ≤ jMX) ∧ (g5 = true → g = true ∨ jMX < jAll D) := by
    have h14 : jI m4 101 14 = Int32.ofNat (jDq D) := c3.1.2.1.2.2.1
    by_cases h0 : jDq D = 0
    · rw [if_pos h0] at hrt
      have hall : jAll D = 0 := by
        unfold jAll
        rw [hrt]
      refine ⟨m4, 0, g, fun z h => hstart z ?_, jfx.rfl, w2, fun h => ⟨h, by rw [hall]; rfl, by rw [hall]; exact Nat.zero_le _⟩, fun h => Or.inl h⟩
      rw [if_pos (show jI m4 101 14 = 0 by rw [h14, h0]; rfl)]
      exact h
    · rw [if_neg h0] at hrt
      have hall : jAll D = jsum (jDz D root) (fun x => if (fun _ => true) x = true then jW1 D root x else 0) := by
        unfold jAll
        rw [hrt]
        refine jsum_c (fun x hx => ?_)
        rw [if_pos rfl]
      obtain ⟨m5, v, g5, e1, e2, e3, e4, e5⟩ := y_sumOf (F := F) (by omega) hD (c := root) hr4 (x := -1) (y := 0) (M := fun _ => true) (Or.inl ⟨rfl, fun _ => rfl⟩) (w := jW1 D root) hL4 c3.1.2.1 w2 (fun h x hx _ => (hWo h root (hro h0)).1 x hx)
      rw [← hall] at e4 e5
      refine ⟨m5, v, g5, fun z h => hstart z ?_, e2, e3, e4, e5⟩
      rw [if_neg (show ¬ jI m4 101 14 = 0 by rw [h14]; exact ji_eqn (b := 0) (by omega) (by omega) h0), c3.2.1.2.1 root hrt, e1, jb_some]
      exact h
  obtain ⟨m5, v, g5, hst5, e2, e3, e4, e5⟩ := hroot
  have hR5 : jRk D S m5 := jRk_w (e2.weak (fun a i h => Or.inl h)) c3
  generalize hm6 : jsL m5 101 35 v = m6
  have f6 : jfx (fun a i => a = 101 ∧ i = 35) m5 m6 := by rw [← hm6]; exact jfx_L ⟨rfl, rfl⟩
  have hR6 : jRk D S m6 := jRk_fx f6 (fun a i h => by unfold jSr at h; omega) hR5
  have hsp0 : jsp D 0 = jAll D := by
    unfold jsp jprd
    rw [Nat.mul_one]
  obtain ⟨m7, g7, y1, y2, y3, y4, y5, y6, y7⟩ := y_reckons_l99 (F := F) hF hDS 4 0 F m6 g5 (by omega) (by omega) hR6 (by rw [f6.I (by omega)]; exact e3) (fun x hx => by omega) (fun h => by
    rw [hsp0, ← hm6, jsL_y]
    exact (e4 h).2)
  refine ⟨m7, hst5 _ ?_, ?_, y3, y5, g7, y4, ⟨fun h => ?_, fun h => ?_⟩, fun h => ?_⟩
  · unfold c_X10_reckons_j94
    have y1 : c_X10_reckons_l99 F F m6 101 (0 : Int32) = _ := y1
    rw [jgd_t hR5.1.1.1, hm6, y1, jb_some]
  · exact ((((((a2.weak (fun a i h => by unfold jSrk; omega)).trans (f2.weak (fun a i h => by unfold jSrk; omega))).trans (b2.weak (fun a i h => by unfold jSrk; omega))).trans (c2.weak (fun a i h => by unfold jSpp at h; unfold jSrk; omega))).trans (e2.weak (fun a i h => by unfold jSrk; omega))).trans (f6.weak (fun a i h => by unfold jSrk; omega))).trans (y2.weak (fun a i h => by unfold jSpp at h; unfold jSrk; omega))
  · rcases y7 h with h | h
    · rcases e5 h with h | h
      · obtain ⟨r, k, h1, h2, h3, h4⟩ := w5 h
        exact Or.inl ⟨r, k, h1, h2, h3, h4⟩
      · exact Or.inr (Or.inl h)
    · exact Or.inr (Or.inr h)
  · cases hg : g7 with
    | true => rfl
    | false =>
      exfalso
      obtain ⟨z1, z2, z3, z4⟩ := y6 hg
      obtain ⟨v1, v2, v3⟩ := e4 z1
      have u2 := hWo v1
      rcases h with ⟨r, k, h1, h2, h3, h4, x, x1, x2, x3⟩ | h | ⟨r, h1, h2, h3⟩
      · have := (u2 r ((hTr.2.1 r).mpr ⟨h1, h2⟩)).2 k h3 h4 x x1 x2
        omega
      · omega
      · have := z4 r (Nat.zero_le _) h1 h2
        omega
  · obtain ⟨z1, z2, z3, z4⟩ := y6 h
    obtain ⟨v1, v2, v3⟩ := e4 z1
    refine ⟨fun r hr => ?_, z2, z3⟩
    obtain ⟨u1, u2⟩ := hWo v1 r hr
    refine ⟨fun k hk => ?_, u2⟩
    rw [y2.L (by unfold jSpp; omega), f6.L (by omega), e2.L (by omega)]
    exact u1 k hk
end YRECK
