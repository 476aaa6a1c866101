/-! whether a row is taken beside the others; rows brought back, as the reference does it -/
section YTAKEN
variable {F : Nat} {D : jD} {S : jTS}
/-- a row that stands: its values -/
def jyS (D : jD) (r k0 : Nat) (f : Nat → Nat) (m : jMe) : Prop := ∀ a, a < 6 → jI m 108 (48 * r + 6 * k0 + a) = (if (jDa D r).testBit a then Int32.ofNat (f a) else -1) ∧ f a < 10 ∧ ((jDa D r).testBit a = false → f a = 0)
theorem jDw_e (hD : jDok D) {r k : Nat} (hr : r < 4) (hk : k < jDz D r) {k0 : Nat} {f : Nat → Nat} {m : jMe} (hs : jyS D r k0 f m) {a : Nat} (ha : a < 6) : (jDw D r k a = jI m 108 (48 * r + 6 * k0 + a)) ↔ jDv D r k a = f a := by
  obtain ⟨h1, h2, h3⟩ := hs a ha
  have hv := (hD.2.2.1 r hr).2.2.2.2 k hk
  have hv1 := hv.1 a
  rw [h1]
  unfold jDw
  cases e : (jDa D r).testBit a with
  | true => exact ji_eq (by omega) (by omega)
  | false => rw [hv.2.1 a e, h3 e]; simp
theorem y_isTaken_l42 (hD : jDok D) {m : jMe} (hR : jRf D S m) {r k k0 : Nat} (hr : r < 4) (hk : k < jDz D r) (h0 : k0 < 8) {f : Nat → Nat} (hs : jyS D r k0 f m) {y3 : Int32} : ∀ (t a g : Nat) (b : Bool), a + t = 6 → t < g → c_X10_isTaken_l42 F m g 101 (Int32.ofNat r) (Int32.ofNat k0) y3 (Int32.ofNat k) (jbi b) (Int32.ofNat a) = some (101, Int32.ofNat r, Int32.ofNat k0, y3, Int32.ofNat k, jbi (b && (List.range' a t).all (fun a => jDv D r k a == f a))) := by
  have hL := hR.1
  have hz := (hD.2.2.1 r hr).2.2.1
  intro t
  induction t with
  | zero =>
    intro a g b h1 h2
    obtain ⟨g, rfl⟩ := jsucc h2
    show c_X10_isTaken_l42_b F _ m _ _ _ _ _ _ _ = _
    unfold c_X10_isTaken_l42_b
    rw [if_pos (show (6 : Int32) ≤ Int32.ofNat a from ji_lep (a := 6) (by omega) (by omega) (by omega))]
    show _ = some (101, Int32.ofNat r, Int32.ofNat k0, y3, Int32.ofNat k, jbi (b && true))
    rw [Bool.and_true]
  | succ t ih =>
    intro a g b h1 h2
    obtain ⟨g, rfl⟩ := jsucc h2
    have hgo : ∀ b', c_X10_isTaken_l42 F m g 101 (Int32.ofNat r) (Int32.ofNat k0) y3 (Int32.ofNat k) (jbi b') (Int32.ofNat (a + 1)) = _ := fun b' => ih (a + 1) g b' (by omega) (by omega)
    show c_X10_isTaken_l42_b F _ m _ _ _ _ _ _ _ = _
    unfold c_X10_isTaken_l42_b
    rw [if_neg (show ¬ (6 : Int32) ≤ Int32.ofNat a from ji_len (a := 6) (by omega) (by omega) (by omega)), jgd_t hL.1, y_valD hL hR.2.1 hr hk (by omega) (by omega), jb_some, y_val hL hr h0 (by omega), jb_some, show Int32.ofNat a + 1 = Int32.ofNat (a + 1) from ji_add a 1, jall_s]
    cases b with
    | false =>
      rw [if_pos (show jbi false = 0 from rfl)]
      exact hgo false
    | true =>
      rw [if_neg (show ¬ jbi true = 0 by decide)]
      by_cases e : jDv D r k a = f a
      · rw [if_pos ((jDw_e hD hr hk hs (by omega)).mpr e), show (jDv D r k a == f a) = true from by simp [e], Bool.true_and]
        exact hgo true
      · rw [if_neg (fun h => e ((jDw_e hD hr hk hs (by omega)).mp h)), show (jDv D r k a == f a) = false from by simp [e], Bool.false_and]
        exact hgo false
theorem jatt_ex (hD : jDok D) {r : Nat} (hr : r < jDn D) : ∃ a, jatt (jDa D r) 0 = some a ∧ a < 6 ∧ (jDa D r).testBit a = true := by
  have h1 := (hD.2.2.2.1 r hr).1
  have h64 := (hD.2.2.1 r (Nat.lt_of_lt_of_le hr hD.1)).2.1
  have : ∀ s : Fin 64, 1 ≤ s.1 → ∃ a : Fin 6, jatt s.1 0 = some a.1 ∧ s.1.testBit a.1 = true := by decide +kernel
  obtain ⟨a, h2, h3⟩ := this ⟨jDa D r, h64⟩ h1
  exact ⟨a.1, h2, a.2, h3⟩
theorem y_isTaken_l25 (hF : 100 < F) (hD : jDok D) {m : jMe} (hR : jRf D S m) {r k0 : Nat} (hr : r < jDn D) (h0 : k0 < 8) {f : Nat → Nat} (hs : jyS D r k0 f m) (hl0 : (jDl D r).testBit k0 = false) (h1k : jisa (jDk D r) 1 = true) {x : Nat} (hx : jatt (jDa D r) 0 = some x) (hx6 : x < 6) : ∀ (t k g : Nat), k + t = jDz D r → t < g → c_X10_isTaken_l25 F m g 101 (Int32.ofNat r) (Int32.ofNat k0) (Int32.ofNat x) (Int32.ofNat k) = some (if (List.range' k t).all (fun k => !((jDl D r).testBit k && jrf D r k f)) = true then .inr () else .inl (0 : Int32)) := by
  have hL := hR.1
  have hr4 : r < 4 := Nat.lt_of_lt_of_le hr hD.1
  have hDr := hD.2.2.1 r hr4
  have hz := hDr.2.2.1
  obtain ⟨c1, c2, c3, c4⟩ := hR.2.1.2.2.2 r hr4
  intro t
  induction t with
  | zero =>
    intro k g h1 h2
    obtain ⟨g, rfl⟩ := jsucc h2
    show c_X10_isTaken_l25_b F _ m _ _ _ _ _ = _
    unfold c_X10_isTaken_l25_b
    rw [jgd_t hL.1, jp_107 hL, jgd_t (jk_107 hL), jz_107 hL, jgd_t (ji_int (by omega) hr4), ji_n (by omega), c3, if_pos (ji_lep (by omega) (by omega) (by omega))]
    rfl
  | succ t ih =>
    intro k g h1 h2
    obtain ⟨g, rfl⟩ := jsucc h2
    have ih := ih (k + 1) g (by omega) (by omega)
    have hk : k < jDz D r := by omega
    have hj : ∀ s0 : Bool, c_X10_isTaken_j123_l25 F (fun y0 y1 y2 y3 y4 => c_X10_isTaken_l25 F m g y0 y1 y2 y3 y4) m 101 (Int32.ofNat r) (Int32.ofNat k0) (Int32.ofNat x) (Int32.ofNat k) (jbi (jalk D r k f)) (jbi s0) = if ((jDl D r).testBit k && (jalk D r k f || s0)) = true then some (.inl 0) else c_X10_isTaken_l25 F m g 101 (Int32.ofNat r) (Int32.ofNat k0) (Int32.ofNat x) (Int32.ofNat (k + 1)) := by
      intro s0
      unfold c_X10_isTaken_j123_l25
      rw [show Int32.ofNat k + 1 = Int32.ofNat (k + 1) from ji_add k 1, jgd_t hL.1, jp_110 hL, jgd_t (jk_110 hL), jz_110 hL, show (8 : Int32) = Int32.ofNat 8 from rfl, ji_mul, ji_add, jgd_t (ji_int (by omega) (by omega)), ji_n (by omega), (c4 k hk).2.2]
      by_cases e : k = k0
      · rw [if_pos (by rw [e]), e, hl0, Bool.false_and, if_neg (by decide)]
      · rw [if_neg (ji_eqn (by omega) (by omega) e)]
        cases (jDl D r).testBit k <;> cases jalk D r k f <;> cases s0 <;> rfl
    show c_X10_isTaken_l25_b F _ m _ _ _ _ _ = _
    unfold c_X10_isTaken_l25_b
    have h42 := y_isTaken_l42 (F := F) hD hR hr4 hk h0 hs (y3 := Int32.ofNat x) 6 0 F true (by omega) (by omega)
    have h42 : c_X10_isTaken_l42 F m F 101 (Int32.ofNat r) (Int32.ofNat k0) (Int32.ofNat x) (Int32.ofNat k) (1 : Int32) (0 : Int32) = some (101, Int32.ofNat r, Int32.ofNat k0, Int32.ofNat x, Int32.ofNat k, jbi (true && (List.range' 0 6).all (fun a => jDv D r k a == f a))) := h42
    rw [Bool.true_and, ← List.range_eq_range', show (List.range 6).all (fun a => jDv D r k a == f a) = jalk D r k f from rfl] at h42
    rw [jgd_t hL.1, jp_107 hL, jgd_t (jk_107 hL), jz_107 hL, jgd_t (ji_int (by omega) hr4), ji_n (by omega), c3, if_neg (ji_len (by omega) (by omega) (by omega)), h42, jb_some]
    dsimp only
    rw [jgd_t hL.1, jp_105 hL, jgd_t (jk_105 hL), jz_105 hL, jgd_t (ji_int (by omega) hr4), ji_n (by omega), c1, show c_X10_isUnder F m (Int32.ofNat (jDk D r)) (3 : Int32) = some (jbi (jisa (jDk D r) 3)) from y_isUnder (i := 3) (by omega) (by omega) hDr.1, jb_some, y_valD hL hR.2.1 hr4 hk (by omega) hx6, jb_some, y_val hL hr4 h0 hx6, jb_some, jall_s]
    have hrf : jrf D r k f = (jalk D r k f || (jisa (jDk D r) 3 && (jDv D r k x == f x))) := by
      unfold jrf
      rw [h1k, hx, Bool.true_and]
    have fin : ∀ s0 : Bool, (jisa (jDk D r) 3 && (jDv D r k x == f x)) = s0 → (if ((jDl D r).testBit k && (jalk D r k f || s0)) = true then some (.inl 0) else c_X10_isTaken_l25 F m g 101 (Int32.ofNat r) (Int32.ofNat k0) (Int32.ofNat x) (Int32.ofNat (k + 1))) = some (if ((!((jDl D r).testBit k && jrf D r k f)) && (List.range' (k + 1) t).all (fun k => !((jDl D r).testBit k && jrf D r k f))) = true then .inr () else .inl (0 : Int32)) := by
      intro s0 h
      rw [hrf, h, ih]
      cases (jDl D r).testBit k <;> cases jalk D r k f <;> cases s0 <;> rfl
    cases e3 : jisa (jDk D r) 3 with
    | false =>
      rw [if_pos (show jbi false = 0 from rfl)]
      exact (hj false).trans (fin false (by rw [e3]; rfl))
    | true =>
      rw [if_neg (show ¬ jbi true = 0 by decide)]
      by_cases e : jDv D r k x = f x
      · rw [if_pos ((jDw_e hD hr4 hk hs hx6).mpr e)]
        exact (hj true).trans (fin true (by rw [e3, e]; simp))
      · rw [if_neg (fun h => e ((jDw_e hD hr4 hk hs hx6).mp h))]
        exact (hj false).trans (fin false (by rw [e3]; simp [e]))
theorem jisa_31 {k : Nat} (hk : k < 6) (h : jisa k 1 = false) : jisa k 3 = false := by
  have : ∀ k : Fin 6, jisa k.1 1 = false → jisa k.1 3 = false := by decide
  exact this ⟨k, hk⟩ h
theorem y_isTaken (hF : 100 < F) (hD : jDok D) {m : jMe} (hR : jRf D S m) {r k0 : Nat} (hr : r < jDn D) (h0 : k0 < 8) {f : Nat → Nat} (hs : jyS D r k0 f m) (hl0 : (jDl D r).testBit k0 = false) : c_X10_isTaken F m 101 (Int32.ofNat r) (Int32.ofNat k0) = some (jbi (jtk D r f)) := by
  have hL := hR.1
  have hr4 : r < 4 := Nat.lt_of_lt_of_le hr hD.1
  have hDr := hD.2.2.1 r hr4
  have hz := hDr.2.2.1
  obtain ⟨c1, c2, c3, c4⟩ := hR.2.1.2.2.2 r hr4
  obtain ⟨x, hx, hx6, _⟩ := jatt_ex hD hr
  unfold c_X10_isTaken jtk
  rw [jgd_t hL.1, jp_105 hL, jgd_t (jk_105 hL), jz_105 hL, jgd_t (ji_int (by omega) hr4), ji_n (by omega), c1, show c_X10_isUnder F m (Int32.ofNat (jDk D r)) (1 : Int32) = some (jbi (jisa (jDk D r) 1)) from y_isUnder (i := 1) (by omega) (by omega) hDr.1, jb_some]
  cases e1 : jisa (jDk D r) 1 with
  | false =>
    have : ∀ k, jrf D r k f = false := fun k => by
      unfold jrf
      rw [e1, jisa_31 hDr.1 e1]
      rfl
    rw [if_pos (show jbi false = 0 from rfl), show ((List.range (jDz D r)).all fun k => !((jDl D r).testBit k && jrf D r k f)) = true from List.all_eq_true.mpr (fun k _ => by rw [this k, Bool.and_false]; rfl)]
    rfl
  | true =>
    have ha := y_attribute (F := F) hF hL hR.2.1 hD hr4 (d := 0) (by omega)
    have ha : c_X10_attribute F m 101 (Int32.ofNat r) (0 : Int32) = _ := ha
    have h25 := y_isTaken_l25 (F := F) hF hD hR hr h0 hs hl0 e1 hx hx6 (jDz D r) 0 F (by omega) (by omega)
    have h25 : c_X10_isTaken_l25 F m F 101 (Int32.ofNat r) (Int32.ofNat k0) (Int32.ofNat x) (0 : Int32) = _ := h25
    rw [if_neg (show ¬ jbi true = 0 by decide), ha, hx, jb_some, show jo1 (some x) = Int32.ofNat x from rfl, h25, List.range_eq_range']
    cases (List.range' 0 (jDz D r)).all _ <;> rfl
def jrsto (D : jD) (x1 x2 : Int32) : Int32 × jD := if jrow D x1 x2 = true then (if (jDl D x1.toNatClampNeg).testBit x2.toNatClampNeg = false ∧ jtk D x1.toNatClampNeg (jDv D x1.toNatClampNeg x2.toNatClampNeg) = true then (Int32.ofNat (jpop 8 (jli (jDl D x1.toNatClampNeg) x2.toNatClampNeg true)), jUl D x1.toNatClampNeg (jli (jDl D x1.toNatClampNeg) x2.toNatClampNeg true)) else (-3, D)) else (-2, D)
theorem y_restore (hF : 1000 < F) (hDS : jDS D S) {m : jMe} (hQ : jyQ D S m) {x1 x2 : Int32} : ∃ m', c_X10_restore F m 101 x1 x2 = some ((jrsto D x1 x2).1, m') ∧ jfx (fun a _ => a = 110) m m' ∧ jyQ (jrsto D x1 x2).2 S m' ∧ jDS (jrsto D x1 x2).2 S := by
  have hD := hDS.1
  have hL := hQ.1.1
  unfold c_X10_restore jrsto
  rw [jgd_t hL.1, y_isRow hL hQ.1.2.1 hD, jb_some]
  cases e1 : jrow D x1 x2 with
  | false => exact ⟨m, rfl, jfx.rfl, hQ, hDS⟩
  | true =>
    obtain ⟨r, k, rfl, rfl, hr, hk, hr2, hk2⟩ := jrow_nat e1
    have hr4 : r < 4 := Nat.lt_of_lt_of_le hr hD.1
    have hDr := hD.2.2.1 r hr4
    have hz := hDr.2.2.1
    have hn : ¬ jDn D ≤ r := by omega
    obtain ⟨c1, c2, c3, c4⟩ := hQ.1.2.1.2.2.2 r hr4
    rw [if_neg (show ¬ jbi true = 0 by decide), if_pos rfl, ji_n hr2, ji_n hk2, jp_110 hL, jgd_t (jk_110 hL), jz_110 hL, show (8 : Int32) = Int32.ofNat 8 from rfl, ji_mul, ji_add, jgd_t (ji_int (by omega) (by omega)), jgd_t (ji_int (by omega) (by omega)), ji_n (by omega), (c4 k hk).2.2, jvn_1]
    cases e2 : (jDl D r).testBit k with
    | true =>
      rw [if_neg (show ¬ jbi true = 0 by decide), if_neg (fun h => by cases h.1)]
      exact ⟨m, rfl, jfx.rfl, hQ, hDS⟩
    | false =>
      have hs : jyS D r k (jDv D r k) m := fun a ha => ⟨(c4 k hk).1 a ha, (hDr.2.2.2.2 k hk).1 a, (hDr.2.2.2.2 k hk).2.1 a⟩
      rw [if_pos (show jbi false = 0 from rfl), y_isTaken (by omega) hD hQ.1 hr (by omega) hs e2, jb_some]
      cases e3 : jtk D r (jDv D r k) with
      | false =>
        rw [if_pos (show jbi false = 0 from rfl), if_neg (fun h => by cases h.2)]
        exact ⟨m, rfl, jfx.rfl, hQ, hDS⟩
      | true =>
        rw [if_neg (show ¬ jbi true = 0 by decide), if_pos ⟨rfl, rfl⟩]
        have hDS1 : jDS (jUl D r (jli (jDl D r) k true)) S := jDS_l hDS hr4 (jli_lt hDr.2.2.2.1 hk) (fun h => absurd h hn)
        have hQ1 := jyQ_l (b := true) hD hr4 hk hQ
        have hlt : jli (jDl D r) k true < 256 := jz256 (jli_lt hDr.2.2.2.1 hk) hz
        have hlv := y_liveOf (F := F) (by omega) hQ1.1 hDS1.1 hr4
        rw [jUl_l, if_pos rfl] at hlv
        rw [show jsI m 110 (8 * r + k) (1 : Int32) = jsI m 110 (8 * r + k) (jbi true) from rfl, hlv, jb_some, q_bitsOf (by omega) hlt, jb_some]
        exact ⟨_, rfl, jfx_I rfl, hQ1, hDS1⟩
end YTAKEN
