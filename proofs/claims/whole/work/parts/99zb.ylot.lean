/-! lots; slates, as the reference tells them -/
section YLOT
variable {F : Nat} {D : jD} {S : jTS}
/-- whether a draw from z on gives the value v of a -/
def jhit (D : jD) (a : Nat) (v z : Int32) : Nat := match (jdraw D z).1 with
  | none => 0
  | some R => if jav D R a = v then 1 else 0
theorem y_lot_l57 (hF : 1000 < F) (hDS : jDS D S) (hq0 : jDq D ≠ 0) {x1 v p : Int32} {n a : Nat} (hn : n ≤ 20) (ha : a < 6) : ∀ (t k f : Nat) (m : jMe), k + t = n → t < f → jYg D S m → ∃ m', c_X10_lot_l57 F f m 101 x1 (Int32.ofNat n) (Int32.ofNat a) v p (Int64.ofNat (jsum k (fun i => jhit D a v (x1 + Int32.ofNat i)))) (Int32.ofNat k) = some (m', Int32.ofNat n, p, Int64.ofNat (jsum n (fun i => jhit D a v (x1 + Int32.ofNat i)))) ∧ jyFd m m' ∧ jYg D S m' := by
  intro t
  induction t with
  | zero =>
    intro k f m h1 h2 hY
    obtain ⟨f, rfl⟩ := jsucc h2
    refine ⟨m, ?_, jfx.rfl, hY⟩
    show c_X10_lot_l57_b F _ m _ _ _ _ _ _ _ _ = _
    unfold c_X10_lot_l57_b
    rw [if_pos (ji_lep (by omega) (by omega) (by omega)), show k = n by omega]
  | succ t ih =>
    intro k f m h1 h2 hY
    obtain ⟨f, rfl⟩ := jsucc h2
    have hL := hY.1.1.1
    obtain ⟨m1, b1, b2, b3, b4, b5⟩ := y_isDrawn (F := F) hF hDS hq0 hY (z := x1 + Int32.ofNat k)
    have hL1 := b3.1.1.1
    obtain ⟨m', c1, c2, c3⟩ := ih (k + 1) f m1 (by omega) (by omega) b3
    rw [jsum_s] at c1
    refine ⟨m', ?_, jfx.trans b2 c2, c3⟩
    show c_X10_lot_l57_b F _ m _ _ _ _ _ _ _ _ = _
    unfold c_X10_lot_l57_b
    rw [if_neg (ji_len (by omega) (by omega) (by omega)), jgd_t hL.1, b1, jb_some, show Int32.ofNat k + 1 = Int32.ofNat (k + 1) from ji_add k 1, show (0 : Int64) = Int64.ofNat 0 from rfl, show (1 : Int64) = Int64.ofNat 1 from rfl, jq_add, jq_add]
    dsimp only
    unfold jhit at c1 ⊢
    cases ho : (jdraw D (x1 + Int32.ofNat k)).1 with
    | none =>
      rw [ho] at c1
      exact c1
    | some R =>
      rw [ho] at c1
      dsimp only at c1
      rw [if_neg (show ¬ jbi (some R).isSome = 0 from by show ¬ jbi true = 0; decide), jgd_t hL1.1, y_valueNow (by omega) b3.1.1 hDS.1 (b5 R ho) ha, jb_some]
      by_cases e : jav D R a = v
      · rw [if_pos e] at c1 ⊢
        exact c1
      · rw [if_neg e] at c1 ⊢
        exact c1
def jlotv (D : jD) (x1 x2 x3 x4 x5 : Int32) : Int64 := if (jbt2 x2 1 20 && (jbt2 x5 0 1 && jnam D x3)) = true ∧ jsp D 4 ≠ 0 then jlo1 (jeuf 128 (Int64.ofNat (jsum x2.toNatClampNeg (fun i => jhit D x3.toNatClampNeg x4 (x1 + Int32.ofNat i)))) (Int64.ofNat x2.toNatClampNeg)) (Int64.ofNat (jsum x2.toNatClampNeg (fun i => jhit D x3.toNatClampNeg x4 (x1 + Int32.ofNat i)))) (Int64.ofNat x2.toNatClampNeg) x5 else -4611686018427387904
theorem y_lot (hF : 1000 < F) (hDS : jDS D S) {g : Bool} (hg : g = true ↔ jGt D) {m : jMe} (hQ : jyQ D S m) {x1 x2 x3 x4 x5 : Int32} : ∃ m', c_X10_lot F m 101 x1 x2 x3 x4 x5 = some (if jDq D ≠ 0 ∧ g = false then jlotv D x1 x2 x3 x4 x5 else -4611686018427387904, m') ∧ jfx jyO m m' ∧ jyQ D S m' := by
  have hD := hDS.1
  have hL := hQ.1.1
  unfold c_X10_lot jlotv
  rw [show c_X10_in F m (Int32.toInt64 x2) (1 : Int64) (20 : Int64) = some (jbi (jbt2 x2 1 20)) from q_in_int (lo := 1) (hi := 20) (by omega) (by omega), jb_some]
  have hno : ∀ b : Bool, b = false → (if jDq D ≠ 0 ∧ g = false then (if b = true ∧ jsp D 4 ≠ 0 then jlo1 (jeuf 128 (Int64.ofNat (jsum x2.toNatClampNeg (fun i => jhit D x3.toNatClampNeg x4 (x1 + Int32.ofNat i)))) (Int64.ofNat x2.toNatClampNeg)) (Int64.ofNat (jsum x2.toNatClampNeg (fun i => jhit D x3.toNatClampNeg x4 (x1 + Int32.ofNat i)))) (Int64.ofNat x2.toNatClampNeg) x5 else -4611686018427387904) else -4611686018427387904) = (-4611686018427387904 : Int64) := fun b h => by
    rw [h, if_neg (show ¬ (false = true ∧ jsp D 4 ≠ 0) from fun h => by cases h.1), ite_self]
  cases e1 : jbt2 x2 1 20 with
  | false =>
    refine ⟨m, ?_, jfx.rfl, hQ⟩
    rw [hno _ (Bool.false_and _)]
    rfl
  | true =>
    rw [if_neg (show ¬ jbi true = 0 by decide), show c_X10_in F m (Int32.toInt64 x5) (0 : Int64) (1 : Int64) = some (jbi (jbt2 x5 0 1)) from q_in_int (lo := 0) (hi := 1) (by omega) (by omega), jb_some]
    cases e2 : jbt2 x5 0 1 with
    | false =>
      refine ⟨m, ?_, jfx.rfl, hQ⟩
      rw [hno _ (by rfl)]
      rfl
    | true =>
      rw [if_neg (show ¬ jbi true = 0 by decide), jgd_t hL.1, y_isName (by omega) hQ.1 hD, jb_some]
      cases e3 : jnam D x3 with
      | false =>
        refine ⟨m, ?_, jfx.rfl, hQ⟩
        rw [hno _ (by rfl)]
        rfl
      | true =>
        obtain ⟨n, rfl, hn, hn1, hn20⟩ := jbt2_nat e1
        have e3' := e3
        unfold jnam at e3'
        rw [Bool.and_eq_true] at e3'
        obtain ⟨a, rfl, ha, _, ha5⟩ := jbt2_nat e3'.1
        rw [if_neg (show ¬ jbi true = 0 by decide), ji_n hn, ji_n ha]
        rcases y_told (F := F) hF hDS hg hQ with ⟨ht, m1, a1, a2, a3, a4⟩ | ⟨ht, m1, a1, a2, a3, a4⟩
        · have hs := a3.2.2.2.2.1
          have hsm := a3.2.2.2.2.2.1
          rw [if_pos ht, a1, jb_some]
          dsimp only
          rw [if_neg (show ¬ (1 : Int32) = 0 by decide), jgd_t a4.1.1.1, hs]
          by_cases h0 : jsp D 4 = 0
          · refine ⟨m1, ?_, a2, a4⟩
            rw [if_pos (show lg_cmp (Int64.ofNat (jsp D 4)) 0 = 0 from jc_eq0.mpr (by rw [h0]; rfl)), if_neg (fun h => h.2 h0)]
          · rw [if_neg (show ¬ lg_cmp (Int64.ofNat (jsp D 4)) 0 = 0 from fun h => h0 ((jq_eq hsm (by omega)).mp (jc_eq0.mp h))), if_pos ⟨rfl, h0⟩]
            obtain ⟨m2, b1, b2, b3⟩ := y_lot_l57 (F := F) hF hDS ht.1 (x1 := x1) (v := x4) (p := x5) hn20 (a := a) (by omega) n 0 F m1 (by omega) (by omega) a3
            have b1 : c_X10_lot_l57 F F m1 101 x1 (Int32.ofNat n) (Int32.ofNat a) x4 x5 (0 : Int64) (0 : Int32) = _ := b1
            obtain ⟨j, d1, d2⟩ := jeuf_get (Int64.ofNat (jsum n (fun i => jhit D a x4 (x1 + Int32.ofNat i)))) (Int64.ofNat n)
            have hn0 : Int64.ofNat n ≠ 0 := fun h => by
              have := (jq_eq (b := 0) (by unfold jMX; omega) (by omega)).mp h
              omega
            rw [b1, jb_some]
            dsimp only
            rw [jt64 hn, y_lowest (by omega) hn0 d1 d2, jb_some]
            exact ⟨m2, rfl, a2.trans (b2.weak (fun a i h => by unfold jyO; unfold jSpp at h; omega)), jyQ_fx b2 (by unfold jSpp; omega) b3.1.1 a4⟩
        · rw [if_neg ht, a1, jb_some]
          exact ⟨m1, rfl, a2, a4⟩
/-- slates that are kept -/
def jySl (L : Nat × (Nat → Int32)) (m : jMe) : Prop := L.1 ≤ 12 ∧ jI m 101 49 = Int32.ofNat L.1 ∧ ∀ i, i < L.1 → jI m 121 i = L.2 i
theorem y_slate {L : Nat × (Nat → Int32)} {m : jMe} (hQ : jyQ D S m) (hS : jySl L m) {x1 : Int32} : c_X10_slate F m 101 x1 = some (if jin x1 L.1 = true then L.2 x1.toNatClampNeg else -99) := by
  have hL := hQ.1.1
  obtain ⟨h1, h2, h3⟩ := hS
  unfold c_X10_slate
  rw [jgd_t hL.1, h2, q_in_jin (by omega), jb_some]
  cases e : jin x1 L.1 with
  | false => rfl
  | true =>
    obtain ⟨k, rfl, hk, hk2⟩ := jin_nat e
    rw [if_neg (show ¬ jbi true = 0 by decide), jp_121 hL, jgd_t (jk_121 hL), jz_121 hL, jgd_t (ji_int (by omega) (by omega)), ji_n hk, h3 k hk2]
    rfl
end YLOT
