/-! a relation that is full; rows that are added, as the reference does it -/
section YROW
variable {F : Nat} {D : jD} {S : jTS}
def jqi (D : jD) (r k : Nat) (f : Nat → Nat) (i : Nat) : Bool := match jatt (jDa D r) i with
  | none => true
  | some a => jDv D r k a == f a
theorem jqi_all (hD : jDok D) {r k : Nat} (hr : r < jDn D) (hk : k < jDz D r) {x y z : Int32} {f : Nat → Nat} (hp : jpkd (jDa D r) (jxyz x y z) 6 0 0 = some f) : (List.range' 0 (jpop 8 (jDa D r))).all (jqi D r k f) = jalk D r k f := by
  have hr4 : r < 4 := Nat.lt_of_lt_of_le hr hD.1
  have hDr := hD.2.2.1 r hr4
  obtain ⟨p1, p2, p3⟩ := jatt_all hDr.2.1 (hD.2.2.2.1 r hr).2
  obtain ⟨q1, q2, q3⟩ := jpkd_s hD hr hp
  rw [Bool.eq_iff_iff, jalk_iff, List.all_eq_true]
  constructor
  · intro h a ha
    cases e : (jDa D r).testBit a with
    | true =>
      obtain ⟨i, i1, i2⟩ := p2 a ha e
      have := h i (List.mem_range'_1.mpr (by omega))
      unfold jqi at this
      rw [i2] at this
      exact beq_iff_eq.mp this
    | false => rw [(hDr.2.2.2.2 k hk).2.1 a e, q3 a (Or.inr e)]
  · intro h i hi
    have hi := (List.mem_range'_1.mp hi).2
    obtain ⟨a, a1, a2, a3⟩ := p1 i (by omega)
    unfold jqi
    rw [a1]
    exact beq_iff_eq.mpr (h a a2)
theorem jDw_f (hD : jDok D) {r k : Nat} (hr : r < jDn D) (hk : k < jDz D r) {x y z : Int32} {f : Nat → Nat} (hp : jpkd (jDa D r) (jxyz x y z) 6 0 0 = some f) {i a : Nat} (hi : i < jpop 8 (jDa D r)) (ha : jatt (jDa D r) i = some a) (hb : (jDa D r).testBit a = true) : jxyz x y z i = jDw D r k a ↔ jDv D r k a = f a := by
  have hr4 : r < 4 := Nat.lt_of_lt_of_le hr hD.1
  have hv := ((hD.2.2.1 r hr4).2.2.2.2 k hk).1 a
  obtain ⟨q1, q2, q3⟩ := jpkd_s hD hr hp
  obtain ⟨g1, g2⟩ := q2 i a ha hi
  rw [g1]
  unfold jDw
  rw [if_pos hb]
  exact ⟨fun h => ((ji_eq (by omega) (by omega)).mp h).symm, fun h => by rw [h]⟩
theorem y_isFull_l31 (hF : 100 < F) (hD : jDok D) {m : jMe} (hR : jRf D S m) {r k : Nat} (hr : r < jDn D) (hk : k < jDz D r) {x y z : Int32} {f : Nat → Nat} (hp : jpkd (jDa D r) (jxyz x y z) 6 0 0 = some f) : ∀ (t i g : Nat) (b : Bool), i + t = jpop 8 (jDa D r) → t < g → c_X10_isFull_l31 F m g 101 (Int32.ofNat r) x y z (Int32.ofNat k) (jbi b) (Int32.ofNat i) = some (101, Int32.ofNat r, x, y, z, Int32.ofNat k, jbi (b && (List.range' i t).all (jqi D r k f))) := by
  have hL := hR.1
  have hr4 : r < 4 := Nat.lt_of_lt_of_le hr hD.1
  have hDr := hD.2.2.1 r hr4
  have hz := hDr.2.2.1
  have h3 := (hD.2.2.2.1 r hr).2
  obtain ⟨p1, p2, p3⟩ := jatt_all hDr.2.1 h3
  intro t
  induction t with
  | zero =>
    intro i g b h1 h2
    obtain ⟨g, rfl⟩ := jsucc h2
    show c_X10_isFull_l31_b F _ m _ _ _ _ _ _ _ _ = _
    unfold c_X10_isFull_l31_b
    rw [jgd_t hL.1, jp_106 hL, jgd_t (jk_106 hL), jz_106 hL, jgd_t (ji_int (by omega) hr4), ji_n (by omega), (hR.2.1.2.2.2 r hr4).2.1, q_bitsOf hF (by have := hDr.2.1; omega), jb_some, if_pos (ji_lep (by omega) (by omega) (by omega))]
    show _ = some (101, Int32.ofNat r, x, y, z, Int32.ofNat k, jbi (b && true))
    rw [Bool.and_true]
  | succ t ih =>
    intro i g b h1 h2
    obtain ⟨g, rfl⟩ := jsucc h2
    obtain ⟨a, e1, e2, e3⟩ := p1 i (by omega)
    have hgo : ∀ b', c_X10_isFull_l31 F m g 101 (Int32.ofNat r) x y z (Int32.ofNat k) (jbi b') (Int32.ofNat (i + 1)) = _ := fun b' => ih (i + 1) g b' (by omega) (by omega)
    show c_X10_isFull_l31_b F _ m _ _ _ _ _ _ _ _ = _
    unfold c_X10_isFull_l31_b c_X10_isFull_j85_l31
    rw [jgd_t hL.1, jp_106 hL, jgd_t (jk_106 hL), jz_106 hL, jgd_t (ji_int (by omega) hr4), ji_n (by omega), (hR.2.1.2.2.2 r hr4).2.1, q_bitsOf hF (by have := hDr.2.1; omega), jb_some, if_neg (ji_len (by omega) (by omega) (by omega)), y_attribute hF hL hR.2.1 hD hr4 (by omega), e1, jb_some, show jo1 (some a) = Int32.ofNat a from rfl, y_valD hL hR.2.1 hr4 hk (by omega) e2, jb_some, show Int32.ofNat i + 1 = Int32.ofNat (i + 1) from ji_add i 1, jall_s]
    have hq : jqi D r k f i = (jDv D r k a == f a) := by unfold jqi; rw [e1]
    cases b with
    | false =>
      rw [if_pos (show jbi false = 0 from rfl)]
      exact hgo false
    | true =>
      rw [if_neg (show ¬ jbi true = 0 by decide), Bool.true_and, hq]
      have hw := jDw_f (k := k) hD hr hk hp (show i < jpop 8 (jDa D r) by omega) e1 e3
      have key : (if jDw D r k a = jxyz x y z i then c_X10_isFull_l31 F m g 101 (Int32.ofNat r) x y z (Int32.ofNat k) (1 : Int32) (Int32.ofNat (i + 1)) else c_X10_isFull_l31 F m g 101 (Int32.ofNat r) x y z (Int32.ofNat k) (0 : Int32) (Int32.ofNat (i + 1))) = some (101, Int32.ofNat r, x, y, z, Int32.ofNat k, jbi ((jDv D r k a == f a) && (List.range' (i + 1) t).all (jqi D r k f))) := by
        by_cases e : jDv D r k a = f a
        · rw [if_pos (hw.mpr e).symm, show (jDv D r k a == f a) = true from by simp [e]]
          exact hgo true
        · rw [if_neg (fun h => e (hw.mp h.symm)), show (jDv D r k a == f a) = false from by simp [e]]
          exact hgo false
      unfold jxyz at key
      by_cases i0 : i = 0
      · rw [if_pos (show Int32.ofNat i = 0 by rw [i0]; rfl)]
        rw [if_pos i0] at key
        exact key
      rw [if_neg (show ¬ Int32.ofNat i = 0 from ji_eqn (b := 0) (by omega) (by omega) i0)]
      rw [if_neg i0] at key
      by_cases i1 : i = 1
      · rw [if_pos (show Int32.ofNat i = 1 by rw [i1]; rfl)]
        rw [if_pos i1] at key
        exact key
      rw [if_neg (show ¬ Int32.ofNat i = 1 from ji_eqn (b := 1) (by omega) (by omega) i1)]
      rw [if_neg i1] at key
      exact key
theorem y_isFull_l18 (hF : 100 < F) (hD : jDok D) {m : jMe} (hR : jRf D S m) {r : Nat} (hr : r < jDn D) (h8 : jDz D r = 8) {x y z : Int32} {f : Nat → Nat} (hp : jpkd (jDa D r) (jxyz x y z) 6 0 0 = some f) (h1k : jisa (jDk D r) 1 = true) : ∀ (t k g : Nat), k + t = jDz D r → t < g → c_X10_isFull_l18 F m g 101 (Int32.ofNat r) x y z (Int32.ofNat k) = some (if (List.range' k t).all (fun k => !((jDl D r).testBit k && jrf D r k f)) = true then .inr () else .inl (0 : Int32)) := by
  have hL := hR.1
  have hr4 : r < 4 := Nat.lt_of_lt_of_le hr hD.1
  have hDr := hD.2.2.1 r hr4
  obtain ⟨c1, c2, c3, c4⟩ := hR.2.1.2.2.2 r hr4
  obtain ⟨w, hw, hw6, hwb⟩ := jatt_ex hD hr
  have h3 := (hD.2.2.2.1 r hr).2
  obtain ⟨p1, p2, p3⟩ := jatt_all hDr.2.1 h3
  have hn0 : 0 < jpop 8 (jDa D r) := by
    obtain ⟨i, i1, _⟩ := p2 w hw6 hwb
    omega
  intro t
  induction t with
  | zero =>
    intro k g h1 h2
    obtain ⟨g, rfl⟩ := jsucc h2
    show c_X10_isFull_l18_b F _ m _ _ _ _ _ _ = _
    unfold c_X10_isFull_l18_b
    rw [if_pos (show (8 : Int32) ≤ Int32.ofNat k from ji_lep (a := 8) (by omega) (by omega) (by omega))]
    rfl
  | succ t ih =>
    intro k g h1 h2
    obtain ⟨g, rfl⟩ := jsucc h2
    have ih := ih (k + 1) g (by omega) (by omega)
    have hk : k < jDz D r := by omega
    have hj : ∀ s0 : Bool, c_X10_isFull_j136_l18 F (fun y0 y1 y2 y3 y4 y5 => c_X10_isFull_l18 F m g y0 y1 y2 y3 y4 y5) m 101 (Int32.ofNat r) x y z (Int32.ofNat k) (jbi (jalk D r k f)) (jbi s0) = if ((jDl D r).testBit k && (jalk D r k f || s0)) = true then some (.inl 0) else c_X10_isFull_l18 F m g 101 (Int32.ofNat r) x y z (Int32.ofNat (k + 1)) := by
      intro s0
      unfold c_X10_isFull_j136_l18
      rw [show Int32.ofNat k + 1 = Int32.ofNat (k + 1) from ji_add k 1, jgd_t hL.1, jp_110 hL, jgd_t (jk_110 hL), jz_110 hL, show (8 : Int32) = Int32.ofNat 8 from rfl, ji_mul, ji_add, jgd_t (ji_int (by omega) (by omega)), ji_n (by omega), (c4 k hk).2.2]
      cases (jDl D r).testBit k <;> cases jalk D r k f <;> cases s0 <;> rfl
    show c_X10_isFull_l18_b F _ m _ _ _ _ _ _ = _
    unfold c_X10_isFull_l18_b
    have h31 := y_isFull_l31 (F := F) hF hD hR hr hk hp (jpop 8 (jDa D r)) 0 F true (by omega) (by have := jpop_le 8 (jDa D r); omega)
    have h31 : c_X10_isFull_l31 F m F 101 (Int32.ofNat r) x y z (Int32.ofNat k) (1 : Int32) (0 : Int32) = _ := h31
    rw [Bool.true_and, jqi_all hD hr hk hp] at h31
    have ha := y_attribute (F := F) hF hL hR.2.1 hD hr4 (d := 0) (by omega)
    have ha : c_X10_attribute F m 101 (Int32.ofNat r) (0 : Int32) = _ := ha
    have hkey := jDw_f (k := k) hD hr hk hp hn0 hw hwb
    have hkey : x = jDw D r k w ↔ jDv D r k w = f w := hkey
    rw [if_neg (show ¬ (8 : Int32) ≤ Int32.ofNat k from ji_len (a := 8) (by omega) (by omega) (by omega)), h31, jb_some]
    dsimp only
    rw [jgd_t hL.1, jp_105 hL, jgd_t (jk_105 hL), jz_105 hL, jgd_t (ji_int (by omega) hr4), ji_n (by omega), c1, show c_X10_isUnder F m (Int32.ofNat (jDk D r)) (3 : Int32) = some (jbi (jisa (jDk D r) 3)) from y_isUnder (i := 3) (by omega) (by omega) hDr.1, jb_some, ha, hw, jb_some, show jo1 (some w) = Int32.ofNat w from rfl, y_valD hL hR.2.1 hr4 hk (by omega) hw6, jb_some, jall_s]
    have hrf : jrf D r k f = (jalk D r k f || (jisa (jDk D r) 3 && (jDv D r k w == f w))) := by
      unfold jrf
      rw [h1k, hw, Bool.true_and]
    have fin : ∀ s0 : Bool, (jisa (jDk D r) 3 && (jDv D r k w == f w)) = s0 → (if ((jDl D r).testBit k && (jalk D r k f || s0)) = true then some (.inl 0) else c_X10_isFull_l18 F m g 101 (Int32.ofNat r) x y z (Int32.ofNat (k + 1))) = some (if ((!((jDl D r).testBit k && jrf D r k f)) && (List.range' (k + 1) t).all (fun k => !((jDl D r).testBit k && jrf D r k f))) = true then .inr () else .inl (0 : Int32)) := by
      intro s0 h
      rw [hrf, h, ih]
      cases (jDl D r).testBit k <;> cases jalk D r k f <;> cases s0 <;> rfl
    cases e3 : jisa (jDk D r) 3 with
    | false =>
      rw [if_pos (show jbi false = 0 from rfl)]
      exact (hj false).trans (fin false (by rw [e3]; rfl))
    | true =>
      rw [if_neg (show ¬ jbi true = 0 by decide)]
      by_cases e : jDv D r k w = f w
      · rw [if_pos (hkey.mpr e).symm]
        exact (hj true).trans (fin true (by rw [e3, e]; simp))
      · rw [if_neg (fun h => e (hkey.mp h.symm))]
        exact (hj false).trans (fin false (by rw [e3]; simp [e]))
theorem y_isFull (hF : 100 < F) (hD : jDok D) {m : jMe} (hR : jRf D S m) {r : Nat} (hr : r < jDn D) (h8 : jDz D r = 8) {x y z : Int32} {f : Nat → Nat} (hp : jpkd (jDa D r) (jxyz x y z) 6 0 0 = some f) : c_X10_isFull F m 101 (Int32.ofNat r) x y z = some (jbi (jtk D r f)) := by
  have hL := hR.1
  have hr4 : r < 4 := Nat.lt_of_lt_of_le hr hD.1
  have hDr := hD.2.2.1 r hr4
  obtain ⟨c1, c2, c3, c4⟩ := hR.2.1.2.2.2 r hr4
  unfold c_X10_isFull jtk
  rw [jgd_t hL.1, jp_105 hL, jgd_t (jk_105 hL), jz_105 hL, jgd_t (ji_int (by omega) hr4), ji_n (by omega), c1, show c_X10_isUnder F m (Int32.ofNat (jDk D r)) (1 : Int32) = some (jbi (jisa (jDk D r) 1)) from y_isUnder (i := 1) (by omega) (by omega) hDr.1, jb_some]
  cases e1 : jisa (jDk D r) 1 with
  | false =>
    have : ∀ k, jrf D r k f = false := fun k => by
      unfold jrf
      rw [e1, jisa_31 hDr.1 e1]
      rfl
    rw [if_pos (show jbi false = 0 from rfl), show ((List.range (jDz D r)).all fun k => !((jDl D r).testBit k && jrf D r k f)) = true from List.all_eq_true.mpr (fun k _ => by rw [this k, Bool.and_false]; rfl)]
    rfl
  | true =>
    have h18 := y_isFull_l18 (F := F) hF hD hR hr h8 hp e1 (jDz D r) 0 F (by omega) (by omega)
    have h18 : c_X10_isFull_l18 F m F 101 (Int32.ofNat r) x y z (0 : Int32) = _ := h18
    rw [if_neg (show ¬ jbi true = 0 by decide), h18, List.range_eq_range']
    cases (List.range' 0 (jDz D r)).all _ <;> rfl
end YROW
