/-! whether a position is good, as the reference tells it -/
theorem jmt_sym {D : jD} {r k c x : Nat} : jmt D r k c x = jmt D c x r k := by
  unfold jmt
  rw [Bool.eq_iff_iff, jmg_iff, jmg_iff]
  constructor
  · intro h a ha h1 h2
    exact (h a ha h2 h1).symm
  · intro h a ha h1 h2
    exact (h a ha h2 h1).symm
/-- rows that stand -/
def jyRw (D : jD) (P : Nat → Bool) (R : Nat → Nat) (m : jMe) : Prop := ∀ r, r < 4 → P r = true → jI m 117 r = Int32.ofNat (R r) ∧ R r < jDz D r
theorem jyRw_fx {Q : Nat → Nat → Prop} {D : jD} {P : Nat → Bool} {R : Nat → Nat} {m m' : jMe} (h : jfx Q m m') (hQ : ∀ i, ¬ Q 117 i) (k : jyRw D P R m) : jyRw D P R m' := fun r hr hp => ⟨by rw [h.I (hQ r)]; exact (k r hr hp).1, (k r hr hp).2⟩
section YGOOD
variable {F : Nat} {D : jD} {S : jTS}
theorem y_isGood_l5 (hq : jDq D < 16) : ∀ (t f p : Nat) (m : jMe), t ≤ 4 → t < f → p ≤ jMX → jYg D S m → (∀ r, r < t → (jdC D).testBit r = true → 0 < jbd D r ∧ jbd D r ≤ jMX) → ∃ m', c_X10_isGood_l5 F f m 101 (Int64.ofNat p) (Int32.ofNat t - 1) = some (m', 101, Int64.ofNat (jix D t p).2) ∧ jfx (fun a i => a = 118) m m' ∧ jYg D S m' ∧ (∀ x, jL m' 118 x = if x < t ∧ (jdC D).testBit x = true then Int64.ofNat ((jix D t p).1 x) else jL m 118 x) := by
  intro t
  induction t with
  | zero =>
    intro f p m h1 h2 hp hY hb
    obtain ⟨f, rfl⟩ := jsucc h2
    refine ⟨m, ?_, jfx.rfl, hY, fun x => by rw [if_neg (by omega)]⟩
    show c_X10_isGood_l5_b F _ m _ _ _ = _
    unfold c_X10_isGood_l5_b
    rw [if_pos jdown0]
    rfl
  | succ t ih =>
    intro f p m h1 h2 hp hY hb
    obtain ⟨f, rfl⟩ := jsucc h2
    have hL := hY.1.1.1
    have hst0 : ∀ z, (if (jdC D).testBit t = true then c_X10_isGood_l5 F f (jsL m 118 t (Int64.ofNat (p % jbd D t))) 101 (Int64.ofNat (p / jbd D t)) (Int32.ofNat t - 1) else c_X10_isGood_l5 F f m 101 (Int64.ofNat p) (Int32.ofNat t - 1)) = z → c_X10_isGood_l5 F (f + 1) m 101 (Int64.ofNat p) (Int32.ofNat (t + 1) - 1) = z := by
      intro z h
      rw [← h]
      show c_X10_isGood_l5_b F _ m _ _ _ = _
      unfold c_X10_isGood_l5_b
      have hbt := hY.2.2.1 t (by omega)
      rw [jdown_s, if_neg (ji_ge0 (by omega)), jgd_t hL.1, y_isCheck hY.1 hq (by omega), jb_some, jdown]
      by_cases e : (jdC D).testBit t = true
      · obtain ⟨b1, b2⟩ := hb t (by omega) e
        rw [if_pos e] at hbt
        have hne : ¬ Int64.ofNat (jbd D t) = 0 := fun h => by
          rw [show (0 : Int64) = Int64.ofNat 0 from rfl, jq_eq b2 (by omega)] at h
          omega
        rw [e, if_neg (show ¬ jbi true = 0 by decide), if_pos rfl]
        simp only [jP_sL, jK_sL, jZ_sL, jp_116 hL, jgd_t (jk_116 hL), jz_116 hL, jp_118 hL, jgd_t (jk_118 hL), jz_118 hL]
        rw [jgd_t (ji_int (by omega) (by omega)), ji_n (by omega), hbt, jgd_t hne, jgd_t (ji_int (by omega) (by omega)), jgd_t (ji_int (by omega) (by omega)), jsL_no (by omega), hbt, jgd_t hne, jlet_m, jq_rem hp b2 b1, jq_div hp b2]
      · have e' : (jdC D).testBit t = false := by cases z : (jdC D).testBit t with | false => rfl | true => exact absurd z e
        rw [e', if_pos (show jbi false = 0 from rfl), if_neg (by decide)]
    by_cases e : (jdC D).testBit t = true
    · rw [if_pos e] at hst0
      have f1 : jfx (fun a i => a = 118) m (jsL m 118 t (Int64.ofNat (p % jbd D t))) := jfx_L rfl
      have hdl := Nat.div_le_self p (jbd D t)
      obtain ⟨m', a1, a2, a3, a4⟩ := ih f (p / jbd D t) _ (by omega) (by omega) (by omega) (jYg_fx f1 (fun a i h => by unfold jSyg jSr at h; omega) hY) (fun r hr => hb r (by omega))
      have e1 : jix D (t + 1) p = (fun x => if x = t then p % jbd D t else (jix D t (p / jbd D t)).1 x, (jix D t (p / jbd D t)).2) := by
        rw [jix, if_pos e]
      refine ⟨m', hst0 _ (by rw [a1, e1]), f1.trans a2, a3, fun x => ?_⟩
      rw [a4, e1]
      by_cases q : x = t
      · subst q
        rw [if_neg (by omega), jsL_y, if_pos ⟨by omega, e⟩]
        dsimp only
        rw [if_pos rfl]
      · rw [jsL_no (by omega)]
        dsimp only
        by_cases z : x < t ∧ (jdC D).testBit x = true
        · rw [if_pos z, if_pos ⟨by omega, z.2⟩, if_neg q]
        · rw [if_neg z, if_neg (fun h => z ⟨by omega, h.2⟩)]
    · rw [if_neg e] at hst0
      obtain ⟨m', a1, a2, a3, a4⟩ := ih f p m (by omega) (by omega) hp hY (fun r hr => hb r (by omega))
      have e1 : jix D (t + 1) p = jix D t p := by rw [jix, if_neg e]
      refine ⟨m', hst0 _ (by rw [a1, e1]), a2, a3, fun x => ?_⟩
      rw [a4, e1]
      by_cases z : x < t ∧ (jdC D).testBit x = true
      · rw [if_pos z, if_pos ⟨by omega, z.2⟩]
      · rw [if_neg z, if_neg (fun h => z ⟨by
          have : x ≠ t := fun q => by rw [q] at h; exact e h.2
          omega, h.2⟩)]
theorem y_isChecked_l2 (hF : 100 < F) (hD : jDok D) {r k : Nat} (hr : r < 4) (hk : k < jDz D r) {R : Nat → Nat} {m : jMe} (hR : jRk D S m) (hw : jyRw D (jPc D r) R m) : ∀ (t q f : Nat), q + t = 4 → t < f → c_X10_isChecked_l2 F f m 101 (Int32.ofNat r) (Int32.ofNat k) (Int32.ofNat q) = some (if (List.range' q t).all (fun q => !jPc D r q || jmt D q (R q) r k) = true then .inr (m, 101, Int32.ofNat r, Int32.ofNat k) else .inl (0, m)) := by
  have hq16 := jDok_q hD
  have hK := jdK_lt hq16
  have hL := hR.1.1
  intro t
  induction t with
  | zero =>
    intro q f h1 h2
    obtain ⟨f, rfl⟩ := jsucc h2
    show c_X10_isChecked_l2_b F _ m _ _ _ _ = _
    unfold c_X10_isChecked_l2_b
    rw [if_pos (show (4 : Int32) ≤ Int32.ofNat q from ji_lep (a := 4) (by omega) (by omega) (by omega))]
    rfl
  | succ t ih =>
    intro q f h1 h2
    obtain ⟨f, rfl⟩ := jsucc h2
    have ih := ih (q + 1) f (by omega) (by omega)
    show c_X10_isChecked_l2_b F _ m _ _ _ _ = _
    unfold c_X10_isChecked_l2_b c_X10_isChecked_j37_l2
    simp only [jgd_t hL.1, jp_117 hL, jgd_t (jk_117 hL), jz_117 hL]
    rw [if_neg (show ¬ (4 : Int32) ≤ Int32.ofNat q from ji_len (a := 4) (by omega) (by omega) (by omega)), hR.2.2, jshr_1 (by omega) (by omega), y_isCheck hR hq16 (by omega), jb_some, jgd_t (ji_int (by omega) (by omega)), ji_n (by omega), show Int32.ofNat q + 1 = Int32.ofNat (q + 1) from ji_add q 1, jall_s]
    rw [ih]
    have hgo : jPc D r q = true → (jb (c_X10_isMatching F m 101 (Int32.ofNat r) (Int32.ofNat k) (Int32.ofNat q) (jI m 117 q)) fun t9 => if t9 = 0 then some (Sum.inl ((0 : Int32), m) : (Int32 × jMe) ⊕ (jMe × Nat × Int32 × Int32)) else some (if (List.range' (q + 1) t).all (fun q => !jPc D r q || jmt D q (R q) r k) = true then Sum.inr (m, 101, Int32.ofNat r, Int32.ofNat k) else Sum.inl ((0 : Int32), m))) = some (if ((!jPc D r q || jmt D q (R q) r k) && (List.range' (q + 1) t).all (fun q => !jPc D r q || jmt D q (R q) r k)) = true then Sum.inr (m, 101, Int32.ofNat r, Int32.ofNat k) else Sum.inl ((0 : Int32), m)) := by
      intro hp
      obtain ⟨w1, w2⟩ := hw q (by omega) hp
      rw [w1, y_isMatching hF hL hR.1.2.1 hr (by omega) (hD.2.2.1 r hr) (hD.2.2.1 q (by omega)) hk w2, jb_some, hp, jmt_sym]
      cases jmt D q (R q) r k <;> rfl
    have hno : jPc D r q = false → (if (List.range' (q + 1) t).all (fun q => !jPc D r q || jmt D q (R q) r k) = true then (.inr (m, 101, Int32.ofNat r, Int32.ofNat k) : (Int32 × jMe) ⊕ (jMe × Nat × Int32 × Int32)) else .inl (0, m)) = (if ((!jPc D r q || jmt D q (R q) r k) && (List.range' (q + 1) t).all (fun q => !jPc D r q || jmt D q (R q) r k)) = true then .inr (m, 101, Int32.ofNat r, Int32.ofNat k) else .inl (0, m)) := by
      intro hp
      rw [hp]
      rfl
    have hne : ¬ (1 : Int32) = 0 := by decide
    cases e1 : (jdK D).testBit q with
    | true =>
      rw [if_pos (show jbi true = 1 from rfl), if_neg hne]
      exact hgo (by unfold jPc; rw [e1, Bool.true_or])
    | false =>
      rw [if_neg (show ¬ jbi false = 1 by decide)]
      cases e2 : (jdC D).testBit q with
      | false =>
        rw [if_pos (show jbi false = 0 from rfl)]
        have := hno (by unfold jPc; rw [e1, e2]; rfl)
        first | (rw [if_pos rfl]; exact congrArg some this) | (rw [if_pos trivial]; exact congrArg some this) | exact congrArg some this
      | true =>
        rw [if_neg (show ¬ jbi true = 0 by decide)]
        by_cases e : r ≤ q
        · rw [if_pos (ji_lep (by omega) (by omega) e)]
          have := hno (by unfold jPc; rw [e1, e2, decide_eq_false (show ¬ q < r by omega)]; rfl)
          first | (rw [if_pos rfl]; exact congrArg some this) | (rw [if_pos trivial]; exact congrArg some this) | exact congrArg some this
        · rw [if_neg (ji_len (by omega) (by omega) e), if_neg hne]
          exact hgo (by unfold jPc; rw [e1, e2, decide_eq_true (show q < r by omega)]; rfl)
theorem y_isChecked (hF : 1000 < F) (hDS : jDS D S) {r k : Nat} (hr : r < 4) (hk : k < jDz D r) {R : Nat → Nat} {m : jMe} (hY : jYg D S m) (hw : jyRw D (jPc D r) R m) : ∃ m', c_X10_isChecked F m 101 (Int32.ofNat r) (Int32.ofNat k) = some (jbi (jMc D R r k), m') ∧ jfx jSpp m m' ∧ jYg D S m' := by
  have h2 := y_isChecked_l2 (F := F) (by omega) hDS.1 hr hk hY.1 hw 4 0 F (by omega) (by omega)
  have h2 : c_X10_isChecked_l2 F F m 101 (Int32.ofNat r) (Int32.ofNat k) (0 : Int32) = _ := h2
  unfold c_X10_isChecked jMc
  rw [h2, List.range_eq_range']
  cases e : (List.range' 0 4).all (fun q => !jPc D r q || jmt D q (R q) r k) with
  | false =>
    refine ⟨m, ?_, jfx.rfl, hY⟩
    rw [if_neg (by decide), Bool.and_false]
    rfl
  | true =>
    obtain ⟨m', a1, a2, a3⟩ := y_isPassing (F := F) hF hDS hr hk hY.1.1
    refine ⟨m', ?_, a2, jYg_p a2 a3 hY⟩
    rw [if_pos rfl, Bool.and_true, jb2_r]
    dsimp only
    rw [jgd_t hY.1.1.1.1, a1, jb_some, jgd_t (by cases jpb D r k <;> simp [jbi])]
theorem y_checked_l5 (hF : 1000 < F) (hDS : jDS D S) {r : Nat} (hr : r < 4) {R : Nat → Nat} {idx : Nat} (hix : idx ≤ 32000000000) : ∀ (t k f s p : Nat) (m : jMe), k + t = jDz D r → t < f → idx = s + p → jYg D S m → jyRw D (jPc D r) R m → jL m 118 r = Int64.ofNat idx → ∃ z, c_X10_checked_l5 F f m 101 (Int32.ofNat r) (Int64.ofNat s) (Int32.ofNat k) = some z ∧ ∃ m', jfx jSpp m m' ∧ jYg D S m' ∧ z = match jpk2 D r (jMc D R r) t k p with
    | none => .inr m'
    | some y => .inl (Int32.ofNat y, m') := by
  have hD := hDS.1
  have hDr := hD.2.2.1 r hr
  have hz := hDr.2.2.1
  intro t
  induction t with
  | zero =>
    intro k f s p m h1 h2 h3 hY hw hi
    obtain ⟨f, rfl⟩ := jsucc h2
    have hL := hY.1.1.1
    refine ⟨.inr m, ?_, m, jfx.rfl, hY, rfl⟩
    show c_X10_checked_l5_b F _ m _ _ _ _ = _
    unfold c_X10_checked_l5_b
    rw [jgd_t hL.1, jp_107 hL, jgd_t (jk_107 hL), jz_107 hL, jgd_t (ji_int (by omega) hr), ji_n (by omega), (hY.1.1.2.1.2.2.2 r hr).2.2.1, if_pos (ji_lep (by omega) (by omega) (by omega))]
  | succ t ih =>
    intro k f s p m h1 h2 h3 hY hw hi
    obtain ⟨f, rfl⟩ := jsucc h2
    have hk : k < jDz D r := by omega
    have hL := hY.1.1.1
    have hwl := jwth_le hDr hk
    obtain ⟨m1, a1, a2, a3⟩ := y_isChecked (F := F) hF hDS hr hk hY hw
    have hL1 := a3.1.1.1
    have hi1 : jL m1 118 r = Int64.ofNat idx := by rw [a2.L (by unfold jSpp; omega)]; exact hi
    have hw1 := jyRw_fx a2 (fun i => by unfold jSpp; omega) hw
    generalize hsw : (if jMc D R r k = true then jwth D r k else 0) = w
    have hwb : w ≤ 4000000000 := by rw [← hsw]; split <;> omega
    have hst : ∀ z, (if s + w ≤ idx then c_X10_checked_l5 F f m1 101 (Int32.ofNat r) (Int64.ofNat (s + w)) (Int32.ofNat (k + 1)) else some (.inl (Int32.ofNat k, m1))) = z → c_X10_checked_l5 F (f + 1) m 101 (Int32.ofNat r) (Int64.ofNat s) (Int32.ofNat k) = z := by
      intro z h
      rw [← h]
      show c_X10_checked_l5_b F _ m _ _ _ _ = _
      unfold c_X10_checked_l5_b c_X10_checked_j38_l5
      rw [jgd_t hL.1, jp_107 hL, jgd_t (jk_107 hL), jz_107 hL, jgd_t (ji_int (by omega) hr), ji_n (by omega), (hY.1.1.2.1.2.2.2 r hr).2.2.1, if_neg (ji_len (by omega) (by omega) (by omega)), a1, jb_some]
      simp only [jgd_t hL1.1, jp_118 hL1, jgd_t (jk_118 hL1), jz_118 hL1]
      rw [jgd_t (ji_int (by omega) hr), hi1, y_worthOf hL1 a3.1.1.2.1 hr hDr hk, jb_some, jgd_t (ji_int (by omega) hr), show (0 : Int64) = Int64.ofNat 0 from rfl, jq_add, jq_add, show Int32.ofNat k + 1 = Int32.ofNat (k + 1) from ji_add k 1]
      have hc : ∀ {α : Type} (v : Nat) (a b : α), v ≤ 4000000000 → (if lg_cmp (Int64.ofNat (s + v)) (Int64.ofNat idx) ≤ 0 then a else b) = if s + v ≤ idx then a else b := by
        intro α v a b hv
        by_cases e : s + v ≤ idx
        · rw [if_pos e, if_pos (jc_le0.mpr ((jq_le (by unfold jMX; omega) (by unfold jMX; omega)).mpr e))]
        · rw [if_neg e, if_neg (fun h => e ((jq_le (by unfold jMX; omega) (by unfold jMX; omega)).mp (jc_le0.mp h)))]
      rw [hc 0 _ _ (by omega), hc _ _ _ hwl, ← hsw]
      cases jMc D R r k with
      | true => rw [if_neg (show ¬ jbi true = 0 by decide), if_pos rfl]
      | false => rw [if_pos (show jbi false = 0 from rfl), if_neg (show ¬ false = true by decide)]
    rw [jpk2]
    by_cases e : jMc D R r k = true
    · rw [if_pos e] at hsw
      rw [if_pos e]
      by_cases e2 : p < jwth D r k
      · rw [if_pos e2]
        exact ⟨_, hst _ (if_neg (by omega)), m1, a2, a3, rfl⟩
      · rw [if_neg e2]
        obtain ⟨z, b1, m', b2, b3, b4⟩ := ih (k + 1) f (s + w) (p - jwth D r k) m1 (by omega) (by omega) (by omega) a3 hw1 hi1
        exact ⟨z, hst _ (by rw [if_pos (by omega)]; exact b1), m', a2.trans b2, b3, b4⟩
    · rw [if_neg e] at hsw
      rw [if_neg e]
      obtain ⟨z, b1, m', b2, b3, b4⟩ := ih (k + 1) f (s + w) p m1 (by omega) (by omega) (by omega) a3 hw1 hi1
      exact ⟨z, hst _ (by rw [if_pos (by omega)]; exact b1), m', a2.trans b2, b3, b4⟩
theorem jpk2_lt {r : Nat} {M : Nat → Bool} : ∀ (t k p y : Nat), jpk2 D r M t k p = some y → k ≤ y ∧ y < k + t ∧ M y = true := by
  intro t
  induction t with
  | zero => intro k p y h; cases h
  | succ t ih =>
    intro k p y h
    rw [jpk2] at h
    split at h
    · rename_i hM
      split at h
      · cases h
        exact ⟨Nat.le_refl _, by omega, hM⟩
      · have := ih _ _ _ h
        exact ⟨by omega, by omega, this.2.2⟩
    · have := ih _ _ _ h
      exact ⟨by omega, by omega, this.2.2⟩
abbrev jyFg (m m' : jMe) : Prop := jfx (fun a i => jSpp a i ∨ a = 117 ∨ a = 118 ∨ (a = 101 ∧ (i = 31 ∨ i = 41))) m m'
theorem y_isGood_l64 (hF : 1000 < F) (hDS : jDS D S) {ix : Nat → Nat} (hix : ∀ r, r < 4 → (jdC D).testBit r = true → ix r ≤ 32000000000) : ∀ (t r f : Nat) (R : Nat → Nat) (m : jMe), r + t = 4 → t < f → jYg D S m → jyRw D (jPc D r) R m → (∀ x, x < 4 → (jdC D).testBit x = true → jL m 118 x = Int64.ofNat (ix x)) → ∃ z, c_X10_isGood_l64 F f m 101 (Int32.ofNat r) = some z ∧ ∃ m', jyFg m m' ∧ jYg D S m' ∧ match jlc D ix t r R with
    | none => z = .inl (0, m')
    | some R' => z = .inr m' ∧ jyRw D (jPc D 4) R' m' := by
  have hD := hDS.1
  have hq := jDok_q hD
  intro t
  induction t with
  | zero =>
    intro r f R m h1 h2 hY hw hi
    obtain ⟨f, rfl⟩ := jsucc h2
    have hr : r = 4 := by omega
    subst hr
    refine ⟨.inr m, ?_, m, jfx.rfl, hY, rfl, hw⟩
    show c_X10_isGood_l64_b F _ m _ _ = _
    unfold c_X10_isGood_l64_b
    rw [if_pos (show (4 : Int32) ≤ Int32.ofNat 4 by decide)]
  | succ t ih =>
    intro r f R m h1 h2 hY hw hi
    obtain ⟨f, rfl⟩ := jsucc h2
    have hr : r < 4 := by omega
    have hL := hY.1.1.1
    rw [jlc]
    by_cases e : (jdC D).testBit r = true
    · rw [if_pos e]
      have hz := (hD.2.2.1 r hr).2.2.1
      obtain ⟨z1, a1, m1, a2, a3, a4⟩ := y_checked_l5 (F := F) hF hDS hr (R := R) (hix r hr e) (jDz D r) 0 F 0 (ix r) m (by omega) (by omega) (by omega) hY hw (hi r hr e)
      have a1 : c_X10_checked_l5 F F m 101 (Int32.ofNat r) (0 : Int64) (0 : Int32) = some z1 := a1
      have hL1 := a3.1.1.1
      have hcd : ∀ v, c_X10_checked F m 101 (Int32.ofNat r) = some (v, m1) → ∀ z, (if v = -1 then some (.inl ((0 : Int32), jsI m1 117 r v)) else c_X10_isGood_l64 F f (jsI m1 117 r v) 101 (Int32.ofNat (r + 1))) = z → c_X10_isGood_l64 F (f + 1) m 101 (Int32.ofNat r) = z := by
        intro v hv z h
        rw [← h]
        show c_X10_isGood_l64_b F _ m _ _ = _
        unfold c_X10_isGood_l64_b
        rw [if_neg (show ¬ (4 : Int32) ≤ Int32.ofNat r from ji_len (a := 4) (by omega) (by omega) (by omega)), jgd_t hL.1, y_isCheck hY.1 hq hr, jb_some, e, if_neg (show ¬ jbi true = 0 by decide), hv, jb_some]
        simp only [jP_sI, jK_sI, jZ_sI, jp_117 hL, jp_117 hL1, jgd_t (jk_117 hL1), jz_117 hL1, jgd_t hL1.1]
        rw [jgd_t (ji_int (by omega) hr), ji_n (by omega), jgd_t (ji_int (by omega) hr), jsI_y, show Int32.ofNat r + 1 = Int32.ofNat (r + 1) from ji_add r 1]
      have fm1 : jyFg m m1 := a2.weak (fun a i h => Or.inl h)
      cases hp : jpk2 D r (jMc D R r) (jDz D r) 0 (ix r) with
      | none =>
        rw [hp] at a4
        have hv : c_X10_checked F m 101 (Int32.ofNat r) = some (-1, m1) := by
          unfold c_X10_checked
          rw [a1, a4]
          rfl
        have f2 : jyFg m1 (jsI m1 117 r (-1)) := jfx_I (Or.inr (Or.inl rfl))
        exact ⟨_, hcd _ hv _ (if_pos rfl), _, fm1.trans f2, jYg_fx (jfx_I (S := fun a i => a = 117) rfl) (fun a i h => by unfold jSyg jSr at h; omega) a3, rfl⟩
      | some y =>
        rw [hp] at a4
        obtain ⟨-, y2, y3⟩ := jpk2_lt _ _ _ _ hp
        have hv : c_X10_checked F m 101 (Int32.ofNat r) = some (Int32.ofNat y, m1) := by
          unfold c_X10_checked
          rw [a1, a4]
          rfl
        have f2 : jyFg m1 (jsI m1 117 r (Int32.ofNat y)) := jfx_I (Or.inr (Or.inl rfl))
        have hY2 : jYg D S (jsI m1 117 r (Int32.ofNat y)) := jYg_fx (jfx_I (S := fun a i => a = 117) rfl) (fun a i h => by unfold jSyg jSr at h; omega) a3
        have hw2 : jyRw D (jPc D (r + 1)) (fun x => if x = r then y else R x) (jsI m1 117 r (Int32.ofNat y)) := by
          intro x hx hP
          dsimp only
          by_cases q : x = r
          · subst q
            rw [if_pos rfl, jsI_y]
            exact ⟨rfl, by omega⟩
          · rw [if_neg q, jsI_no (fun h => q h.2), a2.I (by unfold jSpp; omega)]
            refine hw x hx ?_
            unfold jPc at hP ⊢
            by_cases q2 : x < r
            · rw [decide_eq_true (show x < r + 1 by omega)] at hP
              rw [decide_eq_true q2]
              exact hP
            · rw [decide_eq_false (show ¬ x < r + 1 by omega)] at hP
              rw [decide_eq_false q2]
              exact hP
        obtain ⟨z, b1, m', b2, b3, b4⟩ := ih (r + 1) f _ _ (by omega) (by omega) hY2 hw2 (fun x hx hc => by rw [jL_sI, a2.L (by unfold jSpp; omega)]; exact hi x hx hc)
        exact ⟨z, hcd _ hv _ (by rw [if_neg (ji_m1 (by omega))]; exact b1), m', (fm1.trans f2).trans b2, b3, b4⟩
    · rw [if_neg e]
      have e' : (jdC D).testBit r = false := by cases z : (jdC D).testBit r with | false => rfl | true => exact absurd z e
      obtain ⟨z, b1, m', b2, b3, b4⟩ := ih (r + 1) f R m (by omega) (by omega) hY (fun x hx hP => hw x hx (by
        unfold jPc at hP ⊢
        by_cases q : x = r
        · subst q
          rw [e', Bool.false_and] at hP ⊢
          exact hP
        · by_cases q2 : x < r
          · rw [decide_eq_true (show x < r + 1 by omega)] at hP
            rw [decide_eq_true q2]
            exact hP
          · rw [decide_eq_false (show ¬ x < r + 1 by omega)] at hP
            rw [decide_eq_false q2]
            exact hP)) hi
      refine ⟨z, ?_, m', b2, b3, b4⟩
      show c_X10_isGood_l64_b F _ m _ _ = _
      unfold c_X10_isGood_l64_b
      rw [if_neg (show ¬ (4 : Int32) ≤ Int32.ofNat r from ji_len (a := 4) (by omega) (by omega) (by omega)), jgd_t hL.1, y_isCheck hY.1 hq hr, jb_some, e', if_pos (show jbi false = 0 from rfl), show Int32.ofNat r + 1 = Int32.ofNat (r + 1) from ji_add r 1]
      exact b1
theorem jupar_s (n x : Nat) : jupar D (n + 1) x = (match jpar D x with | none => none | some y => jupar D n y) := by
  induction n with
  | zero =>
    show jpar D x = _
    cases jpar D x <;> rfl
  | succ n ih =>
    rw [jupar, ih]
    cases jpar D x with
    | none => rfl
    | some y =>
      show _ = jupar D (n + 1) y
      rw [jupar]
theorem jup_root {root : Nat} (hT : jTre (jDa D) (jdK D) root (jpar D) (jord D)) : ∀ (n : Nat) (pre : List Nat) (x : Nat) (post : List Nat), post.length ≤ n → jord D = pre ++ x :: post → ∃ N, jupar D N x = some root := by
  intro n
  induction n with
  | zero =>
    intro pre x post h1 h2
    have hp : post = [] := List.eq_nil_of_length_eq_zero (by omega)
    obtain ⟨e, -⟩ := (hT.2.2 pre x post h2).1 hp
    exact ⟨0, by rw [e]; rfl⟩
  | succ n ih =>
    intro pre x post h1 h2
    by_cases hp : post = []
    · obtain ⟨e, -⟩ := (hT.2.2 pre x post h2).1 hp
      exact ⟨0, by rw [e]; rfl⟩
    · obtain ⟨q, q1, q2, -⟩ := (hT.2.2 pre x post h2).2 hp
      obtain ⟨p1, p2, e⟩ := List.append_of_mem q2
      obtain ⟨N, hN⟩ := ih (pre ++ x :: p1) q p2 (by rw [e] at h1; simp only [List.length_append, List.length_cons] at h1; omega) (by rw [h2, e]; simp)
      exact ⟨N + 1, by rw [jupar_s, q1]; exact hN⟩
theorem y_isGood (hF : 1000 < F) (hDS : jDS D S) (hq0 : jDq D ≠ 0) {p : Nat} (hp : p < jsp D 4) {m : jMe} (hY : jYg D S m) : ∃ m', c_X10_isGood F m 101 (Int64.ofNat p) = some (jbi (jlead D p).isSome, m') ∧ jyFg m m' ∧ jYg D S m' ∧ ∀ R, jlead D p = some R → jyRw D (fun x => (jDq D).testBit x) R m' := by
  have hD := hDS.1
  have hq := jDok_q hD
  obtain ⟨root, hT, hrt, hr4, hro⟩ := jtree0 hD
  rw [if_neg hq0] at hrt
  have hbp := jsp_pos hp
  have hble : ∀ r, r < 4 → jbd D r ≤ 32000000000 := fun r hr => jbd_le (hD.2.2.1 r hr)
  have hjix := jix_lt (D := D) 4 p (fun r hr hc => hbp r hr hc)
  have hsp : jsp D 4 ≤ jMX := hY.2.2.2.2.2.1
  have hp0 : (jix D 4 p).2 < jAll D := hjix.2.2 (jAll D) hp
  obtain ⟨m1, a1, a2, a3, a4⟩ := y_isGood_l5 (F := F) hq 4 F p m (by omega) (by omega) (by omega) hY (fun r hr hc => ⟨hbp r hr hc, by have := hble r hr; unfold jMX; omega⟩)
  have hL1 := a3.1.1.1
  have hroo := hro hq0
  obtain ⟨pre, post, e⟩ := List.append_of_mem hroo
  have hpar : jpar D root = none := by
    have h3 := hT.2.2 pre root post e
    by_cases hpo : post = []
    · exact (h3.1 hpo).2
    · exfalso
      obtain ⟨l, z, hlz⟩ := jlast hpo
      have h4 := hT.2.2 (pre ++ root :: l) z [] (by rw [e, hlz]; simp)
      have hz := (h4.1 rfl).1
      have hnd := hT.1
      rw [e, hlz, hz] at hnd
      have := (List.nodup_cons.mp (List.nodup_append.mp hnd).2.1).1
      exact this (by simp)
  have hlv : jLv D (jix D 4 p).2 root = (jix D 4 p).2 := by
    unfold jLv
    rw [hpar]
  have hlen := jord_le hT
  have hprel : pre.length ≤ 4 := by
    rw [e] at hlen
    simp only [List.length_append, List.length_cons] at hlen
    omega
  obtain ⟨m2, b1, b2, b3, b4, b5⟩ := y_leads (F := F) (by omega) hD hT hrt hp0 4 pre root post 8 m1 (-1) hprel e (by omega) a3 (Or.inl ⟨hpar, rfl⟩)
  rw [hlv] at b1
  have hw2 : jyRw D (jPc D 0) (jrw D (jix D 4 p).2) m2 := by
    intro r hr hP
    have hk : (jdK D).testBit r = true := by
      unfold jPc at hP
      rw [decide_eq_false (by omega), Bool.and_false, Bool.or_false] at hP
      exact hP
    have hro : r ∈ jord D := (hT.2.1 r).mpr ⟨hr, hk⟩
    obtain ⟨p1, p2, e2⟩ := List.append_of_mem hro
    obtain ⟨N, hN⟩ := jup_root hT p2.length p1 r p2 (Nat.le_refl _) e2
    exact ⟨b5 N r hN, (jlr_ok hT hrt hp0 hD.2.2.1 p2.length p1 r p2 (Nat.le_refl _) e2).1⟩
  obtain ⟨z, c1, m3, c2, c3, c4⟩ := y_isGood_l64 (F := F) hF hDS (ix := (jix D 4 p).1) (fun r hr hc => by
    have := hjix.2.1 r hr hc
    have := hble r hr
    omega) 4 0 F (jrw D (jix D 4 p).2) m2 (by omega) (by omega) b2 hw2 (fun x hx hc => by
    rw [b3.L (by omega), a4, if_pos ⟨hx, hc⟩])
  have hst : c_X10_isGood F m 101 (Int64.ofNat p) = jb2 (some z) (fun q => some q) (fun e35 => some ((1 : Int32), e35)) := by
    unfold c_X10_isGood
    have a1 : c_X10_isGood_l5 F F m 101 (Int64.ofNat p) (3 : Int32) = _ := a1
    have c1 : c_X10_isGood_l64 F F m2 101 (0 : Int32) = _ := c1
    rw [a1, jb_some]
    dsimp only
    rw [jgd_t hL1.1, a3.1.2.1.2.1 root hrt, b1, jb_some, c1]
  have hfr : jyFg m m3 := ((a2.weak (fun a i h => Or.inr (Or.inr (Or.inl h)))).trans (b3.weak (fun a i h => by omega))).trans c2
  rw [hst]
  unfold jlead
  cases h : jlc D (jix D 4 p).1 4 0 (jrw D (jix D 4 p).2) with
  | none =>
    rw [h] at c4
    rw [c4]
    exact ⟨m3, rfl, hfr, c3, fun R h => by cases h⟩
  | some R =>
    rw [h] at c4
    rw [c4.1]
    refine ⟨m3, rfl, hfr, c3, fun R' h' => ?_⟩
    cases h'
    intro r hr hb
    refine c4.2 r hr ?_
    have hbits := (jdK_bits (D := D) r hr).2
    unfold jPc
    cases hk : (jdK D).testBit r with
    | true => rfl
    | false =>
      rw [hbits.mpr ⟨hb, by rw [hk]; decide⟩, decide_eq_true hr]
      rfl
end YGOOD
