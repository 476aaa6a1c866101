/-! counts with a row, with a value; odds, values, likeliest, dangling, as the reference tells them -/
section YVALS
variable {F : Nat} {D : jD} {S : jTS}
def jfv1 (D : jD) (a : Nat) (v : Int32) (R : Nat → Nat) : Nat := if jav D R a = v then 1 else 0
theorem jct_eq {f g : (Nat → Nat) → Nat} (hz : ∀ r, r < 4 → jDz D r ≤ 8) (hq0 : jDq D ≠ 0) (h : ∀ R, (∀ r, R r < 8) → (∀ r, r < 4 → jvd D R r = true) → f R = g R) : jct D f = jct D g := by
  rw [jct_codes hz hq0, jct_codes hz hq0]
  refine jsum_c (fun code _ => ?_)
  rw [jcd_e, jcd_e]
  cases hv : jall4 (jvd D (jRc code)) with
  | false => rw [Bool.false_and, if_neg (by decide), if_neg (by decide)]
  | true => rw [h (jRc code) (jRc_lt code) (fun r hr => jall4_i hv hr)]
theorem jct_1 (hz : ∀ r, r < 4 → jDz D r ≤ 8) (hq0 : jDq D ≠ 0) {k1 v2 : Int32} : jct D (jcf D (-1) k1 (-1) v2) = jct D jf1 := by
  refine jct_eq hz hq0 (fun R _ _ => ?_)
  unfold jcf jf1
  rw [if_pos ⟨Or.inl rfl, Or.inl rfl⟩]
theorem jct_r (hz : ∀ r, r < 4 → jDz D r ≤ 8) (hq0 : jDq D ≠ 0) {r k : Nat} (hr : r < 4) (hk : k < 2147483648) {v2 : Int32} : jct D (jcf D (Int32.ofNat r) (Int32.ofNat k) (-1) v2) = jct D (jfr1 r k) := by
  refine jct_eq hz hq0 (fun R h8 _ => ?_)
  have := h8 r
  unfold jcf jfr1
  rw [ji_n (by omega)]
  have ne : ¬ Int32.ofNat r = -1 := by
    have : ∀ a : Fin 4, ¬ Int32.ofNat a.1 = (-1 : Int32) := by decide
    exact this ⟨r, hr⟩
  by_cases e : R r = k
  · rw [if_pos e, if_pos ⟨Or.inr (by rw [e]), Or.inl rfl⟩]
  · rw [if_neg e, if_neg (fun h => by
      rcases h.1 with h | h
      · exact ne h
      · exact e ((ji_eq (by omega) hk).mp h))]
theorem jct_v (hz : ∀ r, r < 4 → jDz D r ≤ 8) (hq0 : jDq D ≠ 0) {a : Nat} (ha : a < 6) {k1 v : Int32} : jct D (jcf D (-1) k1 (Int32.ofNat a) v) = jct D (jfv1 D a v) := by
  refine jct_eq hz hq0 (fun R _ _ => ?_)
  unfold jcf jfv1
  rw [ji_n (by omega)]
  have ne : ¬ Int32.ofNat a = -1 := by
    have : ∀ a : Fin 6, ¬ Int32.ofNat a.1 = (-1 : Int32) := by decide
    exact this ⟨a, ha⟩
  by_cases e : jav D R a = v
  · rw [if_pos e, if_pos ⟨Or.inl rfl, Or.inr e⟩]
  · rw [if_neg e, if_neg (fun h => by
      rcases h.2 with h | h
      · exact ne h
      · exact e h)]
theorem jfa_in1 {a : Nat} : ∀ (t r x : Nat), r + t ≤ 4 → jfa D a t r = some x → x < 4 ∧ (jDq D).testBit x = true ∧ (jDa D x).testBit a = true := by
  intro t
  induction t with
  | zero => intro r x _ h; cases h
  | succ t ih =>
    intro r x h1 h
    rw [jfa] at h
    by_cases e : (jDq D).testBit r = true ∧ (jDa D r).testBit a = true
    · rw [if_pos e] at h
      cases h
      exact ⟨by omega, e.1, e.2⟩
    · rw [if_neg e] at h
      exact ih (r + 1) x (by omega) h
/-- with a value: rows of the first relation that has it -/
theorem jct_jcw (hD : jDok D) (hq0 : jDq D ≠ 0) {a v : Nat} (ha : a < 6) (hv : v < 10) : jct D (jfv1 D a (Int32.ofNat v)) = jcw D a v := by
  have hz : ∀ r, r < 4 → jDz D r ≤ 8 := fun r hr => (hD.2.2.1 r hr).2.2.1
  unfold jcw
  cases hf : jfa D a 4 0 with
  | none =>
    have : jct D (jfv1 D a (Int32.ofNat v)) = jct D (fun _ => 0) := jct_eq hz hq0 (fun R _ _ => by
      unfold jfv1 jav
      rw [hf]
      have ne : ∀ v : Fin 10, ¬ (-1 : Int32) = Int32.ofNat v.1 := by decide
      exact if_neg (ne ⟨v, hv⟩))
    rw [this]
    unfold jct
    rw [if_neg hq0, jwk_0]
  | some r =>
    obtain ⟨hr, hin, hat⟩ := jfa_in1 4 0 r (by omega) hf
    have e1 : jct D (jfv1 D a (Int32.ofNat v)) = jct D (fun R => jsum (jDz D r) (fun k => if jDv D r k a = v then jfr1 r k R else 0)) := jct_eq hz hq0 (fun R _ hvd => by
      have hd := hvd r hr
      unfold jvd at hd
      rw [if_pos hin] at hd
      have hR : R r < jDz D r := of_decide_eq_true hd
      have hlt := ((hD.2.2.1 r hr).2.2.2.2 (R r) hR).1 a
      have e2 : ∀ k, (if jDv D r k a = v then jfr1 r k R else 0) = if k = R r then (if jDv D r (R r) a = v then 1 else 0) else 0 := fun k => by
        unfold jfr1
        by_cases e : k = R r
        · rw [if_pos e, e, if_pos rfl]
        · rw [if_neg e, if_neg (show ¬ R r = k from fun h => e h.symm), ite_self]
      rw [jsum_c (fun k _ => e2 k), jsum_at (f := fun _ => if jDv D r (R r) a = v then 1 else 0) hR]
      unfold jfv1 jav
      rw [hf]
      dsimp only
      by_cases e : jDv D r (R r) a = v
      · rw [if_pos e, if_pos (by rw [e])]
      · rw [if_neg e, if_neg (ji_eqn (by omega) (by omega) e)])
    rw [e1]
    have e3 : ∀ n, jct D (fun R => jsum n (fun k => if jDv D r k a = v then jfr1 r k R else 0)) = jsum n (fun k => if jDv D r k a = v then jct D (jfr1 r k) else 0) := by
      intro n
      induction n with
      | zero =>
        show jct D (fun _ => 0) = 0
        unfold jct
        rw [if_neg hq0, jwk_0]
      | succ n ih =>
        rw [jsum_s, ← ih]
        unfold jct
        simp only [if_neg hq0]
        have : jwk D (fun R => jsum (n + 1) (fun k => if jDv D r k a = v then jfr1 r k R else 0)) 4 0 (fun _ => 0) = jwk D (fun R => (fun R => jsum n (fun k => if jDv D r k a = v then jfr1 r k R else 0)) R + (fun R => if jDv D r n a = v then jfr1 r n R else 0) R) 4 0 (fun _ => 0) := jwk_c 4 0 _ (fun R => rfl)
        rw [this, jwk_add]
        congr 1
        by_cases e : jDv D r n a = v
        · rw [if_pos e]
          exact jwk_c 4 0 _ (fun R => if_pos e)
        · rw [if_neg e]
          have : jwk D (fun R => if jDv D r n a = v then jfr1 r n R else 0) 4 0 (fun _ => 0) = jwk D (fun _ => 0) 4 0 (fun _ => 0) := jwk_c 4 0 _ (fun R => if_neg e)
          rw [this, jwk_0]
    exact e3 (jDz D r)
theorem y_countNow1 (hF : 5000 < F) (hDS : jDS D S) (hq0 : jDq D ≠ 0) {m : jMe} (hQ : jyQ D S m) : ∃ m', c_X10_countNow F m 101 = some (Int64.ofNat (jct D jf1), m') ∧ jfx jyO m m' ∧ jyQ D S m' := by
  have hz : ∀ r, r < 4 → jDz D r ≤ 8 := fun r hr => (hDS.1.2.2.1 r hr).2.2.1
  obtain ⟨m', a1, a2, a3⟩ := y_countNow (F := F) hF hDS hq0 (Or.inl rfl) (Or.inl rfl) hQ.1 hQ.2.2.1 (k1 := jI m 101 38) rfl hQ.2.2.2 (v2 := jI m 101 40) rfl
  rw [jct_1 hz hq0] at a1
  exact ⟨m', a1, a2.weak (fun a i h => jyO_fc h), jyQ_fx a2 (by unfold jyFc jSpp; omega) a3 hQ⟩
theorem y_countOf (hF : 5000 < F) (hDS : jDS D S) (hq0 : jDq D ≠ 0) {m : jMe} (hQ : jyQ D S m) {r k : Nat} (hr : r < 4) (hk : k < 2147483648) : ∃ m', c_X10_countOf F m 101 (Int32.ofNat r) (Int32.ofNat k) = some (Int64.ofNat (jct D (jfr1 r k)), m') ∧ jfx jyO m m' ∧ jyQ D S m' := by
  have hz : ∀ r, r < 4 → jDz D r ≤ 8 := fun r hr => (hDS.1.2.2.1 r hr).2.2.1
  obtain ⟨hR, ⟨x, hx4, hx⟩, h37, h39⟩ := hQ
  have fx : jfx (fun a i => a = 101 ∧ (i = 37 ∨ i = 38)) m (jsI (jsI m 101 37 (Int32.ofNat r)) 101 38 (Int32.ofNat k)) := (jfx_I ⟨rfl, Or.inl rfl⟩).trans (jfx_I ⟨rfl, Or.inr rfl⟩)
  have g37 : jI (jsI (jsI m 101 37 (Int32.ofNat r)) 101 38 (Int32.ofNat k)) 101 37 = Int32.ofNat r := by rw [jsI_no (by omega), jsI_y]
  have g38 : jI (jsI (jsI m 101 37 (Int32.ofNat r)) 101 38 (Int32.ofNat k)) 101 38 = Int32.ofNat k := jsI_y
  unfold c_X10_countOf
  rw [jgd_t hR.1.1]
  generalize jsI (jsI m 101 37 (Int32.ofNat r)) 101 38 (Int32.ofNat k) = m1 at fx g37 g38 ⊢
  have hR1 : jRf D S m1 := jRf_fx fx (fun a i h => by unfold jSr at h; omega) hR
  have g39 : jI m1 101 39 = -1 := by rw [fx.I (by omega)]; exact h39
  obtain ⟨m2, a1, a2, a3⟩ := y_countNow (F := F) hF hDS hq0 (Or.inr ⟨r, hr, rfl⟩) (Or.inl rfl) hR1 g37 g38 g39 (v2 := jI m1 101 40) rfl
  rw [jct_r hz hq0 hr hk] at a1
  rw [a1, jb_some]
  dsimp only
  rw [jgd_t a3.1.1]
  have fx2 : jfx (fun a i => a = 101 ∧ i = 37) m2 (jsI m2 101 37 (-1 : Int32)) := jfx_I ⟨rfl, rfl⟩
  have fall : jfx jyO m (jsI m2 101 37 (-1 : Int32)) := ((fx.weak (fun a i h => by unfold jyO; omega)).trans (a2.weak (fun a i h => jyO_fc h))).trans (fx2.weak (fun a i h => by unfold jyO; omega))
  refine ⟨_, rfl, fall, jRf_fx fx2 (fun a i h => by unfold jSr at h; omega) a3, ⟨x, hx4, ?_⟩, jsI_y, ?_⟩
  · rw [fx2.I (by omega), a2.I (by unfold jyFc jSpp; omega), fx.I (by omega)]
    exact hx
  · rw [fx2.I (by omega), a2.I (by unfold jyFc jSpp; omega)]
    exact g39
theorem y_countValue (hF : 5000 < F) (hDS : jDS D S) (hq0 : jDq D ≠ 0) {m : jMe} (hQ : jyQ D S m) {a : Nat} (ha : a < 6) {v : Int32} : ∃ m', c_X10_countValue F m 101 (Int32.ofNat a) v = some (Int64.ofNat (jct D (jfv1 D a v)), m') ∧ jfx jyO m m' ∧ jyQ D S m' := by
  have hz : ∀ r, r < 4 → jDz D r ≤ 8 := fun r hr => (hDS.1.2.2.1 r hr).2.2.1
  obtain ⟨hR, ⟨x, hx4, hx⟩, h37, h39⟩ := hQ
  have fx : jfx (fun a i => a = 101 ∧ (i = 39 ∨ i = 40)) m (jsI (jsI m 101 39 (Int32.ofNat a)) 101 40 v) := (jfx_I ⟨rfl, Or.inl rfl⟩).trans (jfx_I ⟨rfl, Or.inr rfl⟩)
  have g39 : jI (jsI (jsI m 101 39 (Int32.ofNat a)) 101 40 v) 101 39 = Int32.ofNat a := by rw [jsI_no (by omega), jsI_y]
  have g40 : jI (jsI (jsI m 101 39 (Int32.ofNat a)) 101 40 v) 101 40 = v := jsI_y
  unfold c_X10_countValue
  rw [jgd_t hR.1.1]
  generalize jsI (jsI m 101 39 (Int32.ofNat a)) 101 40 v = m1 at fx g39 g40 ⊢
  have hR1 : jRf D S m1 := jRf_fx fx (fun a i h => by unfold jSr at h; omega) hR
  have g37 : jI m1 101 37 = -1 := by rw [fx.I (by omega)]; exact h37
  obtain ⟨m2, a1, a2, a3⟩ := y_countNow (F := F) hF hDS hq0 (Or.inl rfl) (Or.inr ⟨a, ha, rfl⟩) hR1 g37 (k1 := jI m1 101 38) rfl g39 g40
  rw [jct_v hz hq0 ha] at a1
  rw [a1, jb_some]
  dsimp only
  rw [jgd_t a3.1.1]
  have fx2 : jfx (fun a i => a = 101 ∧ i = 39) m2 (jsI m2 101 39 (-1 : Int32)) := jfx_I ⟨rfl, rfl⟩
  have fall : jfx jyO m (jsI m2 101 39 (-1 : Int32)) := ((fx.weak (fun a i h => by unfold jyO; omega)).trans (a2.weak (fun a i h => jyO_fc h))).trans (fx2.weak (fun a i h => by unfold jyO; omega))
  refine ⟨_, rfl, fall, jRf_fx fx2 (fun a i h => by unfold jSr at h; omega) a3, ⟨x, hx4, ?_⟩, ?_, jsI_y⟩
  · rw [fx2.I (by omega), a2.I (by unfold jyFc jSpp; omega), fx.I (by omega)]
    exact hx
  · rw [fx2.I (by omega), a2.I (by unfold jyFc jSpp; omega)]
    exact g37
end YVALS
