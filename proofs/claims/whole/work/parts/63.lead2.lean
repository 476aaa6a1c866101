/-! checks of a position -/
def jpk2 (D : jD) (r : Nat) (M : Nat → Bool) : Nat → Nat → Nat → Option Nat
  | 0, _, _ => none
  | t + 1, k, p => if M k = true then (if p < jwth D r k then some k else jpk2 D r M t (k + 1) (p - jwth D r k)) else jpk2 D r M t (k + 1) p
/-- those that stand ahead of a check -/
def jPc (D : jD) (r : Nat) : Nat → Bool := fun x => (jdK D).testBit x || ((jdC D).testBit x && decide (x < r))
/-- rows of a check that pass and match those -/
def jMc (D : jD) (R : Nat → Nat) (r y : Nat) : Bool := jpb D r y && ((List.range 4).all fun q => !jPc D r q || jmt D q (R q) r y)
def jlc (D : jD) (ix : Nat → Nat) : Nat → Nat → (Nat → Nat) → Option (Nat → Nat)
  | 0, _, R => some R
  | t + 1, r, R => if (jdC D).testBit r = true then (match jpk2 D r (jMc D R r) (jDz D r) 0 (ix r) with
    | none => none
    | some k => jlc D ix t (r + 1) (fun y => if y = r then k else R y)) else jlc D ix t (r + 1) R
/-- a position's rows, if it is good -/
def jlead (D : jD) (p : Nat) : Option (Nat → Nat) := jlc D (jix D 4 p).1 4 0 (jrw D (jix D 4 p).2)
theorem jpk2_c {D : jD} {r : Nat} {M M' : Nat → Bool} : ∀ (t k p : Nat), (∀ x, k ≤ x → x < k + t → M x = M' x) → jpk2 D r M t k p = jpk2 D r M' t k p := by
  intro t
  induction t with
  | zero => intro k p h; rfl
  | succ t ih =>
    intro k p h
    unfold jpk2
    rw [h k (Nat.le_refl _) (by omega), ih (k + 1) p (fun x h1 h2 => h x (by omega) (by omega)), ih (k + 1) (p - jwth D r k) (fun x h1 h2 => h x (by omega) (by omega))]
theorem jSs_c {D : jD} {P P' : Nat → Bool} (h : ∀ x, x < 4 → P x = P' x) (a : Nat) : jSs D P a = jSs D P' a := by
  rw [Bool.eq_iff_iff, jSs_iff, jSs_iff]
  constructor
  · rintro ⟨r, h1, h2, h3⟩
    exact ⟨r, h1, by rw [← h r h1]; exact h2, h3⟩
  · rintro ⟨r, h1, h2, h3⟩
    exact ⟨r, h1, by rw [h r h1]; exact h2, h3⟩
theorem jsd_c {D : jD} {P P' : Nat → Bool} {R : Nat → Nat} {b : Nat} {m : jMe} (h : ∀ x, x < 4 → P x = P' x) (k : jsd D P R b m) : jsd D P' R b m := by
  obtain ⟨k1, k2, k3, k4⟩ := k
  exact ⟨fun a ha => by rw [← jSs_c h]; exact k1 a ha, fun a r ha hr hp => k2 a r ha hr (by rw [h r hr]; exact hp), fun a ha hs => k3 a ha (by rw [jSs_c h]; exact hs), fun r hr hp => k4 r hr (by rw [h r hr]; exact hp)⟩
section LEAD2
variable {F b : Nat} {D : jD}
theorem q_check_l10 {r : Nat} (hr : r < 4) {m : jMe} {P : Nat → Bool} {R : Nat → Nat} (hI : jIn D b m) (hp : jI m (b + 11) r = Int32.ofNat (jpw D r)) (hP : P r = false) (hs : jsd D P R b m) : ∀ (t k f p : Nat), k + t = jDz D r → t < f → p ≤ jMX → ∃ z, c_X2_check_l10 F f m b (Int32.ofNat r) (Int64.ofNat p) (Int32.ofNat k) = some z ∧ (match jpk2 D r (fun y => jpb D r y && jmg D r y (jSs D P) (jnb (jI m b 16))) t k p with
    | none => z = .inr m
    | some x => ∃ m', z = .inl (1, m') ∧ jfr (jSle b) m m' ∧ jL m' = jL m ∧ (∀ j, j ≠ 16 → j ≠ 17 → jI m' b j = jI m b j) ∧ jsd D (fun y => P y || y == r) (fun y => if y = r then x else R y) b m') := by
  have hI0 := hI
  obtain ⟨i1, i2, i3, i4, i5, i6⟩ := hI
  obtain ⟨r1, r2⟩ := i3.2.2 r hr
  have hz := (i6 r hr).2.2.1
  have hpa := i1.2.2.2.2.2.2.2.2.2.2.2.2.2.2.2.1
  intro t
  induction t with
  | zero =>
    intro k f p h1 h2 h3
    obtain ⟨f, rfl⟩ := jsucc h2
    refine ⟨.inr m, ?_, rfl⟩
    show c_X2_check_l10_b F _ m _ _ _ _ = _
    unfold c_X2_check_l10_b
    rw [jgd_t i1.1, i2, jgd_t i3.1, i3.2.1, jgd_t (ji_int (by omega) hr), ji_n (by omega), r1, jgd_t r2.1, (i5 r hr).2.2.2.1, if_pos (ji_lep (by omega) (by omega) (by omega))]
  | succ t ih =>
    intro k f p h1 h2 h3
    obtain ⟨f, rfl⟩ := jsucc h2
    have hk : k < jDz D r := by omega
    have hwl := jwth_le (i6 r hr) hk
    have hst : ∀ z, (if jbi (jpb D r k) = 0 then c_X2_check_l10 F f m b (Int32.ofNat r) (Int64.ofNat p) (Int32.ofNat (k + 1)) else (if jbi (jmg D r k (jSs D P) (jnb (jI m b 16))) = 0 then c_X2_check_l10 F f m b (Int32.ofNat r) (Int64.ofNat p) (Int32.ofNat (k + 1)) else (if 0 ≤ (lg_cmp (Int64.ofNat p) (Int64.ofNat (jwth D r k))) then c_X2_check_l10 F f m b (Int32.ofNat r) (Int64.ofNat p - Int64.ofNat (jwth D r k)) (Int32.ofNat (k + 1)) else jb (c_X2_seat F m b (Int32.ofNat r) (Int32.ofNat k)) fun t23 => some (.inl ((1 : Int32), t23))))) = z → c_X2_check_l10 F (f + 1) m b (Int32.ofNat r) (Int64.ofNat p) (Int32.ofNat k) = z := by
      intro z h
      rw [← h]
      show c_X2_check_l10_b F _ m _ _ _ _ = _
      unfold c_X2_check_l10_b
      rw [jgd_t i1.1, i2, jgd_t i3.1, i3.2.1, jgd_t (ji_int (by omega) hr), ji_n (by omega), r1, jgd_t r2.1, (i5 r hr).2.2.2.1, if_neg (ji_len (by omega) (by omega) (by omega)), i1.2.2.2.2.2.2.2.1, jgd_t hpa.1, hpa.2, jgd_t (ji_int (by omega) hr), hp, q_isIn (by omega) (by have := jpw_lt (D := D) (r := r); omega), jb_some, jpw_bit (i6 r hr), jgd_t (ji_int (by omega) hr), q_matches r2 (i6 r hr) (i5 r hr) hk hs.1, jb_some, jgd_t (ji_int (by omega) hr), q_worthOf r2 (i6 r hr) (i5 r hr) hk, jb_some, show Int32.ofNat k + 1 = Int32.ofNat (k + 1) from ji_add k 1]
    unfold jpk2
    cases e1 : jpb D r k with
    | false =>
      rw [Bool.false_and, if_neg (by decide)]
      obtain ⟨z, y1, y2⟩ := ih (k + 1) f p (by omega) (by omega) h3
      refine ⟨z, hst _ ?_, y2⟩
      rw [e1, if_pos (by decide)]
      exact y1
    | true =>
      rw [Bool.true_and]
      cases em : jmg D r k (jSs D P) (jnb (jI m b 16)) with
      | false =>
        rw [if_neg (by decide)]
        obtain ⟨z, y1, y2⟩ := ih (k + 1) f p (by omega) (by omega) h3
        refine ⟨z, hst _ ?_, y2⟩
        rw [e1, if_neg (by decide), em, if_pos (by decide)]
        exact y1
      | true =>
        rw [if_pos rfl]
        have hcmp : 0 ≤ lg_cmp (Int64.ofNat p) (Int64.ofNat (jwth D r k)) ↔ ¬ p < jwth D r k := by
          rw [jc_0le, jq_le (by unfold jMX; omega) h3]
          omega
        by_cases ep : p < jwth D r k
        · rw [if_pos ep]
          obtain ⟨m', y1, y2, y3, y4, y5⟩ := q_seat (F := F) hI0 hr hk hP hs em
          refine ⟨.inl (1, m'), hst _ ?_, m', rfl, y2, y3, y4, y5⟩
          rw [e1, if_neg (by decide), em, if_neg (by decide), if_neg (fun h => hcmp.mp h ep), y1, jb_some]
        · rw [if_neg ep]
          obtain ⟨z, y1, y2⟩ := ih (k + 1) f (p - jwth D r k) (by omega) (by omega) (by omega)
          refine ⟨z, hst _ ?_, y2⟩
          rw [e1, if_neg (by decide), em, if_neg (by decide), if_pos (hcmp.mpr ep), jq_sub (by omega)]
          exact y1
theorem jMc_e {r : Nat} (hr : r < 4) {m : jMe} {R : Nat → Nat} (hs : jsd D (jPc D r) R b m) (y : Nat) : (jpb D r y && jmg D r y (jSs D (jPc D r)) (jnb (jI m b 16))) = jMc D R r y := by
  unfold jMc
  congr 1
  rw [Bool.eq_iff_iff, jmg_iff, List.all_eq_true]
  constructor
  · intro h q hq
    have hq4 := List.mem_range.mp hq
    cases hp : jPc D r q with
    | false => rfl
    | true =>
      rw [Bool.not_true, Bool.false_or]
      unfold jmt
      rw [jmg_iff]
      intro a ha h3 h4
      rw [← hs.2.1 a q (by omega) hq4 hp h4]
      exact h a ha h3 (jSs_iff.mpr ⟨q, hq4, hp, h4⟩)
  · intro h a ha h3 h4
    obtain ⟨q, q1, q2, q3⟩ := jSs_iff.mp h4
    have := h q (List.mem_range.mpr q1)
    rw [q2, Bool.not_true, Bool.false_or] at this
    unfold jmt at this
    rw [jmg_iff] at this
    rw [hs.2.1 a q (by omega) q1 q2 q3]
    exact this a ha h3 q3
theorem q_check (hF : 100 < F) {r p : Nat} (hr : r < 4) {m : jMe} {R : Nat → Nat} (hI : jIn D b m) (hp : jI m (b + 11) r = Int32.ofNat (jpw D r)) (hP : jPc D r r = false) (hs : jsd D (jPc D r) R b m) (hpl : p ≤ jMX) (hl : jL m (b + 13) r = Int64.ofNat p) : ∃ m', c_X2_check F m b (Int32.ofNat r) = some (jbi (jpk2 D r (jMc D R r) (jDz D r) 0 p).isSome, m') ∧ jfr (jSle b) m m' ∧ jL m' = jL m ∧ (∀ j, j ≠ 16 → j ≠ 17 → jI m' b j = jI m b j) ∧ (∀ x, jpk2 D r (jMc D R r) (jDz D r) 0 p = some x → jsd D (fun y => jPc D r y || y == r) (fun y => if y = r then x else R y) b m') := by
  have hz := (hI.2.2.2.2.2 r hr).2.2.1
  have hld := hI.1.2.2.2.2.2.2.2.2.2.2.2.2.2.2.2.2.2.1
  obtain ⟨z, y1, y2⟩ := q_check_l10 (F := F) hr hI hp hP hs (jDz D r) 0 F p (by omega) (by omega) hpl
  rw [jpk2_c (M' := jMc D R r) (jDz D r) 0 p (fun x _ _ => jMc_e hr hs x)] at y2
  have y1 : c_X2_check_l10 F F m b (Int32.ofNat r) (Int64.ofNat p) (0 : Int32) = _ := y1
  have hst : c_X2_check F m b (Int32.ofNat r) = jb2 (some z) (fun q => some q) fun e25 => some ((0 : Int32), e25) := by
    unfold c_X2_check
    rw [jgd_t hI.1.1, hI.1.2.2.2.2.2.2.2.2.2.1, jgd_t hld.1, hld.2, jgd_t (ji_int (by omega) hr), ji_n (by omega), hl, y1]
  rw [hst]
  cases e : jpk2 D r (jMc D R r) (jDz D r) 0 p with
  | none =>
    rw [e] at y2
    have y2 : z = .inr m := y2
    subst y2
    exact ⟨m, by rw [jb2_r]; rfl, jfr.rfl, rfl, fun _ _ _ => rfl, fun x h => by cases h⟩
  | some x =>
    rw [e] at y2
    obtain ⟨m', rfl, y3, y4, y5, y6⟩ := y2
    exact ⟨m', by rw [jb2_l]; rfl, y3, y4, y5, fun x' h => by cases h; exact y6⟩
theorem q_lead_l161 (hF : 2000 < F) (hD : jDok D) {ix : Nat → Nat} (hix : ∀ r, r < 4 → (jdC D).testBit r = true → ix r ≤ jMX) : ∀ (t r f : Nat) (m : jMe) (R : Nat → Nat), r + t = 4 → t < f → jIn D b m → jTM D (b + 1) m → (∀ x, x < 4 → jI m (b + 11) x = Int32.ofNat (if (jDq D).testBit x = true then jpw D x else 0)) → jsd D (jPc D r) R b m → (∀ x, x < 4 → (jdC D).testBit x = true → jL m (b + 13) x = Int64.ofNat (ix x)) → ∃ z, c_X2_lead_l161 F f m b (Int32.ofNat r) = some z ∧ (match jlc D ix t r R with
    | none => ∃ m', z = .inl (0, m') ∧ jfr (jSle b) m m' ∧ (∀ j, j ≠ 16 → j ≠ 17 → jI m' b j = jI m b j) ∧ jL m' b = jL m b
    | some R' => ∃ m', z = .inr m' ∧ jfr (jSle b) m m' ∧ (∀ j, j ≠ 16 → j ≠ 17 → jI m' b j = jI m b j) ∧ jL m' b = jL m b ∧ jsd D (jPc D 4) R' b m') := by
  intro t
  induction t with
  | zero =>
    intro r f m R h1 h2 hI hM hp hs hl
    obtain ⟨f, rfl⟩ := jsucc h2
    have hr : r = 4 := by omega
    subst hr
    refine ⟨.inr m, ?_, m, rfl, jfr.rfl, fun _ _ _ => rfl, rfl, hs⟩
    show c_X2_lead_l161_b F _ m _ _ = _
    unfold c_X2_lead_l161_b
    rw [jl_4, if_pos (ji_lep (by omega) (by omega) (by omega))]
  | succ t ih =>
    intro r f m R h1 h2 hI hM hp hs hl
    obtain ⟨f, rfl⟩ := jsucc h2
    have hlt := hI.1.2.2.2.2.2.2.2.2.2.2.2.2.2.2.2.2.2.2
    have hst : ∀ z, (if jbi ((jdC D).testBit r) = 0 then c_X2_lead_l161 F f m b (Int32.ofNat (r + 1)) else jb (c_X2_check F m b (Int32.ofNat r)) fun t50 => (if t50.1 = 0 then some (.inl ((0 : Int32), t50.2)) else c_X2_lead_l161 F f t50.2 b (Int32.ofNat (r + 1)))) = z → c_X2_lead_l161 F (f + 1) m b (Int32.ofNat r) = z := by
      intro z h
      rw [← h]
      show c_X2_lead_l161_b F _ m _ _ = _
      unfold c_X2_lead_l161_b
      rw [jl_4, if_neg (ji_len (by omega) (by omega) (by omega)), jgd_t hI.1.1, hI.1.2.1, jgd_t hlt.1, hM.2.1, q_isIn (by omega) (by have := jdC_lt (D := D); omega), jb_some, show Int32.ofNat r + 1 = Int32.ofNat (r + 1) from ji_add r 1]
    unfold jlc
    cases ec : (jdC D).testBit r with
    | false =>
      rw [if_neg (by decide)]
      have hPe : ∀ x, x < 4 → jPc D r x = jPc D (r + 1) x := by
        intro x hx
        unfold jPc
        by_cases e : x = r
        · subst e
          rw [ec, Bool.false_and, Bool.false_and]
        · have : decide (x < r) = decide (x < r + 1) := by
            by_cases h : x < r
            · rw [decide_eq_true h, decide_eq_true (by omega)]
            · rw [decide_eq_false h, decide_eq_false (by omega)]
          rw [this]
      obtain ⟨z, y1, y2⟩ := ih (r + 1) f m R (by omega) (by omega) hI hM hp (jsd_c hPe hs) hl
      refine ⟨z, hst _ ?_, y2⟩
      rw [ec, if_pos (by decide)]
      exact y1
    | true =>
      rw [if_pos rfl]
      have hqr := ((jdK_bits (D := D) r (by omega)).2.mp ec)
      have hPr : jPc D r r = false := by
        unfold jPc
        have : (jdK D).testBit r = false := by simpa using hqr.2
        rw [this, decide_eq_false (by omega), Bool.and_false, Bool.or_false]
      obtain ⟨m1, a1, a2, a3, a4, a5⟩ := q_check (F := F) (by omega) (show r < 4 by omega) hI (by rw [hp r (by omega), if_pos hqr.1]) hPr hs (hix r (by omega) ec) (hl r (by omega) ec)
      have hI1 : jIn D b m1 := jIn_fr (S := jSle b) (fun a ha => by unfold jSle at ha; omega) a2 hI
      have hM1 : jTM D (b + 1) m1 := jTM_of (fun a h1 h2 => a2.2.2.2.2.2.1 a (by unfold jSle; omega)) hM
      cases ek : jpk2 D r (jMc D R r) (jDz D r) 0 (ix r) with
      | none =>
        rw [ek] at a1
        refine ⟨.inl (0, m1), hst _ ?_, m1, rfl, a2, a4, by rw [a3]⟩
        rw [ec, if_neg (by decide), a1, jb_some]
        rfl
      | some k =>
        rw [ek] at a1
        have hs1 := a5 k ek
        have hPe : ∀ x, x < 4 → (jPc D r x || x == r) = jPc D (r + 1) x := by
          intro x hx
          unfold jPc
          by_cases e : x = r
          · subst e
            rw [ec, decide_eq_true (show x < x + 1 by omega)]
            simp
          · have : decide (x < r) = decide (x < r + 1) := by
              by_cases h : x < r
              · rw [decide_eq_true h, decide_eq_true (by omega)]
              · rw [decide_eq_false h, decide_eq_false (by omega)]
            rw [this]
            simp [e]
        obtain ⟨z, y1, y2⟩ := ih (r + 1) f m1 (fun y => if y = r then k else R y) (by omega) (by omega) hI1 hM1 (fun x hx => by rw [a2.2.2.2.2.2.1 _ (by unfold jSle; omega)]; exact hp x hx) (jsd_c hPe hs1) (fun x hx hc => by rw [a3]; exact hl x hx hc)
        refine ⟨z, hst _ ?_, ?_⟩
        · rw [ec, if_neg (by decide), a1, jb_some]
          dsimp only
          rw [if_neg (show ¬ jbi (some k).isSome = 0 by show ¬ jbi true = 0; decide)]
          exact y1
        · dsimp only
          cases ej : jlc D ix t (r + 1) (fun y => if y = r then k else R y) with
          | none =>
            rw [ej] at y2
            obtain ⟨m', z1, z2, z3, z4⟩ := y2
            exact ⟨m', z1, a2.trans z2, fun j j1 j2 => by rw [z3 j j1 j2, a4 j j1 j2], by rw [z4, a3]⟩
          | some R' =>
            rw [ej] at y2
            obtain ⟨m', z1, z2, z3, z4, z5⟩ := y2
            exact ⟨m', z1, a2.trans z2, fun j j1 j2 => by rw [z3 j j1 j2, a4 j j1 j2], by rw [z4, a3], z5⟩
end LEAD2
