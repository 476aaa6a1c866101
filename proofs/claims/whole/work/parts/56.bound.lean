/-! bounds of checks -/
theorem jsum_small {f : Nat → Nat} {c : Nat} : ∀ {n : Nat}, (∀ i, i < n → f i ≤ c) → jsum n f ≤ n * c := by
  intro n
  induction n with
  | zero => intro _; exact Nat.zero_le _
  | succ n ih =>
    intro h
    rw [jsum_s, Nat.succ_mul]
    exact Nat.add_le_add (ih (fun i hi => h i (by omega))) (h n (by omega))
section BOUND
variable {F b : Nat} {D : jD}
theorem q_worthsAhead_l6 {m : jMe} {r : Nat} (hr : r < 4) (hI : jIn D b m) (hp : jI m (b + 11) r = Int32.ofNat (jpw D r)) {g0 gs : Int32} {S : Nat → Bool} (hgs : ∀ a, a < 8 → jnb gs a = if S a then 15 else 0) {e : Nat} (he : e < 100) : ∀ (t k f : Nat), k + t = min (jDz D r) e → t < f → c_X2_worthsAhead_l6 F m f b (Int32.ofNat r) (Int32.ofNat e) g0 gs (Int64.ofNat (jsum k (fun x => if (jpb D r x && jmg D r x S (jnb g0)) = true then jwth D r x else 0))) (Int32.ofNat k) = some (Int64.ofNat (jsum (min (jDz D r) e) (fun x => if (jpb D r x && jmg D r x S (jnb g0)) = true then jwth D r x else 0))) := by
  obtain ⟨i1, i2, i3, i4, i5, i6⟩ := hI
  have hz := (i6 r hr).2.2.1
  obtain ⟨r1, r2⟩ := i3.2.2 r hr
  have hpa := i1.2.2.2.2.2.2.2.2.2.2.2.2.2.2.2.1
  intro t
  induction t with
  | zero =>
    intro k f h1 h2
    obtain ⟨f, rfl⟩ := jsucc h2
    have hk : k = min (jDz D r) e := by omega
    subst hk
    show c_X2_worthsAhead_l6_b F _ m _ _ _ _ _ _ _ = _
    unfold c_X2_worthsAhead_l6_b
    rw [jgd_t i1.1, i2, jgd_t i3.1, i3.2.1, jgd_t (ji_int (by omega) hr), ji_n (by omega), r1, jgd_t r2.1, (i5 r hr).2.2.2.1]
    by_cases q : jDz D r ≤ min (jDz D r) e
    · rw [if_pos (ji_lep (by omega) (by omega) q)]
    · rw [if_neg (ji_len (by omega) (by omega) q), if_pos (ji_lep (by omega) (by omega) (by omega))]
  | succ t ih =>
    intro k f h1 h2
    obtain ⟨f, rfl⟩ := jsucc h2
    have hk : k < jDz D r := by omega
    have ih := ih (k + 1) f (by omega) (by omega)
    rw [jsum_s] at ih
    show c_X2_worthsAhead_l6_b F _ m _ _ _ _ _ _ _ = _
    unfold c_X2_worthsAhead_l6_b
    rw [jgd_t i1.1, i2, jgd_t i3.1, i3.2.1, jgd_t (ji_int (by omega) hr), ji_n (by omega), r1, jgd_t r2.1, (i5 r hr).2.2.2.1, if_neg (ji_len (by omega) (by omega) (by omega)), if_neg (ji_len (by omega) (by omega) (by omega)), i1.2.2.2.2.2.2.2.1, jgd_t hpa.1, hpa.2, jgd_t (ji_int (by omega) hr), hp, q_isIn (by omega) (by have := jpw_lt (D := D) (r := r); omega), jb_some, jpw_bit (i6 r hr), jgd_t (ji_int (by omega) hr), q_matches r2 (i6 r hr) (i5 r hr) hk hgs, jb_some, jgd_t (ji_int (by omega) hr), q_worthOf r2 (i6 r hr) (i5 r hr) hk, jb_some, show Int32.ofNat k + 1 = Int32.ofNat (k + 1) from ji_add k 1]
    cases e1 : jpb D r k with
    | false =>
      rw [e1, Bool.false_and, if_neg (by decide), Nat.add_zero] at ih
      rw [if_pos (by decide)]
      exact ih
    | true =>
      rw [e1, Bool.true_and] at ih
      rw [if_neg (by decide)]
      cases e2 : jmg D r k S (jnb g0) with
      | false =>
        rw [e2, if_neg (by decide), Nat.add_zero] at ih
        rw [if_pos (by decide)]
        exact ih
      | true =>
        rw [e2, if_pos rfl, ← jq_add] at ih
        rw [if_neg (by decide)]
        exact ih
theorem q_worthsAhead (hF : 100 < F) {m : jMe} {r : Nat} (hr : r < 4) (hI : jIn D b m) (hp : jI m (b + 11) r = Int32.ofNat (jpw D r)) {g0 gs : Int32} {S : Nat → Bool} (hgs : ∀ a, a < 8 → jnb gs a = if S a then 15 else 0) {e : Nat} (he : e < 100) : c_X2_worthsAhead F m b (Int32.ofNat r) (Int32.ofNat e) g0 gs = some (Int64.ofNat (jsum (min (jDz D r) e) (fun x => if (jpb D r x && jmg D r x S (jnb g0)) = true then jwth D r x else 0))) := by
  have hz := (hI.2.2.2.2.2 r hr).2.2.1
  have h := q_worthsAhead_l6 (F := F) hr hI hp hgs (g0 := g0) he (min (jDz D r) e) 0 F (by omega) (by omega)
  unfold c_X2_worthsAhead
  have h : c_X2_worthsAhead_l6 F m F b (Int32.ofNat r) (Int32.ofNat e) g0 gs (0 : Int64) (0 : Int32) = _ := h
  rw [h, jb_some]
theorem jhp_le {r k : Nat} (hD : jDR D r) : jhp D r k ≤ 32000000000 := by
  have hz := hD.2.2.1
  have h := jsum_small (n := jDz D r) (f := fun m => if (jpb D r m && jmg D r m (jkn D r) (jDv D r k)) = true then jwth D r m else 0) (c := 4000000000) (fun i hi => by
    split
    · exact jwth_le hD hi
    · omega)
  unfold jhp
  omega
theorem jmx_le {f : Nat → Nat} {c : Nat} : ∀ {n : Nat}, (∀ i, i < n → f i ≤ c) → jmx n f ≤ c := by
  intro n
  induction n with
  | zero => intro _; exact Nat.zero_le _
  | succ n ih =>
    intro h
    unfold jmx
    have := ih (fun i hi => h i (by omega))
    have := h n (by omega)
    omega
theorem jbd_le {r : Nat} (hD : jDR D r) : jbd D r ≤ 32000000000 := jmx_le (fun i _ => jhp_le hD)
theorem q_greatestHeap_l5 (hF : 100 < F) {m : jMe} {r : Nat} (hr : r < 4) (hI : jIn D b m) (hp : jI m (b + 11) r = Int32.ofNat (jpw D r)) {gs : Int32} (hgs : ∀ a, a < 8 → jnb gs a = if jkn D r a then 15 else 0) : ∀ (t k f : Nat), k + t = jDz D r → t < f → c_X2_greatestHeap_l5 F m f b (Int32.ofNat r) gs (Int64.ofNat (jmx k (jhp D r))) (Int32.ofNat k) = some (Int64.ofNat (jbd D r)) := by
  have hI0 := hI
  obtain ⟨i1, i2, i3, i4, i5, i6⟩ := hI
  have hz := (i6 r hr).2.2.1
  obtain ⟨r1, r2⟩ := i3.2.2 r hr
  intro t
  induction t with
  | zero =>
    intro k f h1 h2
    obtain ⟨f, rfl⟩ := jsucc h2
    have hk : k = jDz D r := by omega
    subst hk
    show c_X2_greatestHeap_l5_b F _ m _ _ _ _ _ = _
    unfold c_X2_greatestHeap_l5_b
    rw [jgd_t i1.1, i2, jgd_t i3.1, i3.2.1, jgd_t (ji_int (by omega) hr), ji_n (by omega), r1, jgd_t r2.1, (i5 r hr).2.2.2.1, if_pos (ji_lep (by omega) (by omega) (by omega))]
    rfl
  | succ t ih =>
    intro k f h1 h2
    obtain ⟨f, rfl⟩ := jsucc h2
    have hk : k < jDz D r := by omega
    have ih := ih (k + 1) f (by omega) (by omega)
    have hh : jsum (min (jDz D r) 8) (fun x => if (jpb D r x && jmg D r x (jkn D r) (jnb (jI m (jrv r) k))) = true then jwth D r x else 0) = jhp D r k := by
      rw [Nat.min_eq_left hz]
      unfold jhp
      refine jsum_c (fun x hx => ?_)
      rw [jmg_c (fun a _ => rfl) (fun a ha => ((i5 r hr).2.2.2.2.2 k hk).1 a (by omega))]
    have hw := q_worthsAhead hF hr hI0 hp hgs (g0 := jI m (jrv r) k) (e := 8) (by omega)
    rw [hh] at hw
    have b1 := jmx_le (n := k) (f := jhp D r) (c := 32000000000) (fun i _ => jhp_le (i6 r hr))
    have b2 := jhp_le (k := k) (i6 r hr)
    show c_X2_greatestHeap_l5_b F _ m _ _ _ _ _ = _
    unfold c_X2_greatestHeap_l5_b
    rw [jgd_t i1.1, i2, jgd_t i3.1, i3.2.1, jgd_t (ji_int (by omega) hr), ji_n (by omega), r1, jgd_t r2.1, (i5 r hr).2.2.2.1, if_neg (ji_len (by omega) (by omega) (by omega)), jgd_t (ji_int (by omega) hr), r2.2.1, jgd_t r2.2.2.2.1, r2.2.2.2.2.1, jgd_t (ji_int (by omega) (by omega)), ji_n (by omega), jl_8, hw, jb_some, show Int32.ofNat k + 1 = Int32.ofNat (k + 1) from ji_add k 1]
    have hm : (if Int64.ofNat (jhp D r k) < Int64.ofNat (jmx k (jhp D r)) then Int64.ofNat (jmx k (jhp D r)) else Int64.ofNat (jhp D r k)) = Int64.ofNat (jmx (k + 1) (jhp D r)) := by
      have hl := jq_lt (a := jhp D r k) (b := jmx k (jhp D r)) (by unfold jMX; omega) (by unfold jMX; omega)
      show _ = Int64.ofNat (max (jmx k (jhp D r)) (jhp D r k))
      by_cases q : jhp D r k < jmx k (jhp D r)
      · rw [if_pos (hl.mpr q), Nat.max_eq_left (by omega)]
      · rw [if_neg (fun h => q (hl.mp h)), Nat.max_eq_right (by omega)]
    rw [hm]
    exact ih
theorem q_greatestHeap (hF : 100 < F) {m : jMe} {r : Nat} (hr : r < 4) (hI : jIn D b m) (hp : jI m (b + 11) r = Int32.ofNat (jpw D r)) {gs : Int32} (hgs : ∀ a, a < 8 → jnb gs a = if jkn D r a then 15 else 0) : c_X2_greatestHeap F m b (Int32.ofNat r) gs = some (Int64.ofNat (jbd D r)) := by
  have hz := (hI.2.2.2.2.2 r hr).2.2.1
  have h := q_greatestHeap_l5 hF hr hI hp hgs (jDz D r) 0 F (by omega) (by omega)
  unfold c_X2_greatestHeap
  have h : c_X2_greatestHeap_l5 F m F b (Int32.ofNat r) gs (0 : Int64) (0 : Int32) = _ := h
  rw [h, jb_some]
/-- attributes of those of a set K below n -/
def jun (D : jD) (p : Nat → Bool) (n a : Nat) : Bool := (List.range n).any fun q => p q && (jDa D q).testBit a
theorem jun_s {p : Nat → Bool} {n a : Nat} : jun D p (n + 1) a = (jun D p n a || (p n && (jDa D n).testBit a)) := by
  unfold jun
  rw [List.range_succ, List.any_append]
  simp
theorem jnb_or15 {x y : Int32} {a : Nat} {p q : Bool} (hx : jnb x a = if p then 15 else 0) (hy : jnb y a = if q then 15 else 0) : jnb (x ||| y) a = if (p || q) then 15 else 0 := by
  rw [jnb_or, hx, hy]
  cases p <;> cases q <;> decide
theorem q_boundChecks_l4 {m : jMe} (hI : jIn D b m) (hM : jTM D (b + 1) m) (hq : jDq D < 16) : ∀ (t k f : Nat) (gs : Int32), k + t = 4 → t < f → (∀ a, a < 8 → jnb gs a = if jun D (fun q => (jdK D).testBit q) k a then 15 else 0) → ∃ gs', c_X2_boundChecks_l4 F f m b gs (Int32.ofNat k) = some (m, b, gs') ∧ (∀ a, a < 8 → jnb gs' a = if jun D (fun q => (jdK D).testBit q) 4 a then 15 else 0) := by
  obtain ⟨i1, i2, i3, i4, i5, i6⟩ := hI
  have hlt := i1.2.2.2.2.2.2.2.2.2.2.2.2.2.2.2.2.2.2
  intro t
  induction t with
  | zero =>
    intro k f gs h1 h2 h3
    obtain ⟨f, rfl⟩ := jsucc h2
    have hk : k = 4 := by omega
    subst hk
    refine ⟨gs, ?_, h3⟩
    show c_X2_boundChecks_l4_b F _ m _ _ _ = _
    unfold c_X2_boundChecks_l4_b
    rw [jl_4, if_pos (ji_lep (by omega) (by omega) (by omega))]
  | succ t ih =>
    intro k f gs h1 h2 h3
    obtain ⟨f, rfl⟩ := jsucc h2
    obtain ⟨r1, r2⟩ := i3.2.2 k (by omega)
    have hst : ∀ z, (if jbi ((jdK D).testBit k) = 0 then c_X2_boundChecks_l4 F f m b (gs ||| 0) (Int32.ofNat (k + 1)) else c_X2_boundChecks_l4 F f m b (gs ||| jI m (jrc k) 4) (Int32.ofNat (k + 1))) = z → c_X2_boundChecks_l4 F (f + 1) m b gs (Int32.ofNat k) = z := by
      intro z h
      rw [← h]
      show c_X2_boundChecks_l4_b F _ m _ _ _ = _
      unfold c_X2_boundChecks_l4_b
      rw [jl_4, if_neg (ji_len (by omega) (by omega) (by omega)), jgd_t i1.1, i1.2.1, jgd_t hlt.1, hM.1, q_isIn (by omega) (by have := jdK_lt hq; omega), jb_some, i2, jgd_t i3.1, i3.2.1, jgd_t (ji_int (by omega) (by omega)), ji_n (by omega), r1, jgd_t r2.1, show Int32.ofNat k + 1 = Int32.ofNat (k + 1) from ji_add k 1]
    cases e : (jdK D).testBit k with
    | false =>
      obtain ⟨gs', y1, y2⟩ := ih (k + 1) f (gs ||| 0) (by omega) (by omega) (fun a ha => by
        rw [Int32.or_zero, h3 a ha, jun_s, e, Bool.false_and, Bool.or_false])
      refine ⟨gs', hst _ ?_, y2⟩
      rw [e, if_pos (by decide)]
      exact y1
    | true =>
      obtain ⟨gs', y1, y2⟩ := ih (k + 1) f (gs ||| jI m (jrc k) 4) (by omega) (by omega) (fun a ha => by
        rw [jnb_or15 (h3 a ha) ((i5 k (by omega)).2.2.1 a ha), jun_s, e, Bool.true_and])
      refine ⟨gs', hst _ ?_, y2⟩
      rw [e, if_neg (by decide)]
      exact y1
theorem jkn_e {r a : Nat} (hr : r ≤ 4) : jkn D r a = (jun D (fun q => (jdK D).testBit q) 4 a || jun D (fun q => (jdC D).testBit q) r a) := by
  rw [Bool.eq_iff_iff]
  unfold jkn jun
  simp only [List.any_eq_true, List.mem_range, Bool.or_eq_true, Bool.and_eq_true, decide_eq_true_eq]
  constructor
  · rintro ⟨x, h1, h2 | h2, h3⟩
    · exact Or.inl ⟨x, h1, h2, h3⟩
    · exact Or.inr ⟨x, h2.2, h2.1, h3⟩
  · rintro (⟨x, h1, h2, h3⟩ | ⟨x, h1, h2, h3⟩)
    · exact ⟨x, h1, Or.inl h2, h3⟩
    · exact ⟨x, by omega, Or.inr ⟨h2, h1⟩, h3⟩
end BOUND
