/-! answers with a value; rows in no answer -/
/-- how often answers with a value count, by rows of the first relation that has the attribute -/
def jcw (D : jD) (a v : Nat) : Nat := match jfa D a 4 0 with
  | none => 0
  | some r => jsum (jDz D r) (fun k => if jDv D r k a = v then jct D (jfr1 r k) else 0)
section COUNT
variable {F b : Nat} {D : jD}
theorem q_countWith_l63 {m : jMe} {a v r : Nat} (ha : a < 6) (hv : v < 10) (hr : r < 4) (hqr : (jDq D).testBit r = true) (har : (jDa D r).testBit a = true) (hI : jIn D b m) (hty : jTly D b m) : ∀ (t k f s : Nat), k + t = jDz D r → t < f → c_X2_countWith_l63 F f m b (Int32.ofNat a) (Int32.ofNat v) (Int64.ofNat s) (1 : Int32) (Int32.ofNat r) (Int32.ofNat k) = some (m, b, Int32.ofNat a, Int32.ofNat v, Int64.ofNat (s + jsum t (fun i => if jDv D r (k + i) a = v then jct D (jfr1 r (k + i)) else 0)), (1 : Int32), Int32.ofNat r) := by
  have hsh : ∀ (n : Nat) (f : Nat → Nat), jsum (n + 1) f = f 0 + jsum n (fun i => f (i + 1)) := by
    intro n
    induction n with
    | zero => intro f; show 0 + f 0 = f 0 + 0; omega
    | succ n ih2 =>
      intro f
      rw [jsum_s, ih2, jsum_s]
      omega
  obtain ⟨r1, r2⟩ := hI.2.2.1.2.2 r hr
  have hz := (hI.2.2.2.2.2 r hr).2.2.1
  have hus := hI.1.2.2.2.2.2.2.2.2.2.2.2.2.2.1
  intro t
  induction t with
  | zero =>
    intro k f s h1 h2
    obtain ⟨f, rfl⟩ := jsucc h2
    show c_X2_countWith_l63_b F _ m _ _ _ _ _ _ _ = _
    unfold c_X2_countWith_l63_b
    rw [if_neg (show ¬ (1 : Int32) = 0 by decide), jgd_t hI.1.1, hI.2.1, jgd_t hI.2.2.1.1, hI.2.2.1.2.1, jgd_t (ji_int (by omega) hr), ji_n (by omega), r1, jgd_t r2.1, (hI.2.2.2.2.1 r hr).2.2.2.1, if_pos (ji_lep (by omega) (by omega) (by omega))]
    rfl
  | succ t ih =>
    intro k f s h1 h2
    obtain ⟨f, rfl⟩ := jsucc h2
    have hk : k < jDz D r := by omega
    have hu := hty.2 r k hr (by omega)
    rw [if_pos hqr] at hu
    have hd := ((hI.2.2.2.2.2 r hr).2.2.2.2 k hk).1 a
    have hc := ((hI.2.2.2.2.1 r hr).2.2.2.2.2 k hk).1 a (by omega)
    have hst : ∀ z, (if Int32.ofNat (jDv D r k a) = Int32.ofNat v then c_X2_countWith_l63 F f m b (Int32.ofNat a) (Int32.ofNat v) (Int64.ofNat s + Int64.ofNat (jct D (jfr1 r k))) (1 : Int32) (Int32.ofNat r) (Int32.ofNat (k + 1)) else c_X2_countWith_l63 F f m b (Int32.ofNat a) (Int32.ofNat v) (Int64.ofNat s + 0) (1 : Int32) (Int32.ofNat r) (Int32.ofNat (k + 1))) = z → c_X2_countWith_l63 F (f + 1) m b (Int32.ofNat a) (Int32.ofNat v) (Int64.ofNat s) (1 : Int32) (Int32.ofNat r) (Int32.ofNat k) = z := by
      intro z h
      rw [← h]
      show c_X2_countWith_l63_b F _ m _ _ _ _ _ _ _ = _
      unfold c_X2_countWith_l63_b c_X2_countWith_j116_l63
      rw [if_neg (show ¬ (1 : Int32) = 0 by decide), jgd_t hI.1.1, hI.2.1, jgd_t hI.2.2.1.1, hI.2.2.1.2.1, jgd_t (ji_int (by omega) hr), ji_n (by omega), r1, jgd_t r2.1, (hI.2.2.2.2.1 r hr).2.2.2.1, if_neg (ji_len (by omega) (by omega) (by omega)), jgd_t (ji_int (by omega) hr), jgd_t (ji_int (by omega) hr), r2.2.1, jgd_t r2.2.2.2.1, r2.2.2.2.2.1, jgd_t (ji_int (by omega) (by omega)), ji_n (by omega), q_valueAt r2 (hI.2.2.2.2.1 r hr) ha, jb_some, har, if_pos rfl, hc]
      rw [if_neg (show ¬ (1 : Int32) = 0 by decide), jgd_t hI.1.1, hI.1.2.2.2.2.2.1, jgd_t hus.1, hus.2, jl_8, ji_mul, ji_add, jgd_t (ji_int (by omega) (by omega)), ji_n (by omega), hu, if_pos (show (0 : Int32) = 0 from rfl), show Int32.ofNat k + 1 = Int32.ofNat (k + 1) from ji_add k 1]
    have hs : s + jsum (t + 1) (fun i => if jDv D r (k + i) a = v then jct D (jfr1 r (k + i)) else 0) = (s + (if jDv D r k a = v then jct D (jfr1 r k) else 0)) + jsum t (fun i => if jDv D r (k + 1 + i) a = v then jct D (jfr1 r (k + 1 + i)) else 0) := by
      rw [hsh, Nat.add_zero, Nat.add_assoc]
      congr 2
      exact jsum_c (fun i hi => by rw [show k + (i + 1) = k + 1 + i by omega])
    rw [hs]
    by_cases e : jDv D r k a = v
    · rw [if_pos e]
      have := ih (k + 1) f (s + jct D (jfr1 r k)) (by omega) (by omega)
      refine hst _ ?_
      rw [if_pos (by rw [e]), jq_add]
      exact this
    · rw [if_neg e, Nat.add_zero]
      have := ih (k + 1) f s (by omega) (by omega)
      refine hst _ ?_
      rw [if_neg (ji_eqn (by omega) (by omega) e), show Int64.ofNat s + 0 = Int64.ofNat s from Int64.add_zero _]
      exact this
theorem q_countWith_l13 (hF : 100 < F) (hq16 : jDq D < 16) {m : jMe} {a v : Nat} (ha : a < 6) (hv : v < 10) (hI : jIn D b m) (h13 : jI m b 13 = Int32.ofNat (jDq D)) (hty : jTly D b m) : ∀ (t r f : Nat), r + t = 4 → t < f → c_X2_countWith_l13 F f m b (Int32.ofNat a) (Int32.ofNat v) (Int64.ofNat 0) (0 : Int32) (Int32.ofNat r) = some (m, Int64.ofNat (match jfa D a t r with
    | none => 0
    | some r => jsum (jDz D r) (fun k => if jDv D r k a = v then jct D (jfr1 r k) else 0))) := by
  intro t
  induction t with
  | zero =>
    intro r f h1 h2
    obtain ⟨f, rfl⟩ := jsucc h2
    show c_X2_countWith_l13_b F _ m _ _ _ _ _ _ = _
    unfold c_X2_countWith_l13_b
    rw [jl_4, if_pos (ji_lep (by omega) (by omega) (by omega))]
    rfl
  | succ t ih =>
    intro r f h1 h2
    obtain ⟨f, rfl⟩ := jsucc h2
    have hr : r < 4 := by omega
    obtain ⟨r1, r2⟩ := hI.2.2.1.2.2 r hr
    have hz := (hI.2.2.2.2.2 r hr).2.2.1
    have hA := (hI.2.2.2.2.2 r hr).2.1
    have h63 : c_X2_countWith_l63 F F m b (Int32.ofNat a) (Int32.ofNat v) (Int64.ofNat 0) (0 : Int32) (Int32.ofNat r) (0 : Int32) = some (m, b, Int32.ofNat a, Int32.ofNat v, Int64.ofNat 0, (0 : Int32), Int32.ofNat r) := by
      obtain ⟨F', rfl⟩ := jsucc (show 0 < F by omega)
      show c_X2_countWith_l63_b (F' + 1) _ m _ _ _ _ _ _ _ = _
      unfold c_X2_countWith_l63_b
      rw [if_pos rfl]
    have ih := ih (r + 1) f (by omega) (by omega)
    have hst : ∀ z, (if jbi ((jDq D).testBit r) = 0 then c_X2_countWith_l13 F f m b (Int32.ofNat a) (Int32.ofNat v) (Int64.ofNat 0) (0 : Int32) (Int32.ofNat (r + 1)) else (if jbi ((jDa D r).testBit a) = 0 then c_X2_countWith_l13 F f m b (Int32.ofNat a) (Int32.ofNat v) (Int64.ofNat 0) (0 : Int32) (Int32.ofNat (r + 1)) else jb (c_X2_countWith_l63 F F m b (Int32.ofNat a) (Int32.ofNat v) (Int64.ofNat 0) (1 : Int32) (Int32.ofNat r) (0 : Int32)) fun e40 => c_X2_countWith_l13 F f e40.1 e40.2.1 e40.2.2.1 e40.2.2.2.1 e40.2.2.2.2.1 e40.2.2.2.2.2.1 (e40.2.2.2.2.2.2 + (1 : Int32)))) = z → c_X2_countWith_l13 F (f + 1) m b (Int32.ofNat a) (Int32.ofNat v) (Int64.ofNat 0) (0 : Int32) (Int32.ofNat r) = z := by
      intro z h
      rw [← h]
      show c_X2_countWith_l13_b F _ m _ _ _ _ _ _ = _
      unfold c_X2_countWith_l13_b
      rw [jl_4, if_neg (ji_len (by omega) (by omega) (by omega)), if_pos (show (0 : Int32) = 0 from rfl), jgd_t hI.1.1, h13, q_isIn (by omega) (by omega), jb_some, h63, jb_some, hI.2.1, jgd_t hI.2.2.1.1, hI.2.2.1.2.1, jgd_t (ji_int (by omega) hr), ji_n (by omega), r1, jgd_t r2.1, (hI.2.2.2.2.1 r hr).2.1, q_isIn (by omega) (by omega), jb_some]
      dsimp only
      rw [show Int32.ofNat r + 1 = Int32.ofNat (r + 1) from ji_add r 1]
    unfold jfa
    by_cases e : (jDq D).testBit r = true ∧ (jDa D r).testBit a = true
    · rw [if_pos e]
      have h1 := q_countWith_l63 (F := F) ha hv hr e.1 e.2 hI hty (jDz D r) 0 F 0 (by omega) (by omega)
      have h1 : c_X2_countWith_l63 F F m b (Int32.ofNat a) (Int32.ofNat v) (Int64.ofNat 0) (1 : Int32) (Int32.ofNat r) (0 : Int32) = _ := h1
      refine hst _ ?_
      rw [e.1, e.2, if_neg (by decide), if_neg (by decide), h1, jb_some]
      dsimp only
      simp only [Nat.zero_add]
      obtain ⟨f, rfl⟩ := jsucc (show 0 < f by omega)
      show c_X2_countWith_l13_b F _ m _ _ _ _ _ _ = _
      unfold c_X2_countWith_l13_b
      rw [show Int32.ofNat r + 1 = Int32.ofNat (r + 1) from ji_add r 1, if_neg (show ¬ (1 : Int32) = 0 by decide)]
      split <;> rfl
    · rw [if_neg e]
      refine hst _ ?_
      cases e1 : (jDq D).testBit r with
      | false =>
        rw [if_pos (by decide)]
        exact ih
      | true =>
        cases e2 : (jDa D r).testBit a with
        | false =>
          rw [if_neg (by decide), if_pos (by decide)]
          exact ih
        | true => exact absurd ⟨e1, e2⟩ e
end COUNT
