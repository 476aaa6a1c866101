/-! rows, relations, as the reference adds them -/
section YROW3
variable {F : Nat} {D : jD} {S : jTS}
theorem jbt_jin {v : Int32} {n : Nat} : jbt2 v 0 n = jin v (n + 1) := by
  unfold jbt2 jin
  congr 1
  exact decide_eq_decide.mpr (by omega)
theorem jpop_1 {s : Nat} (h : s < 64) (h1 : 1 ≤ s) : 1 ≤ jpop 8 s := by
  have : ∀ s : Fin 64, 1 ≤ s.1 → 1 ≤ jpop 8 s.1 := by decide +kernel
  exact this ⟨s, h⟩ h1
theorem y_row (hF : 1000 < F) (hDS : jDS D S) {m : jMe} (hQ : jyQ D S m) {x1 x2 x3 x4 x5 : Int32} : ∃ m', c_X10_row F m 101 x1 x2 x3 x4 x5 = some ((jrowr D x1 x2 x3 x4 x5).1, m') ∧ jfx (fun a _ => 107 ≤ a ∧ a ≤ 110) m m' ∧ jyQ (jrowr D x1 x2 x3 x4 x5).2 S m' ∧ jDS (jrowr D x1 x2 x3 x4 x5).2 S := by
  have hD := hDS.1
  have hL := hQ.1.1
  have hn := hD.1
  unfold c_X10_row jrowr
  rw [jgd_t hL.1, y_isRelation hL hQ.1.2.1 hD, jb_some]
  cases e1 : jin x1 (jDn D) with
  | false => exact ⟨m, rfl, jfx.rfl, hQ, hDS⟩
  | true =>
    obtain ⟨r, rfl, hr1, hr2⟩ := jin_nat e1
    have hr4 : r < 4 := by omega
    have hDr := hD.2.2.1 r hr4
    have hp1 := jpop_1 hDr.2.1 (hD.2.2.2.1 r hr2).1
    have hp3 := (hD.2.2.2.1 r hr2).2
    rw [if_neg (show ¬ jbi true = 0 by decide), show c_X10_in F m (Int32.toInt64 x5) (1 : Int64) (2000000000 : Int64) = some (jbi (jbt2 x5 1 2000000000)) from q_in_int (lo := 1) (hi := 2000000000) (by omega) (by omega), jb_some, ji_n hr1, Bool.true_and]
    cases e5 : jbt2 x5 1 2000000000 with
    | false => exact ⟨m, rfl, jfx.rfl, hQ, hDS⟩
    | true =>
      obtain ⟨v, rfl, hv, hv1, hv2⟩ := jbt2_nat e5
      have hi2 : ∀ x : Int32, c_X10_in F m (Int32.toInt64 x) (0 : Int64) (9 : Int64) = some (jbi (jin x 10)) := fun x => by
        rw [show c_X10_in F m (Int32.toInt64 x) (0 : Int64) (9 : Int64) = some (jbi (jbt2 x 0 9)) from q_in_int (lo := 0) (hi := 9) (by omega) (by omega), jbt_jin]
      have hcn := jcnt_6 hDr.2.1
      have hno : ∀ j, j < jpop 8 (jDa D r) → jin (jxyz x2 x3 x4 j) 10 = false → jpkd (jDa D r) (jxyz x2 x3 x4) 6 0 0 = none := fun j h1 h2 => jpkd_n 6 0 0 j (by rw [hcn]; exact h1) (by rw [Nat.zero_add]; exact h2)
      have hyes : (∀ j, j < jpop 8 (jDa D r) → jin (jxyz x2 x3 x4 j) 10 = true) → ∃ f, jpkd (jDa D r) (jxyz x2 x3 x4) 6 0 0 = some f := fun h => by
        obtain ⟨f, f1, _⟩ := jpkd_y (s := jDa D r) (u := jxyz x2 x3 x4) 6 0 0 (fun j hj => by rw [Nat.zero_add]; exact h j (by rw [← hcn]; exact hj))
        exact ⟨f, f1⟩
      rw [if_neg (show ¬ jbi true = 0 by decide), if_pos (show true = true from rfl), ji_n hv, jp_106 hL, jgd_t (jk_106 hL), jz_106 hL, jgd_t (ji_int (by omega) hr4), (hQ.1.2.1.2.2.2 r hr4).2.1, q_bitsOf (by omega) (by have := hDr.2.1; omega), jb_some, hi2, jb_some]
      have hbad : ∀ j, j < jpop 8 (jDa D r) → jin (jxyz x2 x3 x4 j) 10 = false → ∃ m', (some ((-2 : Int32), m) : Option (Int32 × jMe)) = some ((match jpkd (jDa D r) (jxyz x2 x3 x4) 6 0 0 with
          | none => ((-2 : Int32), D)
          | some f => if jtk D r f = true then (if jDz D r = 8 then (-4, D) else (Int32.ofNat (jDz D r), jUw D r f v)) else (-3, D)).1, m') ∧ jfx (fun a _ => 107 ≤ a ∧ a ≤ 110) m m' ∧ jyQ (match jpkd (jDa D r) (jxyz x2 x3 x4) 6 0 0 with
          | none => ((-2 : Int32), D)
          | some f => if jtk D r f = true then (if jDz D r = 8 then (-4, D) else (Int32.ofNat (jDz D r), jUw D r f v)) else (-3, D)).2 S m' ∧ jDS (match jpkd (jDa D r) (jxyz x2 x3 x4) 6 0 0 with
          | none => ((-2 : Int32), D)
          | some f => if jtk D r f = true then (if jDz D r = 8 then (-4, D) else (Int32.ofNat (jDz D r), jUw D r f v)) else (-3, D)).2 S := fun j h1 h2 => by
        rw [hno j h1 h2]
        exact ⟨m, rfl, jfx.rfl, hQ, hDS⟩
      have hgood : (∀ j, j < jpop 8 (jDa D r) → jin (jxyz x2 x3 x4 j) 10 = true) → ∃ m', c_X10_row_j87 F m 101 (Int32.ofNat r) x2 x3 x4 (Int32.ofNat v) = some ((match jpkd (jDa D r) (jxyz x2 x3 x4) 6 0 0 with
          | none => ((-2 : Int32), D)
          | some f => if jtk D r f = true then (if jDz D r = 8 then (-4, D) else (Int32.ofNat (jDz D r), jUw D r f v)) else (-3, D)).1, m') ∧ jfx (fun a _ => 107 ≤ a ∧ a ≤ 110) m m' ∧ jyQ (match jpkd (jDa D r) (jxyz x2 x3 x4) 6 0 0 with
          | none => ((-2 : Int32), D)
          | some f => if jtk D r f = true then (if jDz D r = 8 then (-4, D) else (Int32.ofNat (jDz D r), jUw D r f v)) else (-3, D)).2 S m' ∧ jDS (match jpkd (jDa D r) (jxyz x2 x3 x4) 6 0 0 with
          | none => ((-2 : Int32), D)
          | some f => if jtk D r f = true then (if jDz D r = 8 then (-4, D) else (Int32.ofNat (jDz D r), jUw D r f v)) else (-3, D)).2 S := fun h => by
        obtain ⟨f, hf⟩ := hyes h
        rw [hf]
        exact y_row_j87 hF hDS hQ hr2 ⟨hv1, hv2⟩ hf
      unfold c_X10_row_j65
      rw [hi2, hi2, jb_some, jb_some]
      cases g2 : jin x2 10 with
      | false =>
        rw [if_pos (show jbi false = 0 from rfl)]
        exact hbad 0 (by omega) g2
      | true =>
        rw [if_neg (show ¬ jbi true = 0 by decide)]
        by_cases n1 : jpop 8 (jDa D r) ≤ 1
        · rw [if_pos (show Int32.ofNat (jpop 8 (jDa D r)) ≤ 1 from ji_lep (b := 1) (by omega) (by omega) n1), if_pos (show Int32.ofNat (jpop 8 (jDa D r)) ≤ 2 from ji_lep (b := 2) (by omega) (by omega) (by omega))]
          exact hgood (fun j hj => by rw [show j = 0 by omega]; exact g2)
        · rw [if_neg (show ¬ Int32.ofNat (jpop 8 (jDa D r)) ≤ 1 from ji_len (b := 1) (by omega) (by omega) n1)]
          cases g3 : jin x3 10 with
          | false =>
            rw [if_pos (show jbi false = 0 from rfl)]
            exact hbad 1 (by omega) g3
          | true =>
            rw [if_neg (show ¬ jbi true = 0 by decide)]
            by_cases n2 : jpop 8 (jDa D r) ≤ 2
            · rw [if_pos (show Int32.ofNat (jpop 8 (jDa D r)) ≤ 2 from ji_lep (b := 2) (by omega) (by omega) n2)]
              exact hgood (fun j hj => by
                rcases (by omega : j = 0 ∨ j = 1) with rfl | rfl
                · exact g2
                · exact g3)
            · rw [if_neg (show ¬ Int32.ofNat (jpop 8 (jDa D r)) ≤ 2 from ji_len (b := 2) (by omega) (by omega) n2)]
              cases g4 : jin x4 10 with
              | false =>
                rw [if_pos (show jbi false = 0 from rfl)]
                exact hbad 2 (by omega) g4
              | true =>
                rw [if_neg (show ¬ jbi true = 0 by decide)]
                exact hgood (fun j hj => by
                  rcases (by omega : j = 0 ∨ j = 1 ∨ j = 2) with rfl | rfl | rfl
                  · exact g2
                  · exact g3
                  · exact g4)
end YROW3
